theorem dc_270_0 : ([(0, .iconst 0, 1), (1, .istore_n 1, 1), (2, .iload_n 1, 1), (3, .aload_n 0, 1), (4, .getfield 403, 3), (7, .if_icmp .ge 37, 3), (10, .aload_n 0, 1), (11, .getfield 124, 3), (14, .iload_n 1, 1), (15, .aload_n 0, 1), (16, .getfield 85, 3), (19, .iload_n 1, 1), (20, .baload, 1), (21, .ifCond .eq 15, 3), (24, .aload_n 0, 1), (25, .iload_n 1, 1), (26, .invokevirtual 497, 3), (29, .ifCond .eq 7, 3), (32, .iconst 1, 1), (33, .goto 4, 3), (36, .iconst 0, 1), (37, .bastore, 1), (38, .iinc 1 1, 3), (41, .goto (-39), 3), (44, .return_, 1)] : List (Nat × Instr × Nat)).all (fun e => decide (decode prog_14_method_102_code e.1 = .ok e.2)) = true := by decide +kernel
abbrev cl_270_0 : List (Nat × jm_O) := [(0, op_ic 0 1), (1, op_istore 1 1), (2, op_iload 1 1), (3, op_aload 0 1), (4, op_getI 11 24), (7, op_cge 44), (10, op_aload 0 1), (11, op_getA 11 52), (14, op_iload 1 1), (15, op_aload 0 1), (16, op_getA 11 29), (19, op_iload 1 1), (20, op_iald 15), (21, op_ifeq 36), (24, op_aload 0 1), (25, op_iload 1 1), (26, op_callV 11 255 2), (29, op_ifeq 36), (32, op_ic 1 1), (33, op_goto 37), (36, op_ic 0 1), (37, op_zast), (38, op_iinc 1 1), (41, op_goto 2), (44, op_vret)]
set_option maxRecDepth 100000 in
theorem gl_270_0 : jm_gl "FrescoWallModel" prog_14_method_102_code 2 (Option.none : Option Jvm.ClassFile.FieldType) false cl_270_0 :=
  jm_gc (pu_ic _ _) (sn_iconst (jm_dc dc_270_0 0 rfl) (by decide)) (
  jm_gc (pu_istore _ _) (sn_istore_n (i := 1) (jm_dc dc_270_0 1 rfl)) (
  jm_gc (pu_iload _ _) (sn_iload_n (i := 1) (jm_dc dc_270_0 2 rfl)) (
  jm_gc (pu_aload _ _) (sn_aload_n (i := 0) (jm_dc dc_270_0 3 rfl)) (
  jm_gc (pu_getI _ _) (sn_getI (jm_dc dc_270_0 4 rfl) fl_11_403 (Or.inl rfl)) (
  jm_gc (pu_cge _) (sn_cge (jm_dc dc_270_0 5 rfl) (by decide)) (
  jm_gc (pu_aload _ _) (sn_aload_n (i := 0) (jm_dc dc_270_0 6 rfl)) (
  jm_gc (pu_getA _ _) (sn_getA (jm_dc dc_270_0 7 rfl) fl_11_124 rfl) (
  jm_gc (pu_iload _ _) (sn_iload_n (i := 1) (jm_dc dc_270_0 8 rfl)) (
  jm_gc (pu_aload _ _) (sn_aload_n (i := 0) (jm_dc dc_270_0 9 rfl)) (
  jm_gc (pu_getA _ _) (sn_getA (jm_dc dc_270_0 10 rfl) fl_11_85 rfl) (
  jm_gc (pu_iload _ _) (sn_iload_n (i := 1) (jm_dc dc_270_0 11 rfl)) (
  jm_gc (pu_iald _) (sn_zald (jm_dc dc_270_0 12 rfl)) (
  jm_gc (pu_ifeq _) (sn_ifeq (jm_dc dc_270_0 13 rfl) (by decide)) (
  jm_gc (pu_aload _ _) (sn_aload_n (i := 0) (jm_dc dc_270_0 14 rfl)) (
  jm_gc (pu_iload _ _) (sn_iload_n (i := 1) (jm_dc dc_270_0 15 rfl)) (
  jm_gc (pu_callV _ _ _) (sn_callV (jm_dc dc_270_0 16 rfl) lk_11_497) (
  jm_gc (pu_ifeq _) (sn_ifeq (jm_dc dc_270_0 17 rfl) (by decide)) (
  jm_gc (pu_ic _ _) (sn_iconst (jm_dc dc_270_0 18 rfl) (by decide)) (
  jm_gc (pu_goto _) (sn_goto (jm_dc dc_270_0 19 rfl) (by decide)) (
  jm_gc (pu_ic _ _) (sn_iconst (jm_dc dc_270_0 20 rfl) (by decide)) (
  jm_gc (pu_zast) (sn_zast (jm_dc dc_270_0 21 rfl)) (
  jm_gc (pu_iinc _ _) (sn_iinc (jm_dc dc_270_0 22 rfl) (by decide)) (
  jm_gc (pu_goto _) (sn_goto (jm_dc dc_270_0 23 rfl) (by decide)) (
  jm_gc (pu_vret) (sn_vret (jm_dc dc_270_0 24 rfl) rfl) (
  jm_gn)))))))))))))))))))))))))
theorem dc_271_0 : ([(0, .aload_n 0, 1), (1, .iload_n 1, 1), (2, .iconst 1, 1), (3, .invokevirtual 422, 3), (6, .iconst (-1), 1), (7, .istore_n 2, 1), (8, .iconst 0, 1), (9, .istore_n 3, 1), (10, .iload_n 3, 1), (11, .aload_n 0, 1), (12, .getfield 215, 3), (15, .if_icmp .ge 54, 3), (18, .aload_n 0, 1), (19, .getfield 88, 3), (22, .iload_n 3, 1), (23, .baload, 1), (24, .ifCond .eq 37, 3), (27, .aload_n 0, 1), (28, .getfield 127, 3), (31, .iload_n 3, 1), (32, .iaload, 1), (33, .iconst (-1), 1), (34, .if_icmp .eq 27, 3), (37, .iload_n 2, 1), (38, .iconst (-1), 1)] : List (Nat × Instr × Nat)).all (fun e => decide (decode prog_14_method_103_code e.1 = .ok e.2)) = true := by decide +kernel
abbrev cl_271_0 : List (Nat × jm_O) := [(0, op_aload 0 1), (1, op_iload 1 1), (2, op_ic 1 1), (3, op_callV 11 237 3), (6, op_ic (-1) 1), (7, op_istore 2 1), (8, op_ic 0 1), (9, op_istore 3 1), (10, op_iload 3 1), (11, op_aload 0 1), (12, op_getI 11 3), (15, op_cge 69), (18, op_aload 0 1), (19, op_getA 11 30), (22, op_iload 3 1), (23, op_iald 15), (24, op_ifeq 61), (27, op_aload 0 1), (28, op_getA 11 53), (31, op_iload 3 1), (32, op_iald 13), (33, op_ic (-1) 1), (34, op_ceq 61), (37, op_iload 2 1), (38, op_ic (-1) 1)]
set_option maxRecDepth 100000 in
theorem gl_271_0 : jm_gl "FrescoWallModel" prog_14_method_103_code 4 (Option.some Jvm.ClassFile.FieldType.int) false cl_271_0 :=
  jm_gc (pu_aload _ _) (sn_aload_n (i := 0) (jm_dc dc_271_0 0 rfl)) (
  jm_gc (pu_iload _ _) (sn_iload_n (i := 1) (jm_dc dc_271_0 1 rfl)) (
  jm_gc (pu_ic _ _) (sn_iconst (jm_dc dc_271_0 2 rfl) (by decide)) (
  jm_gc (pu_callV _ _ _) (sn_callV (jm_dc dc_271_0 3 rfl) lk_11_422) (
  jm_gc (pu_ic _ _) (sn_iconst (jm_dc dc_271_0 4 rfl) (by decide)) (
  jm_gc (pu_istore _ _) (sn_istore_n (i := 2) (jm_dc dc_271_0 5 rfl)) (
  jm_gc (pu_ic _ _) (sn_iconst (jm_dc dc_271_0 6 rfl) (by decide)) (
  jm_gc (pu_istore _ _) (sn_istore_n (i := 3) (jm_dc dc_271_0 7 rfl)) (
  jm_gc (pu_iload _ _) (sn_iload_n (i := 3) (jm_dc dc_271_0 8 rfl)) (
  jm_gc (pu_aload _ _) (sn_aload_n (i := 0) (jm_dc dc_271_0 9 rfl)) (
  jm_gc (pu_getI _ _) (sn_getI (jm_dc dc_271_0 10 rfl) fl_11_215 (Or.inl rfl)) (
  jm_gc (pu_cge _) (sn_cge (jm_dc dc_271_0 11 rfl) (by decide)) (
  jm_gc (pu_aload _ _) (sn_aload_n (i := 0) (jm_dc dc_271_0 12 rfl)) (
  jm_gc (pu_getA _ _) (sn_getA (jm_dc dc_271_0 13 rfl) fl_11_88 rfl) (
  jm_gc (pu_iload _ _) (sn_iload_n (i := 3) (jm_dc dc_271_0 14 rfl)) (
  jm_gc (pu_iald _) (sn_zald (jm_dc dc_271_0 15 rfl)) (
  jm_gc (pu_ifeq _) (sn_ifeq (jm_dc dc_271_0 16 rfl) (by decide)) (
  jm_gc (pu_aload _ _) (sn_aload_n (i := 0) (jm_dc dc_271_0 17 rfl)) (
  jm_gc (pu_getA _ _) (sn_getA (jm_dc dc_271_0 18 rfl) fl_11_127 rfl) (
  jm_gc (pu_iload _ _) (sn_iload_n (i := 3) (jm_dc dc_271_0 19 rfl)) (
  jm_gc (pu_iald _) (sn_iald (jm_dc dc_271_0 20 rfl)) (
  jm_gc (pu_ic _ _) (sn_iconst (jm_dc dc_271_0 21 rfl) (by decide)) (
  jm_gc (pu_ceq _) (sn_ceq (jm_dc dc_271_0 22 rfl) (by decide)) (
  jm_gc (pu_iload _ _) (sn_iload_n (i := 2) (jm_dc dc_271_0 23 rfl)) (
  jm_gc (pu_ic _ _) (sn_iconst (jm_dc dc_271_0 24 rfl) (by decide)) (
  jm_gn)))))))))))))))))))))))))
theorem dc_271_1 : ([(39, .if_icmp .eq 18, 3), (42, .aload_n 0, 1), (43, .getfield 127, 3), (46, .iload_n 3, 1), (47, .iaload, 1), (48, .aload_n 0, 1), (49, .getfield 127, 3), (52, .iload_n 2, 1), (53, .iaload, 1), (54, .if_icmp .ge 7, 3), (57, .iload_n 3, 1), (58, .goto 4, 3), (61, .iload_n 2, 1), (62, .istore_n 2, 1), (63, .iinc 3 1, 3), (66, .goto (-56), 3), (69, .iload_n 2, 1), (70, .ireturn, 1)] : List (Nat × Instr × Nat)).all (fun e => decide (decode prog_14_method_103_code e.1 = .ok e.2)) = true := by decide +kernel
abbrev cl_271_1 : List (Nat × jm_O) := [(39, op_ceq 57), (42, op_aload 0 1), (43, op_getA 11 53), (46, op_iload 3 1), (47, op_iald 13), (48, op_aload 0 1), (49, op_getA 11 53), (52, op_iload 2 1), (53, op_iald 13), (54, op_cge 61), (57, op_iload 3 1), (58, op_goto 62), (61, op_iload 2 1), (62, op_istore 2 1), (63, op_iinc 3 1), (66, op_goto 10), (69, op_iload 2 1), (70, op_iret)]
set_option maxRecDepth 100000 in
theorem gl_271_1 : jm_gl "FrescoWallModel" prog_14_method_103_code 4 (Option.some Jvm.ClassFile.FieldType.int) false cl_271_1 :=
  jm_gc (pu_ceq _) (sn_ceq (jm_dc dc_271_1 0 rfl) (by decide)) (
  jm_gc (pu_aload _ _) (sn_aload_n (i := 0) (jm_dc dc_271_1 1 rfl)) (
  jm_gc (pu_getA _ _) (sn_getA (jm_dc dc_271_1 2 rfl) fl_11_127 rfl) (
  jm_gc (pu_iload _ _) (sn_iload_n (i := 3) (jm_dc dc_271_1 3 rfl)) (
  jm_gc (pu_iald _) (sn_iald (jm_dc dc_271_1 4 rfl)) (
  jm_gc (pu_aload _ _) (sn_aload_n (i := 0) (jm_dc dc_271_1 5 rfl)) (
  jm_gc (pu_getA _ _) (sn_getA (jm_dc dc_271_1 6 rfl) fl_11_127 rfl) (
  jm_gc (pu_iload _ _) (sn_iload_n (i := 2) (jm_dc dc_271_1 7 rfl)) (
  jm_gc (pu_iald _) (sn_iald (jm_dc dc_271_1 8 rfl)) (
  jm_gc (pu_cge _) (sn_cge (jm_dc dc_271_1 9 rfl) (by decide)) (
  jm_gc (pu_iload _ _) (sn_iload_n (i := 3) (jm_dc dc_271_1 10 rfl)) (
  jm_gc (pu_goto _) (sn_goto (jm_dc dc_271_1 11 rfl) (by decide)) (
  jm_gc (pu_iload _ _) (sn_iload_n (i := 2) (jm_dc dc_271_1 12 rfl)) (
  jm_gc (pu_istore _ _) (sn_istore_n (i := 2) (jm_dc dc_271_1 13 rfl)) (
  jm_gc (pu_iinc _ _) (sn_iinc (jm_dc dc_271_1 14 rfl) (by decide)) (
  jm_gc (pu_goto _) (sn_goto (jm_dc dc_271_1 15 rfl) (by decide)) (
  jm_gc (pu_iload _ _) (sn_iload_n (i := 2) (jm_dc dc_271_1 16 rfl)) (
  jm_gc (pu_iret) (sn_iret (jm_dc dc_271_1 17 rfl) rfl) (
  jm_gn))))))))))))))))))
theorem dc_272_0 : ([(0, .aload_n 0, 1), (1, .iload_n 1, 1), (2, .invokevirtual 222, 3), (5, .ifCond .ne 5, 3), (8, .iconst (-1), 1), (9, .ireturn, 1), (10, .aload_n 0, 1), (11, .invokevirtual 518, 3), (14, .aload_n 0, 1), (15, .iload_n 1, 1), (16, .invokevirtual 521, 3), (19, .istore_n 2, 1), (20, .iload_n 2, 1), (21, .iconst (-1), 1), (22, .if_icmp .ne 8, 3), (25, .bipush (-3), 2), (27, .goto 9, 3), (30, .aload_n 0, 1), (31, .getfield 127, 3), (34, .iload_n 2, 1), (35, .iaload, 1), (36, .ireturn, 1)] : List (Nat × Instr × Nat)).all (fun e => decide (decode prog_14_method_104_code e.1 = .ok e.2)) = true := by decide +kernel
abbrev cl_272_0 : List (Nat × jm_O) := [(0, op_aload 0 1), (1, op_iload 1 1), (2, op_callV 11 172 2), (5, op_ifne 10), (8, op_ic (-1) 1), (9, op_iret), (10, op_aload 0 1), (11, op_callV 11 270 1), (14, op_aload 0 1), (15, op_iload 1 1), (16, op_callV 11 271 2), (19, op_istore 2 1), (20, op_iload 2 1), (21, op_ic (-1) 1), (22, op_cne 30), (25, op_ic (-3) 2), (27, op_goto 36), (30, op_aload 0 1), (31, op_getA 11 53), (34, op_iload 2 1), (35, op_iald 13), (36, op_iret)]
set_option maxRecDepth 100000 in
theorem gl_272_0 : jm_gl "FrescoWallModel" prog_14_method_104_code 3 (Option.some Jvm.ClassFile.FieldType.int) false cl_272_0 :=
  jm_gc (pu_aload _ _) (sn_aload_n (i := 0) (jm_dc dc_272_0 0 rfl)) (
  jm_gc (pu_iload _ _) (sn_iload_n (i := 1) (jm_dc dc_272_0 1 rfl)) (
  jm_gc (pu_callV _ _ _) (sn_callV (jm_dc dc_272_0 2 rfl) lk_11_222) (
  jm_gc (pu_ifne _) (sn_ifne (jm_dc dc_272_0 3 rfl) (by decide)) (
  jm_gc (pu_ic _ _) (sn_iconst (jm_dc dc_272_0 4 rfl) (by decide)) (
  jm_gc (pu_iret) (sn_iret (jm_dc dc_272_0 5 rfl) rfl) (
  jm_gc (pu_aload _ _) (sn_aload_n (i := 0) (jm_dc dc_272_0 6 rfl)) (
  jm_gc (pu_callV _ _ _) (sn_callV (jm_dc dc_272_0 7 rfl) lk_11_518) (
  jm_gc (pu_aload _ _) (sn_aload_n (i := 0) (jm_dc dc_272_0 8 rfl)) (
  jm_gc (pu_iload _ _) (sn_iload_n (i := 1) (jm_dc dc_272_0 9 rfl)) (
  jm_gc (pu_callV _ _ _) (sn_callV (jm_dc dc_272_0 10 rfl) lk_11_521) (
  jm_gc (pu_istore _ _) (sn_istore_n (i := 2) (jm_dc dc_272_0 11 rfl)) (
  jm_gc (pu_iload _ _) (sn_iload_n (i := 2) (jm_dc dc_272_0 12 rfl)) (
  jm_gc (pu_ic _ _) (sn_iconst (jm_dc dc_272_0 13 rfl) (by decide)) (
  jm_gc (pu_cne _) (sn_cne (jm_dc dc_272_0 14 rfl) (by decide)) (
  jm_gc (pu_ic _ _) (sn_bipush (jm_dc dc_272_0 15 rfl) (by decide)) (
  jm_gc (pu_goto _) (sn_goto (jm_dc dc_272_0 16 rfl) (by decide)) (
  jm_gc (pu_aload _ _) (sn_aload_n (i := 0) (jm_dc dc_272_0 17 rfl)) (
  jm_gc (pu_getA _ _) (sn_getA (jm_dc dc_272_0 18 rfl) fl_11_127 rfl) (
  jm_gc (pu_iload _ _) (sn_iload_n (i := 2) (jm_dc dc_272_0 19 rfl)) (
  jm_gc (pu_iald _) (sn_iald (jm_dc dc_272_0 20 rfl)) (
  jm_gc (pu_iret) (sn_iret (jm_dc dc_272_0 21 rfl) rfl) (
  jm_gn))))))))))))))))))))))
theorem dc_273_0 : ([(0, .aload_n 0, 1), (1, .iload_n 1, 1), (2, .invokevirtual 222, 3), (5, .ifCond .ne 5, 3), (8, .iconst (-1), 1), (9, .ireturn, 1), (10, .aload_n 0, 1), (11, .invokevirtual 518, 3), (14, .aload_n 0, 1), (15, .iload_n 1, 1), (16, .invokevirtual 521, 3), (19, .istore_n 3, 1), (20, .iload_n 3, 1), (21, .iconst (-1), 1), (22, .if_icmp .ne 5, 3), (25, .iconst (-1), 1), (26, .ireturn, 1), (27, .aload_n 0, 1), (28, .iconst 0, 1), (29, .putfield 426, 3), (32, .aload_n 0, 1), (33, .iload_n 3, 1), (34, .iload_n 1, 1), (35, .iconst 1, 1), (36, .invokevirtual 459, 3)] : List (Nat × Instr × Nat)).all (fun e => decide (decode prog_14_method_105_code e.1 = .ok e.2)) = true := by decide +kernel
abbrev cl_273_0 : List (Nat × jm_O) := [(0, op_aload 0 1), (1, op_iload 1 1), (2, op_callV 11 172 2), (5, op_ifne 10), (8, op_ic (-1) 1), (9, op_iret), (10, op_aload 0 1), (11, op_callV 11 270 1), (14, op_aload 0 1), (15, op_iload 1 1), (16, op_callV 11 271 2), (19, op_istore 3 1), (20, op_iload 3 1), (21, op_ic (-1) 1), (22, op_cne 27), (25, op_ic (-1) 1), (26, op_iret), (27, op_aload 0 1), (28, op_ic 0 1), (29, op_putI 11 55), (32, op_aload 0 1), (33, op_iload 3 1), (34, op_iload 1 1), (35, op_ic 1 1), (36, op_callV 11 238 4)]
set_option maxRecDepth 100000 in
theorem gl_273_0 : jm_gl "FrescoWallModel" prog_14_method_105_code 4 (Option.some Jvm.ClassFile.FieldType.int) false cl_273_0 :=
  jm_gc (pu_aload _ _) (sn_aload_n (i := 0) (jm_dc dc_273_0 0 rfl)) (
  jm_gc (pu_iload _ _) (sn_iload_n (i := 1) (jm_dc dc_273_0 1 rfl)) (
  jm_gc (pu_callV _ _ _) (sn_callV (jm_dc dc_273_0 2 rfl) lk_11_222) (
  jm_gc (pu_ifne _) (sn_ifne (jm_dc dc_273_0 3 rfl) (by decide)) (
  jm_gc (pu_ic _ _) (sn_iconst (jm_dc dc_273_0 4 rfl) (by decide)) (
  jm_gc (pu_iret) (sn_iret (jm_dc dc_273_0 5 rfl) rfl) (
  jm_gc (pu_aload _ _) (sn_aload_n (i := 0) (jm_dc dc_273_0 6 rfl)) (
  jm_gc (pu_callV _ _ _) (sn_callV (jm_dc dc_273_0 7 rfl) lk_11_518) (
  jm_gc (pu_aload _ _) (sn_aload_n (i := 0) (jm_dc dc_273_0 8 rfl)) (
  jm_gc (pu_iload _ _) (sn_iload_n (i := 1) (jm_dc dc_273_0 9 rfl)) (
  jm_gc (pu_callV _ _ _) (sn_callV (jm_dc dc_273_0 10 rfl) lk_11_521) (
  jm_gc (pu_istore _ _) (sn_istore_n (i := 3) (jm_dc dc_273_0 11 rfl)) (
  jm_gc (pu_iload _ _) (sn_iload_n (i := 3) (jm_dc dc_273_0 12 rfl)) (
  jm_gc (pu_ic _ _) (sn_iconst (jm_dc dc_273_0 13 rfl) (by decide)) (
  jm_gc (pu_cne _) (sn_cne (jm_dc dc_273_0 14 rfl) (by decide)) (
  jm_gc (pu_ic _ _) (sn_iconst (jm_dc dc_273_0 15 rfl) (by decide)) (
  jm_gc (pu_iret) (sn_iret (jm_dc dc_273_0 16 rfl) rfl) (
  jm_gc (pu_aload _ _) (sn_aload_n (i := 0) (jm_dc dc_273_0 17 rfl)) (
  jm_gc (pu_ic _ _) (sn_iconst (jm_dc dc_273_0 18 rfl) (by decide)) (
  jm_gc (pu_putI _ _) (sn_putI (jm_dc dc_273_0 19 rfl) flw_11_426 rfl) (
  jm_gc (pu_aload _ _) (sn_aload_n (i := 0) (jm_dc dc_273_0 20 rfl)) (
  jm_gc (pu_iload _ _) (sn_iload_n (i := 3) (jm_dc dc_273_0 21 rfl)) (
  jm_gc (pu_iload _ _) (sn_iload_n (i := 1) (jm_dc dc_273_0 22 rfl)) (
  jm_gc (pu_ic _ _) (sn_iconst (jm_dc dc_273_0 23 rfl) (by decide)) (
  jm_gc (pu_callV _ _ _) (sn_callV (jm_dc dc_273_0 24 rfl) lk_11_459) (
  jm_gn)))))))))))))))))))))))))
theorem dc_273_1 : ([(39, .iload_n 2, 1), (40, .iconst 0, 1), (41, .aload_n 0, 1), (42, .getfield 426, 3), (45, .iconst 1, 1), (46, .isub, 1), (47, .invokestatic 218, 3), (50, .ifCond .eq 12, 3), (53, .aload_n 0, 1), (54, .getfield 130, 3), (57, .iload_n 2, 1), (58, .iaload, 1), (59, .goto 4, 3), (62, .iconst (-1), 1), (63, .ireturn, 1)] : List (Nat × Instr × Nat)).all (fun e => decide (decode prog_14_method_105_code e.1 = .ok e.2)) = true := by decide +kernel
abbrev cl_273_1 : List (Nat × jm_O) := [(39, op_iload 2 1), (40, op_ic 0 1), (41, op_aload 0 1), (42, op_getI 11 55), (45, op_ic 1 1), (46, op_ibin (fun x y => x - y)), (47, op_callS 171 3), (50, op_ifeq 62), (53, op_aload 0 1), (54, op_getA 11 54), (57, op_iload 2 1), (58, op_iald 13), (59, op_goto 63), (62, op_ic (-1) 1), (63, op_iret)]
set_option maxRecDepth 100000 in
theorem gl_273_1 : jm_gl "FrescoWallModel" prog_14_method_105_code 4 (Option.some Jvm.ClassFile.FieldType.int) false cl_273_1 :=
  jm_gc (pu_iload _ _) (sn_iload_n (i := 2) (jm_dc dc_273_1 0 rfl)) (
  jm_gc (pu_ic _ _) (sn_iconst (jm_dc dc_273_1 1 rfl) (by decide)) (
  jm_gc (pu_aload _ _) (sn_aload_n (i := 0) (jm_dc dc_273_1 2 rfl)) (
  jm_gc (pu_getI _ _) (sn_getI (jm_dc dc_273_1 3 rfl) fl_11_426 (Or.inl rfl)) (
  jm_gc (pu_ic _ _) (sn_iconst (jm_dc dc_273_1 4 rfl) (by decide)) (
  jm_gc (pu_ibin _) (sn_isub (jm_dc dc_273_1 5 rfl)) (
  jm_gc (pu_callS _ _) (sn_callS (jm_dc dc_273_1 6 rfl) lk_11_218) (
  jm_gc (pu_ifeq _) (sn_ifeq (jm_dc dc_273_1 7 rfl) (by decide)) (
  jm_gc (pu_aload _ _) (sn_aload_n (i := 0) (jm_dc dc_273_1 8 rfl)) (
  jm_gc (pu_getA _ _) (sn_getA (jm_dc dc_273_1 9 rfl) fl_11_130 rfl) (
  jm_gc (pu_iload _ _) (sn_iload_n (i := 2) (jm_dc dc_273_1 10 rfl)) (
  jm_gc (pu_iald _) (sn_iald (jm_dc dc_273_1 11 rfl)) (
  jm_gc (pu_goto _) (sn_goto (jm_dc dc_273_1 12 rfl) (by decide)) (
  jm_gc (pu_ic _ _) (sn_iconst (jm_dc dc_273_1 13 rfl) (by decide)) (
  jm_gc (pu_iret) (sn_iret (jm_dc dc_273_1 14 rfl) rfl) (
  jm_gn)))))))))))))))
theorem dc_274_0 : ([(0, .aload_n 0, 1), (1, .iconst 0, 1), (2, .putfield 231, 3), (5, .aload_n 0, 1), (6, .iconst 0, 1), (7, .putfield 238, 3), (10, .aload_n 0, 1), (11, .iconst 0, 1), (12, .putfield 524, 3), (15, .aload_n 0, 1), (16, .iconst 0, 1), (17, .putfield 527, 3), (20, .iconst 1, 1), (21, .istore_n 1, 1), (22, .iload_n 1, 1), (23, .ifCond .eq 193, 3), (26, .iconst 0, 1), (27, .istore_n 2, 1), (28, .aload_n 0, 1), (29, .invokevirtual 242, 3), (32, .ifCond .ne 12, 3), (35, .aload_n 0, 1), (36, .invokevirtual 234, 3), (39, .bipush 46, 2), (41, .if_icmp .ne 73, 3)] : List (Nat × Instr × Nat)).all (fun e => decide (decode prog_14_method_106_code e.1 = .ok e.2)) = true := by decide +kernel
abbrev cl_274_0 : List (Nat × jm_O) := [(0, op_aload 0 1), (1, op_ic 0 1), (2, op_putI 11 40), (5, op_aload 0 1), (6, op_ic 0 1), (7, op_putZ 11 41), (10, op_aload 0 1), (11, op_ic 0 1), (12, op_putI 11 66), (15, op_aload 0 1), (16, op_ic 0 1), (17, op_putI 11 67), (20, op_ic 1 1), (21, op_istore 1 1), (22, op_iload 1 1), (23, op_ifeq 216), (26, op_ic 0 1), (27, op_istore 2 1), (28, op_aload 0 1), (29, op_callV 11 176 1), (32, op_ifne 44), (35, op_aload 0 1), (36, op_callV 11 175 1), (39, op_ic 46 2), (41, op_cne 114)]
set_option maxRecDepth 100000 in
theorem gl_274_0 : jm_gl "FrescoWallModel" prog_14_method_106_code 3 (Option.none : Option Jvm.ClassFile.FieldType) false cl_274_0 :=
  jm_gc (pu_aload _ _) (sn_aload_n (i := 0) (jm_dc dc_274_0 0 rfl)) (
  jm_gc (pu_ic _ _) (sn_iconst (jm_dc dc_274_0 1 rfl) (by decide)) (
  jm_gc (pu_putI _ _) (sn_putI (jm_dc dc_274_0 2 rfl) flw_11_231 rfl) (
  jm_gc (pu_aload _ _) (sn_aload_n (i := 0) (jm_dc dc_274_0 3 rfl)) (
  jm_gc (pu_ic _ _) (sn_iconst (jm_dc dc_274_0 4 rfl) (by decide)) (
  jm_gc (pu_putZ _ _) (sn_putZ (jm_dc dc_274_0 5 rfl) flw_11_238 rfl) (
  jm_gc (pu_aload _ _) (sn_aload_n (i := 0) (jm_dc dc_274_0 6 rfl)) (
  jm_gc (pu_ic _ _) (sn_iconst (jm_dc dc_274_0 7 rfl) (by decide)) (
  jm_gc (pu_putI _ _) (sn_putI (jm_dc dc_274_0 8 rfl) flw_11_524 rfl) (
  jm_gc (pu_aload _ _) (sn_aload_n (i := 0) (jm_dc dc_274_0 9 rfl)) (
  jm_gc (pu_ic _ _) (sn_iconst (jm_dc dc_274_0 10 rfl) (by decide)) (
  jm_gc (pu_putI _ _) (sn_putI (jm_dc dc_274_0 11 rfl) flw_11_527 rfl) (
  jm_gc (pu_ic _ _) (sn_iconst (jm_dc dc_274_0 12 rfl) (by decide)) (
  jm_gc (pu_istore _ _) (sn_istore_n (i := 1) (jm_dc dc_274_0 13 rfl)) (
  jm_gc (pu_iload _ _) (sn_iload_n (i := 1) (jm_dc dc_274_0 14 rfl)) (
  jm_gc (pu_ifeq _) (sn_ifeq (jm_dc dc_274_0 15 rfl) (by decide)) (
  jm_gc (pu_ic _ _) (sn_iconst (jm_dc dc_274_0 16 rfl) (by decide)) (
  jm_gc (pu_istore _ _) (sn_istore_n (i := 2) (jm_dc dc_274_0 17 rfl)) (
  jm_gc (pu_aload _ _) (sn_aload_n (i := 0) (jm_dc dc_274_0 18 rfl)) (
  jm_gc (pu_callV _ _ _) (sn_callV (jm_dc dc_274_0 19 rfl) lk_11_242) (
  jm_gc (pu_ifne _) (sn_ifne (jm_dc dc_274_0 20 rfl) (by decide)) (
  jm_gc (pu_aload _ _) (sn_aload_n (i := 0) (jm_dc dc_274_0 21 rfl)) (
  jm_gc (pu_callV _ _ _) (sn_callV (jm_dc dc_274_0 22 rfl) lk_11_234) (
  jm_gc (pu_ic _ _) (sn_bipush (jm_dc dc_274_0 23 rfl) (by decide)) (
  jm_gc (pu_cne _) (sn_cne (jm_dc dc_274_0 24 rfl) (by decide)) (
  jm_gn)))))))))))))))))))))))))
theorem dc_274_1 : ([(44, .iload_n 2, 1), (45, .aload_n 0, 1), (46, .getfield 527, 3), (49, .ifCond .ne 8, 3), (52, .bipush 16, 2), (54, .goto 7, 3), (57, .aload_n 0, 1), (58, .getfield 524, 3), (61, .if_icmp .ge 53, 3), (64, .aload_n 0, 1), (65, .getfield 145, 3), (68, .bipush 16, 2), (70, .aload_n 0, 1), (71, .getfield 527, 3), (74, .imul, 1), (75, .iload_n 2, 1), (76, .iadd, 1), (77, .aload_n 0, 1), (78, .invokevirtual 234, 3), (81, .bipush 46, 2), (83, .if_icmp .ne 7, 3), (86, .iconst (-1), 1), (87, .goto 10, 3), (90, .aload_n 0, 1), (91, .invokevirtual 234, 3)] : List (Nat × Instr × Nat)).all (fun e => decide (decode prog_14_method_106_code e.1 = .ok e.2)) = true := by decide +kernel
abbrev cl_274_1 : List (Nat × jm_O) := [(44, op_iload 2 1), (45, op_aload 0 1), (46, op_getI 11 67), (49, op_ifne 57), (52, op_ic 16 2), (54, op_goto 61), (57, op_aload 0 1), (58, op_getI 11 66), (61, op_cge 114), (64, op_aload 0 1), (65, op_getA 11 65), (68, op_ic 16 2), (70, op_aload 0 1), (71, op_getI 11 67), (74, op_ibin (fun x y => x * y)), (75, op_iload 2 1), (76, op_ibin (fun x y => x + y)), (77, op_aload 0 1), (78, op_callV 11 175 1), (81, op_ic 46 2), (83, op_cne 90), (86, op_ic (-1) 1), (87, op_goto 97), (90, op_aload 0 1), (91, op_callV 11 175 1)]
set_option maxRecDepth 100000 in
theorem gl_274_1 : jm_gl "FrescoWallModel" prog_14_method_106_code 3 (Option.none : Option Jvm.ClassFile.FieldType) false cl_274_1 :=
  jm_gc (pu_iload _ _) (sn_iload_n (i := 2) (jm_dc dc_274_1 0 rfl)) (
  jm_gc (pu_aload _ _) (sn_aload_n (i := 0) (jm_dc dc_274_1 1 rfl)) (
  jm_gc (pu_getI _ _) (sn_getI (jm_dc dc_274_1 2 rfl) fl_11_527 (Or.inl rfl)) (
  jm_gc (pu_ifne _) (sn_ifne (jm_dc dc_274_1 3 rfl) (by decide)) (
  jm_gc (pu_ic _ _) (sn_bipush (jm_dc dc_274_1 4 rfl) (by decide)) (
  jm_gc (pu_goto _) (sn_goto (jm_dc dc_274_1 5 rfl) (by decide)) (
  jm_gc (pu_aload _ _) (sn_aload_n (i := 0) (jm_dc dc_274_1 6 rfl)) (
  jm_gc (pu_getI _ _) (sn_getI (jm_dc dc_274_1 7 rfl) fl_11_524 (Or.inl rfl)) (
  jm_gc (pu_cge _) (sn_cge (jm_dc dc_274_1 8 rfl) (by decide)) (
  jm_gc (pu_aload _ _) (sn_aload_n (i := 0) (jm_dc dc_274_1 9 rfl)) (
  jm_gc (pu_getA _ _) (sn_getA (jm_dc dc_274_1 10 rfl) fl_11_145 rfl) (
  jm_gc (pu_ic _ _) (sn_bipush (jm_dc dc_274_1 11 rfl) (by decide)) (
  jm_gc (pu_aload _ _) (sn_aload_n (i := 0) (jm_dc dc_274_1 12 rfl)) (
  jm_gc (pu_getI _ _) (sn_getI (jm_dc dc_274_1 13 rfl) fl_11_527 (Or.inl rfl)) (
  jm_gc (pu_ibin _) (sn_imul (jm_dc dc_274_1 14 rfl)) (
  jm_gc (pu_iload _ _) (sn_iload_n (i := 2) (jm_dc dc_274_1 15 rfl)) (
  jm_gc (pu_ibin _) (sn_iadd (jm_dc dc_274_1 16 rfl)) (
  jm_gc (pu_aload _ _) (sn_aload_n (i := 0) (jm_dc dc_274_1 17 rfl)) (
  jm_gc (pu_callV _ _ _) (sn_callV (jm_dc dc_274_1 18 rfl) lk_11_234) (
  jm_gc (pu_ic _ _) (sn_bipush (jm_dc dc_274_1 19 rfl) (by decide)) (
  jm_gc (pu_cne _) (sn_cne (jm_dc dc_274_1 20 rfl) (by decide)) (
  jm_gc (pu_ic _ _) (sn_iconst (jm_dc dc_274_1 21 rfl) (by decide)) (
  jm_gc (pu_goto _) (sn_goto (jm_dc dc_274_1 22 rfl) (by decide)) (
  jm_gc (pu_aload _ _) (sn_aload_n (i := 0) (jm_dc dc_274_1 23 rfl)) (
  jm_gc (pu_callV _ _ _) (sn_callV (jm_dc dc_274_1 24 rfl) lk_11_234) (
  jm_gn)))))))))))))))))))))))))
theorem dc_274_2 : ([(94, .bipush 48, 2), (96, .isub, 1), (97, .iastore, 1), (98, .aload_n 0, 1), (99, .dup, 1), (100, .getfield 231, 3), (103, .iconst 1, 1), (104, .iadd, 1), (105, .putfield 231, 3), (108, .iinc 2 1, 3), (111, .goto (-83), 3), (114, .aload_n 0, 1), (115, .aload_n 0, 1), (116, .getfield 527, 3), (119, .ifCond .ne 7, 3), (122, .iload_n 2, 1), (123, .goto 7, 3), (126, .aload_n 0, 1), (127, .getfield 524, 3), (130, .putfield 524, 3), (133, .aload_n 0, 1), (134, .iload_n 2, 1), (135, .ifCond .eq 11, 3), (138, .iload_n 2, 1), (139, .aload_n 0, 1)] : List (Nat × Instr × Nat)).all (fun e => decide (decode prog_14_method_106_code e.1 = .ok e.2)) = true := by decide +kernel
abbrev cl_274_2 : List (Nat × jm_O) := [(94, op_ic 48 2), (96, op_ibin (fun x y => x - y)), (97, op_iast), (98, op_aload 0 1), (99, op_dup), (100, op_getI 11 40), (103, op_ic 1 1), (104, op_ibin (fun x y => x + y)), (105, op_putI 11 40), (108, op_iinc 2 1), (111, op_goto 28), (114, op_aload 0 1), (115, op_aload 0 1), (116, op_getI 11 67), (119, op_ifne 126), (122, op_iload 2 1), (123, op_goto 130), (126, op_aload 0 1), (127, op_getI 11 66), (130, op_putI 11 66), (133, op_aload 0 1), (134, op_iload 2 1), (135, op_ifeq 146), (138, op_iload 2 1), (139, op_aload 0 1)]
set_option maxRecDepth 100000 in
theorem gl_274_2 : jm_gl "FrescoWallModel" prog_14_method_106_code 3 (Option.none : Option Jvm.ClassFile.FieldType) false cl_274_2 :=
  jm_gc (pu_ic _ _) (sn_bipush (jm_dc dc_274_2 0 rfl) (by decide)) (
  jm_gc (pu_ibin _) (sn_isub (jm_dc dc_274_2 1 rfl)) (
  jm_gc (pu_iast) (sn_iast (jm_dc dc_274_2 2 rfl)) (
  jm_gc (pu_aload _ _) (sn_aload_n (i := 0) (jm_dc dc_274_2 3 rfl)) (
  jm_gc (pu_dup) (sn_dup (jm_dc dc_274_2 4 rfl)) (
  jm_gc (pu_getI _ _) (sn_getI (jm_dc dc_274_2 5 rfl) fl_11_231 (Or.inl rfl)) (
  jm_gc (pu_ic _ _) (sn_iconst (jm_dc dc_274_2 6 rfl) (by decide)) (
  jm_gc (pu_ibin _) (sn_iadd (jm_dc dc_274_2 7 rfl)) (
  jm_gc (pu_putI _ _) (sn_putI (jm_dc dc_274_2 8 rfl) flw_11_231 rfl) (
  jm_gc (pu_iinc _ _) (sn_iinc (jm_dc dc_274_2 9 rfl) (by decide)) (
  jm_gc (pu_goto _) (sn_goto (jm_dc dc_274_2 10 rfl) (by decide)) (
  jm_gc (pu_aload _ _) (sn_aload_n (i := 0) (jm_dc dc_274_2 11 rfl)) (
  jm_gc (pu_aload _ _) (sn_aload_n (i := 0) (jm_dc dc_274_2 12 rfl)) (
  jm_gc (pu_getI _ _) (sn_getI (jm_dc dc_274_2 13 rfl) fl_11_527 (Or.inl rfl)) (
  jm_gc (pu_ifne _) (sn_ifne (jm_dc dc_274_2 14 rfl) (by decide)) (
  jm_gc (pu_iload _ _) (sn_iload_n (i := 2) (jm_dc dc_274_2 15 rfl)) (
  jm_gc (pu_goto _) (sn_goto (jm_dc dc_274_2 16 rfl) (by decide)) (
  jm_gc (pu_aload _ _) (sn_aload_n (i := 0) (jm_dc dc_274_2 17 rfl)) (
  jm_gc (pu_getI _ _) (sn_getI (jm_dc dc_274_2 18 rfl) fl_11_524 (Or.inl rfl)) (
  jm_gc (pu_putI _ _) (sn_putI (jm_dc dc_274_2 19 rfl) flw_11_524 rfl) (
  jm_gc (pu_aload _ _) (sn_aload_n (i := 0) (jm_dc dc_274_2 20 rfl)) (
  jm_gc (pu_iload _ _) (sn_iload_n (i := 2) (jm_dc dc_274_2 21 rfl)) (
  jm_gc (pu_ifeq _) (sn_ifeq (jm_dc dc_274_2 22 rfl) (by decide)) (
  jm_gc (pu_iload _ _) (sn_iload_n (i := 2) (jm_dc dc_274_2 23 rfl)) (
  jm_gc (pu_aload _ _) (sn_aload_n (i := 0) (jm_dc dc_274_2 24 rfl)) (
  jm_gn)))))))))))))))))))))))))
theorem dc_274_3 : ([(140, .getfield 524, 3), (143, .if_icmp .ge 7, 3), (146, .iconst 1, 1), (147, .goto 4, 3), (150, .iconst 0, 1), (151, .putfield 238, 3), (154, .aload_n 0, 1), (155, .dup, 1), (156, .getfield 527, 3), (159, .iconst 1, 1), (160, .iadd, 1), (161, .putfield 527, 3), (164, .aload_n 0, 1), (165, .getfield 238, 3), (168, .ifCond .ne 25, 3), (171, .aload_n 0, 1), (172, .getfield 527, 3), (175, .bipush 16, 2), (177, .if_icmp .ge 16, 3), (180, .aload_n 0, 1), (181, .invokevirtual 234, 3), (184, .bipush 47, 2), (186, .if_icmp .ne 7, 3), (189, .iconst 1, 1), (190, .goto 4, 3)] : List (Nat × Instr × Nat)).all (fun e => decide (decode prog_14_method_106_code e.1 = .ok e.2)) = true := by decide +kernel
abbrev cl_274_3 : List (Nat × jm_O) := [(140, op_getI 11 66), (143, op_cge 150), (146, op_ic 1 1), (147, op_goto 151), (150, op_ic 0 1), (151, op_putZ 11 41), (154, op_aload 0 1), (155, op_dup), (156, op_getI 11 67), (159, op_ic 1 1), (160, op_ibin (fun x y => x + y)), (161, op_putI 11 67), (164, op_aload 0 1), (165, op_getI 11 41), (168, op_ifne 193), (171, op_aload 0 1), (172, op_getI 11 67), (175, op_ic 16 2), (177, op_cge 193), (180, op_aload 0 1), (181, op_callV 11 175 1), (184, op_ic 47 2), (186, op_cne 193), (189, op_ic 1 1), (190, op_goto 194)]
set_option maxRecDepth 100000 in
theorem gl_274_3 : jm_gl "FrescoWallModel" prog_14_method_106_code 3 (Option.none : Option Jvm.ClassFile.FieldType) false cl_274_3 :=
  jm_gc (pu_getI _ _) (sn_getI (jm_dc dc_274_3 0 rfl) fl_11_524 (Or.inl rfl)) (
  jm_gc (pu_cge _) (sn_cge (jm_dc dc_274_3 1 rfl) (by decide)) (
  jm_gc (pu_ic _ _) (sn_iconst (jm_dc dc_274_3 2 rfl) (by decide)) (
  jm_gc (pu_goto _) (sn_goto (jm_dc dc_274_3 3 rfl) (by decide)) (
  jm_gc (pu_ic _ _) (sn_iconst (jm_dc dc_274_3 4 rfl) (by decide)) (
  jm_gc (pu_putZ _ _) (sn_putZ (jm_dc dc_274_3 5 rfl) flw_11_238 rfl) (
  jm_gc (pu_aload _ _) (sn_aload_n (i := 0) (jm_dc dc_274_3 6 rfl)) (
  jm_gc (pu_dup) (sn_dup (jm_dc dc_274_3 7 rfl)) (
  jm_gc (pu_getI _ _) (sn_getI (jm_dc dc_274_3 8 rfl) fl_11_527 (Or.inl rfl)) (
  jm_gc (pu_ic _ _) (sn_iconst (jm_dc dc_274_3 9 rfl) (by decide)) (
  jm_gc (pu_ibin _) (sn_iadd (jm_dc dc_274_3 10 rfl)) (
  jm_gc (pu_putI _ _) (sn_putI (jm_dc dc_274_3 11 rfl) flw_11_527 rfl) (
  jm_gc (pu_aload _ _) (sn_aload_n (i := 0) (jm_dc dc_274_3 12 rfl)) (
  jm_gc (pu_getI _ _) (sn_getI (jm_dc dc_274_3 13 rfl) fl_11_238 (Or.inr rfl)) (
  jm_gc (pu_ifne _) (sn_ifne (jm_dc dc_274_3 14 rfl) (by decide)) (
  jm_gc (pu_aload _ _) (sn_aload_n (i := 0) (jm_dc dc_274_3 15 rfl)) (
  jm_gc (pu_getI _ _) (sn_getI (jm_dc dc_274_3 16 rfl) fl_11_527 (Or.inl rfl)) (
  jm_gc (pu_ic _ _) (sn_bipush (jm_dc dc_274_3 17 rfl) (by decide)) (
  jm_gc (pu_cge _) (sn_cge (jm_dc dc_274_3 18 rfl) (by decide)) (
  jm_gc (pu_aload _ _) (sn_aload_n (i := 0) (jm_dc dc_274_3 19 rfl)) (
  jm_gc (pu_callV _ _ _) (sn_callV (jm_dc dc_274_3 20 rfl) lk_11_234) (
  jm_gc (pu_ic _ _) (sn_bipush (jm_dc dc_274_3 21 rfl) (by decide)) (
  jm_gc (pu_cne _) (sn_cne (jm_dc dc_274_3 22 rfl) (by decide)) (
  jm_gc (pu_ic _ _) (sn_iconst (jm_dc dc_274_3 23 rfl) (by decide)) (
  jm_gc (pu_goto _) (sn_goto (jm_dc dc_274_3 24 rfl) (by decide)) (
  jm_gn)))))))))))))))))))))))))
theorem dc_274_4 : ([(193, .iconst 0, 1), (194, .istore_n 1, 1), (195, .aload_n 0, 1), (196, .dup, 1), (197, .getfield 231, 3), (200, .iload_n 1, 1), (201, .ifCond .eq 7, 3), (204, .iconst 1, 1), (205, .goto 4, 3), (208, .iconst 0, 1), (209, .iadd, 1), (210, .putfield 231, 3), (213, .goto (-191), 3), (216, .aload_n 0, 1), (217, .aload_n 0, 1), (218, .getfield 238, 3), (221, .ifCond .ne 14, 3), (224, .aload_n 0, 1), (225, .getfield 231, 3), (228, .aload_n 0, 1), (229, .getfield 226, 3), (232, .if_icmp .eq 7, 3), (235, .iconst 1, 1), (236, .goto 4, 3), (239, .iconst 0, 1)] : List (Nat × Instr × Nat)).all (fun e => decide (decode prog_14_method_106_code e.1 = .ok e.2)) = true := by decide +kernel
abbrev cl_274_4 : List (Nat × jm_O) := [(193, op_ic 0 1), (194, op_istore 1 1), (195, op_aload 0 1), (196, op_dup), (197, op_getI 11 40), (200, op_iload 1 1), (201, op_ifeq 208), (204, op_ic 1 1), (205, op_goto 209), (208, op_ic 0 1), (209, op_ibin (fun x y => x + y)), (210, op_putI 11 40), (213, op_goto 22), (216, op_aload 0 1), (217, op_aload 0 1), (218, op_getI 11 41), (221, op_ifne 235), (224, op_aload 0 1), (225, op_getI 11 40), (228, op_aload 0 1), (229, op_getI 11 2), (232, op_ceq 239), (235, op_ic 1 1), (236, op_goto 240), (239, op_ic 0 1)]
set_option maxRecDepth 100000 in
theorem gl_274_4 : jm_gl "FrescoWallModel" prog_14_method_106_code 3 (Option.none : Option Jvm.ClassFile.FieldType) false cl_274_4 :=
  jm_gc (pu_ic _ _) (sn_iconst (jm_dc dc_274_4 0 rfl) (by decide)) (
  jm_gc (pu_istore _ _) (sn_istore_n (i := 1) (jm_dc dc_274_4 1 rfl)) (
  jm_gc (pu_aload _ _) (sn_aload_n (i := 0) (jm_dc dc_274_4 2 rfl)) (
  jm_gc (pu_dup) (sn_dup (jm_dc dc_274_4 3 rfl)) (
  jm_gc (pu_getI _ _) (sn_getI (jm_dc dc_274_4 4 rfl) fl_11_231 (Or.inl rfl)) (
  jm_gc (pu_iload _ _) (sn_iload_n (i := 1) (jm_dc dc_274_4 5 rfl)) (
  jm_gc (pu_ifeq _) (sn_ifeq (jm_dc dc_274_4 6 rfl) (by decide)) (
  jm_gc (pu_ic _ _) (sn_iconst (jm_dc dc_274_4 7 rfl) (by decide)) (
  jm_gc (pu_goto _) (sn_goto (jm_dc dc_274_4 8 rfl) (by decide)) (
  jm_gc (pu_ic _ _) (sn_iconst (jm_dc dc_274_4 9 rfl) (by decide)) (
  jm_gc (pu_ibin _) (sn_iadd (jm_dc dc_274_4 10 rfl)) (
  jm_gc (pu_putI _ _) (sn_putI (jm_dc dc_274_4 11 rfl) flw_11_231 rfl) (
  jm_gc (pu_goto _) (sn_goto (jm_dc dc_274_4 12 rfl) (by decide)) (
  jm_gc (pu_aload _ _) (sn_aload_n (i := 0) (jm_dc dc_274_4 13 rfl)) (
  jm_gc (pu_aload _ _) (sn_aload_n (i := 0) (jm_dc dc_274_4 14 rfl)) (
  jm_gc (pu_getI _ _) (sn_getI (jm_dc dc_274_4 15 rfl) fl_11_238 (Or.inr rfl)) (
  jm_gc (pu_ifne _) (sn_ifne (jm_dc dc_274_4 16 rfl) (by decide)) (
  jm_gc (pu_aload _ _) (sn_aload_n (i := 0) (jm_dc dc_274_4 17 rfl)) (
  jm_gc (pu_getI _ _) (sn_getI (jm_dc dc_274_4 18 rfl) fl_11_231 (Or.inl rfl)) (
  jm_gc (pu_aload _ _) (sn_aload_n (i := 0) (jm_dc dc_274_4 19 rfl)) (
  jm_gc (pu_getI _ _) (sn_getI (jm_dc dc_274_4 20 rfl) fl_11_226 (Or.inl rfl)) (
  jm_gc (pu_ceq _) (sn_ceq (jm_dc dc_274_4 21 rfl) (by decide)) (
  jm_gc (pu_ic _ _) (sn_iconst (jm_dc dc_274_4 22 rfl) (by decide)) (
  jm_gc (pu_goto _) (sn_goto (jm_dc dc_274_4 23 rfl) (by decide)) (
  jm_gc (pu_ic _ _) (sn_iconst (jm_dc dc_274_4 24 rfl) (by decide)) (
  jm_gn)))))))))))))))))))))))))
theorem dc_274_5 : ([(240, .putfield 238, 3), (243, .return_, 1)] : List (Nat × Instr × Nat)).all (fun e => decide (decode prog_14_method_106_code e.1 = .ok e.2)) = true := by decide +kernel
abbrev cl_274_5 : List (Nat × jm_O) := [(240, op_putZ 11 41), (243, op_vret)]
set_option maxRecDepth 100000 in
theorem gl_274_5 : jm_gl "FrescoWallModel" prog_14_method_106_code 3 (Option.none : Option Jvm.ClassFile.FieldType) false cl_274_5 :=
  jm_gc (pu_putZ _ _) (sn_putZ (jm_dc dc_274_5 0 rfl) flw_11_238 rfl) (
  jm_gc (pu_vret) (sn_vret (jm_dc dc_274_5 1 rfl) rfl) (
  jm_gn))
theorem dc_275_0 : ([(0, .iload_n 1, 1), (1, .sipush (-500), 3), (4, .sipush 500, 3), (7, .invokestatic 218, 3), (10, .ifCond .eq 25, 3), (13, .iload_n 2, 1), (14, .sipush (-500), 3), (17, .sipush 500, 3), (20, .invokestatic 218, 3), (23, .ifCond .eq 12, 3), (26, .iload_n 3, 1), (27, .iconst 0, 1), (28, .iconst 3, 1), (29, .invokestatic 218, 3), (32, .ifCond .ne 6, 3), (35, .bipush (-2), 2), (37, .ireturn, 1), (38, .aload_n 0, 1), (39, .invokevirtual 530, 3), (42, .aload_n 0, 1), (43, .iconst 0, 1), (44, .putfield 226, 3), (47, .aload_n 0, 1), (48, .getfield 238, 3), (51, .ifCond .eq 11, 3)] : List (Nat × Instr × Nat)).all (fun e => decide (decode prog_14_method_107_code e.1 = .ok e.2)) = true := by decide +kernel
abbrev cl_275_0 : List (Nat × jm_O) := [(0, op_iload 1 1), (1, op_ic (-500) 3), (4, op_ic 500 3), (7, op_callS 171 3), (10, op_ifeq 35), (13, op_iload 2 1), (14, op_ic (-500) 3), (17, op_ic 500 3), (20, op_callS 171 3), (23, op_ifeq 35), (26, op_iload 3 1), (27, op_ic 0 1), (28, op_ic 3 1), (29, op_callS 171 3), (32, op_ifne 38), (35, op_ic (-2) 2), (37, op_iret), (38, op_aload 0 1), (39, op_callV 11 274 1), (42, op_aload 0 1), (43, op_ic 0 1), (44, op_putI 11 2), (47, op_aload 0 1), (48, op_getI 11 41), (51, op_ifeq 62)]
set_option maxRecDepth 100000 in
theorem gl_275_0 : jm_gl "FrescoWallModel" prog_14_method_107_code 9 (Option.some Jvm.ClassFile.FieldType.int) false cl_275_0 :=
  jm_gc (pu_iload _ _) (sn_iload_n (i := 1) (jm_dc dc_275_0 0 rfl)) (
  jm_gc (pu_ic _ _) (sn_sipush (jm_dc dc_275_0 1 rfl) (by decide)) (
  jm_gc (pu_ic _ _) (sn_sipush (jm_dc dc_275_0 2 rfl) (by decide)) (
  jm_gc (pu_callS _ _) (sn_callS (jm_dc dc_275_0 3 rfl) lk_11_218) (
  jm_gc (pu_ifeq _) (sn_ifeq (jm_dc dc_275_0 4 rfl) (by decide)) (
  jm_gc (pu_iload _ _) (sn_iload_n (i := 2) (jm_dc dc_275_0 5 rfl)) (
  jm_gc (pu_ic _ _) (sn_sipush (jm_dc dc_275_0 6 rfl) (by decide)) (
  jm_gc (pu_ic _ _) (sn_sipush (jm_dc dc_275_0 7 rfl) (by decide)) (
  jm_gc (pu_callS _ _) (sn_callS (jm_dc dc_275_0 8 rfl) lk_11_218) (
  jm_gc (pu_ifeq _) (sn_ifeq (jm_dc dc_275_0 9 rfl) (by decide)) (
  jm_gc (pu_iload _ _) (sn_iload_n (i := 3) (jm_dc dc_275_0 10 rfl)) (
  jm_gc (pu_ic _ _) (sn_iconst (jm_dc dc_275_0 11 rfl) (by decide)) (
  jm_gc (pu_ic _ _) (sn_iconst (jm_dc dc_275_0 12 rfl) (by decide)) (
  jm_gc (pu_callS _ _) (sn_callS (jm_dc dc_275_0 13 rfl) lk_11_218) (
  jm_gc (pu_ifne _) (sn_ifne (jm_dc dc_275_0 14 rfl) (by decide)) (
  jm_gc (pu_ic _ _) (sn_bipush (jm_dc dc_275_0 15 rfl) (by decide)) (
  jm_gc (pu_iret) (sn_iret (jm_dc dc_275_0 16 rfl) rfl) (
  jm_gc (pu_aload _ _) (sn_aload_n (i := 0) (jm_dc dc_275_0 17 rfl)) (
  jm_gc (pu_callV _ _ _) (sn_callV (jm_dc dc_275_0 18 rfl) lk_11_530) (
  jm_gc (pu_aload _ _) (sn_aload_n (i := 0) (jm_dc dc_275_0 19 rfl)) (
  jm_gc (pu_ic _ _) (sn_iconst (jm_dc dc_275_0 20 rfl) (by decide)) (
  jm_gc (pu_putI _ _) (sn_putI (jm_dc dc_275_0 21 rfl) flw_11_226 rfl) (
  jm_gc (pu_aload _ _) (sn_aload_n (i := 0) (jm_dc dc_275_0 22 rfl)) (
  jm_gc (pu_getI _ _) (sn_getI (jm_dc dc_275_0 23 rfl) fl_11_238 (Or.inr rfl)) (
  jm_gc (pu_ifeq _) (sn_ifeq (jm_dc dc_275_0 24 rfl) (by decide)) (
  jm_gn)))))))))))))))))))))))))
theorem dc_275_1 : ([(54, .bipush (-10), 2), (56, .aload_n 0, 1), (57, .getfield 231, 3), (60, .isub, 1), (61, .ireturn, 1), (62, .aload_n 0, 1), (63, .aload_n 0, 1), (64, .getfield 524, 3), (67, .putfield 533, 3), (70, .aload_n 0, 1), (71, .aload_n 0, 1), (72, .getfield 527, 3), (75, .putfield 536, 3), (78, .aload_n 0, 1), (79, .iload_n 1, 1), (80, .putfield 539, 3), (83, .aload_n 0, 1), (84, .iload_n 2, 1), (85, .putfield 542, 3), (88, .aload_n 0, 1), (89, .iload_n 3, 1), (90, .putfield 545, 3), (93, .iconst 0, 1), (94, .istore 4, 2), (96, .iconst 0, 1)] : List (Nat × Instr × Nat)).all (fun e => decide (decode prog_14_method_107_code e.1 = .ok e.2)) = true := by decide +kernel
abbrev cl_275_1 : List (Nat × jm_O) := [(54, op_ic (-10) 2), (56, op_aload 0 1), (57, op_getI 11 40), (60, op_ibin (fun x y => x - y)), (61, op_iret), (62, op_aload 0 1), (63, op_aload 0 1), (64, op_getI 11 66), (67, op_putI 11 59), (70, op_aload 0 1), (71, op_aload 0 1), (72, op_getI 11 67), (75, op_putI 11 60), (78, op_aload 0 1), (79, op_iload 1 1), (80, op_putI 11 61), (83, op_aload 0 1), (84, op_iload 2 1), (85, op_putI 11 62), (88, op_aload 0 1), (89, op_iload 3 1), (90, op_putI 11 63), (93, op_ic 0 1), (94, op_istore 4 2), (96, op_ic 0 1)]
set_option maxRecDepth 100000 in
theorem gl_275_1 : jm_gl "FrescoWallModel" prog_14_method_107_code 9 (Option.some Jvm.ClassFile.FieldType.int) false cl_275_1 :=
  jm_gc (pu_ic _ _) (sn_bipush (jm_dc dc_275_1 0 rfl) (by decide)) (
  jm_gc (pu_aload _ _) (sn_aload_n (i := 0) (jm_dc dc_275_1 1 rfl)) (
  jm_gc (pu_getI _ _) (sn_getI (jm_dc dc_275_1 2 rfl) fl_11_231 (Or.inl rfl)) (
  jm_gc (pu_ibin _) (sn_isub (jm_dc dc_275_1 3 rfl)) (
  jm_gc (pu_iret) (sn_iret (jm_dc dc_275_1 4 rfl) rfl) (
  jm_gc (pu_aload _ _) (sn_aload_n (i := 0) (jm_dc dc_275_1 5 rfl)) (
  jm_gc (pu_aload _ _) (sn_aload_n (i := 0) (jm_dc dc_275_1 6 rfl)) (
  jm_gc (pu_getI _ _) (sn_getI (jm_dc dc_275_1 7 rfl) fl_11_524 (Or.inl rfl)) (
  jm_gc (pu_putI _ _) (sn_putI (jm_dc dc_275_1 8 rfl) flw_11_533 rfl) (
  jm_gc (pu_aload _ _) (sn_aload_n (i := 0) (jm_dc dc_275_1 9 rfl)) (
  jm_gc (pu_aload _ _) (sn_aload_n (i := 0) (jm_dc dc_275_1 10 rfl)) (
  jm_gc (pu_getI _ _) (sn_getI (jm_dc dc_275_1 11 rfl) fl_11_527 (Or.inl rfl)) (
  jm_gc (pu_putI _ _) (sn_putI (jm_dc dc_275_1 12 rfl) flw_11_536 rfl) (
  jm_gc (pu_aload _ _) (sn_aload_n (i := 0) (jm_dc dc_275_1 13 rfl)) (
  jm_gc (pu_iload _ _) (sn_iload_n (i := 1) (jm_dc dc_275_1 14 rfl)) (
  jm_gc (pu_putI _ _) (sn_putI (jm_dc dc_275_1 15 rfl) flw_11_539 rfl) (
  jm_gc (pu_aload _ _) (sn_aload_n (i := 0) (jm_dc dc_275_1 16 rfl)) (
  jm_gc (pu_iload _ _) (sn_iload_n (i := 2) (jm_dc dc_275_1 17 rfl)) (
  jm_gc (pu_putI _ _) (sn_putI (jm_dc dc_275_1 18 rfl) flw_11_542 rfl) (
  jm_gc (pu_aload _ _) (sn_aload_n (i := 0) (jm_dc dc_275_1 19 rfl)) (
  jm_gc (pu_iload _ _) (sn_iload_n (i := 3) (jm_dc dc_275_1 20 rfl)) (
  jm_gc (pu_putI _ _) (sn_putI (jm_dc dc_275_1 21 rfl) flw_11_545 rfl) (
  jm_gc (pu_ic _ _) (sn_iconst (jm_dc dc_275_1 22 rfl) (by decide)) (
  jm_gc (pu_istore _ _) (sn_istore (jm_dc dc_275_1 23 rfl)) (
  jm_gc (pu_ic _ _) (sn_iconst (jm_dc dc_275_1 24 rfl) (by decide)) (
  jm_gn)))))))))))))))))))))))))
theorem dc_275_2 : ([(97, .istore 5, 2), (99, .iconst 0, 1), (100, .istore 6, 2), (102, .iload 6, 2), (104, .aload_n 0, 1), (105, .getfield 536, 3), (108, .if_icmp .ge 109, 3), (111, .iconst 0, 1), (112, .istore 7, 2), (114, .iload 7, 2), (116, .aload_n 0, 1), (117, .getfield 533, 3), (120, .if_icmp .ge 91, 3), (123, .aload_n 0, 1), (124, .getfield 145, 3), (127, .bipush 16, 2), (129, .aload_n 0, 1), (130, .getfield 536, 3), (133, .iconst 1, 1), (134, .isub, 1), (135, .iload 6, 2), (137, .isub, 1), (138, .imul, 1), (139, .iload 7, 2), (141, .iadd, 1)] : List (Nat × Instr × Nat)).all (fun e => decide (decode prog_14_method_107_code e.1 = .ok e.2)) = true := by decide +kernel
abbrev cl_275_2 : List (Nat × jm_O) := [(97, op_istore 5 2), (99, op_ic 0 1), (100, op_istore 6 2), (102, op_iload 6 2), (104, op_aload 0 1), (105, op_getI 11 60), (108, op_cge 217), (111, op_ic 0 1), (112, op_istore 7 2), (114, op_iload 7 2), (116, op_aload 0 1), (117, op_getI 11 59), (120, op_cge 211), (123, op_aload 0 1), (124, op_getA 11 65), (127, op_ic 16 2), (129, op_aload 0 1), (130, op_getI 11 60), (133, op_ic 1 1), (134, op_ibin (fun x y => x - y)), (135, op_iload 6 2), (137, op_ibin (fun x y => x - y)), (138, op_ibin (fun x y => x * y)), (139, op_iload 7 2), (141, op_ibin (fun x y => x + y))]
set_option maxRecDepth 100000 in
theorem gl_275_2 : jm_gl "FrescoWallModel" prog_14_method_107_code 9 (Option.some Jvm.ClassFile.FieldType.int) false cl_275_2 :=
  jm_gc (pu_istore _ _) (sn_istore (jm_dc dc_275_2 0 rfl)) (
  jm_gc (pu_ic _ _) (sn_iconst (jm_dc dc_275_2 1 rfl) (by decide)) (
  jm_gc (pu_istore _ _) (sn_istore (jm_dc dc_275_2 2 rfl)) (
  jm_gc (pu_iload _ _) (sn_iload (jm_dc dc_275_2 3 rfl)) (
  jm_gc (pu_aload _ _) (sn_aload_n (i := 0) (jm_dc dc_275_2 4 rfl)) (
  jm_gc (pu_getI _ _) (sn_getI (jm_dc dc_275_2 5 rfl) fl_11_536 (Or.inl rfl)) (
  jm_gc (pu_cge _) (sn_cge (jm_dc dc_275_2 6 rfl) (by decide)) (
  jm_gc (pu_ic _ _) (sn_iconst (jm_dc dc_275_2 7 rfl) (by decide)) (
  jm_gc (pu_istore _ _) (sn_istore (jm_dc dc_275_2 8 rfl)) (
  jm_gc (pu_iload _ _) (sn_iload (jm_dc dc_275_2 9 rfl)) (
  jm_gc (pu_aload _ _) (sn_aload_n (i := 0) (jm_dc dc_275_2 10 rfl)) (
  jm_gc (pu_getI _ _) (sn_getI (jm_dc dc_275_2 11 rfl) fl_11_533 (Or.inl rfl)) (
  jm_gc (pu_cge _) (sn_cge (jm_dc dc_275_2 12 rfl) (by decide)) (
  jm_gc (pu_aload _ _) (sn_aload_n (i := 0) (jm_dc dc_275_2 13 rfl)) (
  jm_gc (pu_getA _ _) (sn_getA (jm_dc dc_275_2 14 rfl) fl_11_145 rfl) (
  jm_gc (pu_ic _ _) (sn_bipush (jm_dc dc_275_2 15 rfl) (by decide)) (
  jm_gc (pu_aload _ _) (sn_aload_n (i := 0) (jm_dc dc_275_2 16 rfl)) (
  jm_gc (pu_getI _ _) (sn_getI (jm_dc dc_275_2 17 rfl) fl_11_536 (Or.inl rfl)) (
  jm_gc (pu_ic _ _) (sn_iconst (jm_dc dc_275_2 18 rfl) (by decide)) (
  jm_gc (pu_ibin _) (sn_isub (jm_dc dc_275_2 19 rfl)) (
  jm_gc (pu_iload _ _) (sn_iload (jm_dc dc_275_2 20 rfl)) (
  jm_gc (pu_ibin _) (sn_isub (jm_dc dc_275_2 21 rfl)) (
  jm_gc (pu_ibin _) (sn_imul (jm_dc dc_275_2 22 rfl)) (
  jm_gc (pu_iload _ _) (sn_iload (jm_dc dc_275_2 23 rfl)) (
  jm_gc (pu_ibin _) (sn_iadd (jm_dc dc_275_2 24 rfl)) (
  jm_gn)))))))))))))))))))))))))
theorem dc_275_3 : ([(142, .iaload, 1), (143, .istore 8, 2), (145, .aload_n 0, 1), (146, .getfield 142, 3), (149, .bipush 16, 2), (151, .iload 6, 2), (153, .imul, 1), (154, .iload 7, 2), (156, .iadd, 1), (157, .iload 8, 2), (159, .iastore, 1), (160, .iload 4, 2), (162, .iload 8, 2), (164, .iconst (-1), 1), (165, .if_icmp .eq 17, 3), (168, .iload 5, 2), (170, .iload 8, 2), (172, .ishr, 1), (173, .iconst 1, 1), (174, .iand, 1), (175, .ifCond .ne 7, 3), (178, .iconst 1, 1), (179, .goto 4, 3), (182, .iconst 0, 1), (183, .iadd, 1)] : List (Nat × Instr × Nat)).all (fun e => decide (decode prog_14_method_107_code e.1 = .ok e.2)) = true := by decide +kernel
abbrev cl_275_3 : List (Nat × jm_O) := [(142, op_iald 13), (143, op_istore 8 2), (145, op_aload 0 1), (146, op_getA 11 64), (149, op_ic 16 2), (151, op_iload 6 2), (153, op_ibin (fun x y => x * y)), (154, op_iload 7 2), (156, op_ibin (fun x y => x + y)), (157, op_iload 8 2), (159, op_iast), (160, op_iload 4 2), (162, op_iload 8 2), (164, op_ic (-1) 1), (165, op_ceq 182), (168, op_iload 5 2), (170, op_iload 8 2), (172, op_ibin (fun x y => x >>> (y &&& 31))), (173, op_ic 1 1), (174, op_ibin (fun x y => x &&& y)), (175, op_ifne 182), (178, op_ic 1 1), (179, op_goto 183), (182, op_ic 0 1), (183, op_ibin (fun x y => x + y))]
set_option maxRecDepth 100000 in
theorem gl_275_3 : jm_gl "FrescoWallModel" prog_14_method_107_code 9 (Option.some Jvm.ClassFile.FieldType.int) false cl_275_3 :=
  jm_gc (pu_iald _) (sn_iald (jm_dc dc_275_3 0 rfl)) (
  jm_gc (pu_istore _ _) (sn_istore (jm_dc dc_275_3 1 rfl)) (
  jm_gc (pu_aload _ _) (sn_aload_n (i := 0) (jm_dc dc_275_3 2 rfl)) (
  jm_gc (pu_getA _ _) (sn_getA (jm_dc dc_275_3 3 rfl) fl_11_142 rfl) (
  jm_gc (pu_ic _ _) (sn_bipush (jm_dc dc_275_3 4 rfl) (by decide)) (
  jm_gc (pu_iload _ _) (sn_iload (jm_dc dc_275_3 5 rfl)) (
  jm_gc (pu_ibin _) (sn_imul (jm_dc dc_275_3 6 rfl)) (
  jm_gc (pu_iload _ _) (sn_iload (jm_dc dc_275_3 7 rfl)) (
  jm_gc (pu_ibin _) (sn_iadd (jm_dc dc_275_3 8 rfl)) (
  jm_gc (pu_iload _ _) (sn_iload (jm_dc dc_275_3 9 rfl)) (
  jm_gc (pu_iast) (sn_iast (jm_dc dc_275_3 10 rfl)) (
  jm_gc (pu_iload _ _) (sn_iload (jm_dc dc_275_3 11 rfl)) (
  jm_gc (pu_iload _ _) (sn_iload (jm_dc dc_275_3 12 rfl)) (
  jm_gc (pu_ic _ _) (sn_iconst (jm_dc dc_275_3 13 rfl) (by decide)) (
  jm_gc (pu_ceq _) (sn_ceq (jm_dc dc_275_3 14 rfl) (by decide)) (
  jm_gc (pu_iload _ _) (sn_iload (jm_dc dc_275_3 15 rfl)) (
  jm_gc (pu_iload _ _) (sn_iload (jm_dc dc_275_3 16 rfl)) (
  jm_gc (pu_ibin _) (sn_ishr (jm_dc dc_275_3 17 rfl)) (
  jm_gc (pu_ic _ _) (sn_iconst (jm_dc dc_275_3 18 rfl) (by decide)) (
  jm_gc (pu_ibin _) (sn_iand (jm_dc dc_275_3 19 rfl)) (
  jm_gc (pu_ifne _) (sn_ifne (jm_dc dc_275_3 20 rfl) (by decide)) (
  jm_gc (pu_ic _ _) (sn_iconst (jm_dc dc_275_3 21 rfl) (by decide)) (
  jm_gc (pu_goto _) (sn_goto (jm_dc dc_275_3 22 rfl) (by decide)) (
  jm_gc (pu_ic _ _) (sn_iconst (jm_dc dc_275_3 23 rfl) (by decide)) (
  jm_gc (pu_ibin _) (sn_iadd (jm_dc dc_275_3 24 rfl)) (
  jm_gn)))))))))))))))))))))))))
theorem dc_275_4 : ([(184, .istore 4, 2), (186, .iload 5, 2), (188, .iload 8, 2), (190, .iconst (-1), 1), (191, .if_icmp .eq 10, 3), (194, .iconst 1, 1), (195, .iload 8, 2), (197, .ishl, 1), (198, .goto 4, 3), (201, .iconst 0, 1), (202, .ior, 1), (203, .istore 5, 2), (205, .iinc 7 1, 3), (208, .goto (-94), 3), (211, .iinc 6 1, 3), (214, .goto (-112), 3), (217, .iload 4, 2), (219, .ireturn, 1)] : List (Nat × Instr × Nat)).all (fun e => decide (decode prog_14_method_107_code e.1 = .ok e.2)) = true := by decide +kernel
abbrev cl_275_4 : List (Nat × jm_O) := [(184, op_istore 4 2), (186, op_iload 5 2), (188, op_iload 8 2), (190, op_ic (-1) 1), (191, op_ceq 201), (194, op_ic 1 1), (195, op_iload 8 2), (197, op_ibin (fun x y => x <<< (y &&& 31))), (198, op_goto 202), (201, op_ic 0 1), (202, op_ibin (fun x y => x ||| y)), (203, op_istore 5 2), (205, op_iinc 7 1), (208, op_goto 114), (211, op_iinc 6 1), (214, op_goto 102), (217, op_iload 4 2), (219, op_iret)]
set_option maxRecDepth 100000 in
theorem gl_275_4 : jm_gl "FrescoWallModel" prog_14_method_107_code 9 (Option.some Jvm.ClassFile.FieldType.int) false cl_275_4 :=
  jm_gc (pu_istore _ _) (sn_istore (jm_dc dc_275_4 0 rfl)) (
  jm_gc (pu_iload _ _) (sn_iload (jm_dc dc_275_4 1 rfl)) (
  jm_gc (pu_iload _ _) (sn_iload (jm_dc dc_275_4 2 rfl)) (
  jm_gc (pu_ic _ _) (sn_iconst (jm_dc dc_275_4 3 rfl) (by decide)) (
  jm_gc (pu_ceq _) (sn_ceq (jm_dc dc_275_4 4 rfl) (by decide)) (
  jm_gc (pu_ic _ _) (sn_iconst (jm_dc dc_275_4 5 rfl) (by decide)) (
  jm_gc (pu_iload _ _) (sn_iload (jm_dc dc_275_4 6 rfl)) (
  jm_gc (pu_ibin _) (sn_ishl (jm_dc dc_275_4 7 rfl)) (
  jm_gc (pu_goto _) (sn_goto (jm_dc dc_275_4 8 rfl) (by decide)) (
  jm_gc (pu_ic _ _) (sn_iconst (jm_dc dc_275_4 9 rfl) (by decide)) (
  jm_gc (pu_ibin _) (sn_ior (jm_dc dc_275_4 10 rfl)) (
  jm_gc (pu_istore _ _) (sn_istore (jm_dc dc_275_4 11 rfl)) (
  jm_gc (pu_iinc _ _) (sn_iinc (jm_dc dc_275_4 12 rfl) (by decide)) (
  jm_gc (pu_goto _) (sn_goto (jm_dc dc_275_4 13 rfl) (by decide)) (
  jm_gc (pu_iinc _ _) (sn_iinc (jm_dc dc_275_4 14 rfl) (by decide)) (
  jm_gc (pu_goto _) (sn_goto (jm_dc dc_275_4 15 rfl) (by decide)) (
  jm_gc (pu_iload _ _) (sn_iload (jm_dc dc_275_4 16 rfl)) (
  jm_gc (pu_iret) (sn_iret (jm_dc dc_275_4 17 rfl) rfl) (
  jm_gn))))))))))))))))))
theorem dc_276_0 : ([(0, .iload_n 2, 1), (1, .aload_n 0, 1), (2, .getfield 545, 3), (5, .isub, 1), (6, .istore 4, 2), (8, .iload 4, 2), (10, .iload_n 2, 1), (11, .aload_n 0, 1), (12, .getfield 545, 3), (15, .iadd, 1), (16, .if_icmp .gt 115, 3), (19, .iload_n 1, 1), (20, .aload_n 0, 1), (21, .getfield 545, 3), (24, .isub, 1), (25, .istore 5, 2), (27, .iload 5, 2), (29, .iload_n 1, 1), (30, .aload_n 0, 1), (31, .getfield 545, 3), (34, .iadd, 1), (35, .if_icmp .gt 90, 3), (38, .iload 5, 2), (40, .aload_n 0, 1), (41, .getfield 539, 3)] : List (Nat × Instr × Nat)).all (fun e => decide (decode prog_14_method_108_code e.1 = .ok e.2)) = true := by decide +kernel
abbrev cl_276_0 : List (Nat × jm_O) := [(0, op_iload 2 1), (1, op_aload 0 1), (2, op_getI 11 63), (5, op_ibin (fun x y => x - y)), (6, op_istore 4 2), (8, op_iload 4 2), (10, op_iload 2 1), (11, op_aload 0 1), (12, op_getI 11 63), (15, op_ibin (fun x y => x + y)), (16, op_cgt 131), (19, op_iload 1 1), (20, op_aload 0 1), (21, op_getI 11 63), (24, op_ibin (fun x y => x - y)), (25, op_istore 5 2), (27, op_iload 5 2), (29, op_iload 1 1), (30, op_aload 0 1), (31, op_getI 11 63), (34, op_ibin (fun x y => x + y)), (35, op_cgt 125), (38, op_iload 5 2), (40, op_aload 0 1), (41, op_getI 11 61)]
set_option maxRecDepth 100000 in
theorem gl_276_0 : jm_gl "FrescoWallModel" prog_14_method_108_code 7 (Option.some Jvm.ClassFile.FieldType.boolean) false cl_276_0 :=
  jm_gc (pu_iload _ _) (sn_iload_n (i := 2) (jm_dc dc_276_0 0 rfl)) (
  jm_gc (pu_aload _ _) (sn_aload_n (i := 0) (jm_dc dc_276_0 1 rfl)) (
  jm_gc (pu_getI _ _) (sn_getI (jm_dc dc_276_0 2 rfl) fl_11_545 (Or.inl rfl)) (
  jm_gc (pu_ibin _) (sn_isub (jm_dc dc_276_0 3 rfl)) (
  jm_gc (pu_istore _ _) (sn_istore (jm_dc dc_276_0 4 rfl)) (
  jm_gc (pu_iload _ _) (sn_iload (jm_dc dc_276_0 5 rfl)) (
  jm_gc (pu_iload _ _) (sn_iload_n (i := 2) (jm_dc dc_276_0 6 rfl)) (
  jm_gc (pu_aload _ _) (sn_aload_n (i := 0) (jm_dc dc_276_0 7 rfl)) (
  jm_gc (pu_getI _ _) (sn_getI (jm_dc dc_276_0 8 rfl) fl_11_545 (Or.inl rfl)) (
  jm_gc (pu_ibin _) (sn_iadd (jm_dc dc_276_0 9 rfl)) (
  jm_gc (pu_cgt _) (sn_cgt (jm_dc dc_276_0 10 rfl) (by decide)) (
  jm_gc (pu_iload _ _) (sn_iload_n (i := 1) (jm_dc dc_276_0 11 rfl)) (
  jm_gc (pu_aload _ _) (sn_aload_n (i := 0) (jm_dc dc_276_0 12 rfl)) (
  jm_gc (pu_getI _ _) (sn_getI (jm_dc dc_276_0 13 rfl) fl_11_545 (Or.inl rfl)) (
  jm_gc (pu_ibin _) (sn_isub (jm_dc dc_276_0 14 rfl)) (
  jm_gc (pu_istore _ _) (sn_istore (jm_dc dc_276_0 15 rfl)) (
  jm_gc (pu_iload _ _) (sn_iload (jm_dc dc_276_0 16 rfl)) (
  jm_gc (pu_iload _ _) (sn_iload_n (i := 1) (jm_dc dc_276_0 17 rfl)) (
  jm_gc (pu_aload _ _) (sn_aload_n (i := 0) (jm_dc dc_276_0 18 rfl)) (
  jm_gc (pu_getI _ _) (sn_getI (jm_dc dc_276_0 19 rfl) fl_11_545 (Or.inl rfl)) (
  jm_gc (pu_ibin _) (sn_iadd (jm_dc dc_276_0 20 rfl)) (
  jm_gc (pu_cgt _) (sn_cgt (jm_dc dc_276_0 21 rfl) (by decide)) (
  jm_gc (pu_iload _ _) (sn_iload (jm_dc dc_276_0 22 rfl)) (
  jm_gc (pu_aload _ _) (sn_aload_n (i := 0) (jm_dc dc_276_0 23 rfl)) (
  jm_gc (pu_getI _ _) (sn_getI (jm_dc dc_276_0 24 rfl) fl_11_539 (Or.inl rfl)) (
  jm_gn)))))))))))))))))))))))))
theorem dc_276_1 : ([(44, .isub, 1), (45, .iconst 0, 1), (46, .aload_n 0, 1), (47, .getfield 533, 3), (50, .iconst 1, 1), (51, .isub, 1), (52, .invokestatic 218, 3), (55, .ifCond .eq 27, 3), (58, .iload 4, 2), (60, .aload_n 0, 1), (61, .getfield 542, 3), (64, .isub, 1), (65, .iconst 0, 1), (66, .aload_n 0, 1), (67, .getfield 536, 3), (70, .iconst 1, 1), (71, .isub, 1), (72, .invokestatic 218, 3), (75, .ifCond .eq 7, 3), (78, .iconst 1, 1), (79, .goto 4, 3), (82, .iconst 0, 1), (83, .istore 6, 2), (85, .iload 6, 2), (87, .ifCond .eq 32, 3)] : List (Nat × Instr × Nat)).all (fun e => decide (decode prog_14_method_108_code e.1 = .ok e.2)) = true := by decide +kernel
abbrev cl_276_1 : List (Nat × jm_O) := [(44, op_ibin (fun x y => x - y)), (45, op_ic 0 1), (46, op_aload 0 1), (47, op_getI 11 59), (50, op_ic 1 1), (51, op_ibin (fun x y => x - y)), (52, op_callS 171 3), (55, op_ifeq 82), (58, op_iload 4 2), (60, op_aload 0 1), (61, op_getI 11 62), (64, op_ibin (fun x y => x - y)), (65, op_ic 0 1), (66, op_aload 0 1), (67, op_getI 11 60), (70, op_ic 1 1), (71, op_ibin (fun x y => x - y)), (72, op_callS 171 3), (75, op_ifeq 82), (78, op_ic 1 1), (79, op_goto 83), (82, op_ic 0 1), (83, op_istore 6 2), (85, op_iload 6 2), (87, op_ifeq 119)]
set_option maxRecDepth 100000 in
theorem gl_276_1 : jm_gl "FrescoWallModel" prog_14_method_108_code 7 (Option.some Jvm.ClassFile.FieldType.boolean) false cl_276_1 :=
  jm_gc (pu_ibin _) (sn_isub (jm_dc dc_276_1 0 rfl)) (
  jm_gc (pu_ic _ _) (sn_iconst (jm_dc dc_276_1 1 rfl) (by decide)) (
  jm_gc (pu_aload _ _) (sn_aload_n (i := 0) (jm_dc dc_276_1 2 rfl)) (
  jm_gc (pu_getI _ _) (sn_getI (jm_dc dc_276_1 3 rfl) fl_11_533 (Or.inl rfl)) (
  jm_gc (pu_ic _ _) (sn_iconst (jm_dc dc_276_1 4 rfl) (by decide)) (
  jm_gc (pu_ibin _) (sn_isub (jm_dc dc_276_1 5 rfl)) (
  jm_gc (pu_callS _ _) (sn_callS (jm_dc dc_276_1 6 rfl) lk_11_218) (
  jm_gc (pu_ifeq _) (sn_ifeq (jm_dc dc_276_1 7 rfl) (by decide)) (
  jm_gc (pu_iload _ _) (sn_iload (jm_dc dc_276_1 8 rfl)) (
  jm_gc (pu_aload _ _) (sn_aload_n (i := 0) (jm_dc dc_276_1 9 rfl)) (
  jm_gc (pu_getI _ _) (sn_getI (jm_dc dc_276_1 10 rfl) fl_11_542 (Or.inl rfl)) (
  jm_gc (pu_ibin _) (sn_isub (jm_dc dc_276_1 11 rfl)) (
  jm_gc (pu_ic _ _) (sn_iconst (jm_dc dc_276_1 12 rfl) (by decide)) (
  jm_gc (pu_aload _ _) (sn_aload_n (i := 0) (jm_dc dc_276_1 13 rfl)) (
  jm_gc (pu_getI _ _) (sn_getI (jm_dc dc_276_1 14 rfl) fl_11_536 (Or.inl rfl)) (
  jm_gc (pu_ic _ _) (sn_iconst (jm_dc dc_276_1 15 rfl) (by decide)) (
  jm_gc (pu_ibin _) (sn_isub (jm_dc dc_276_1 16 rfl)) (
  jm_gc (pu_callS _ _) (sn_callS (jm_dc dc_276_1 17 rfl) lk_11_218) (
  jm_gc (pu_ifeq _) (sn_ifeq (jm_dc dc_276_1 18 rfl) (by decide)) (
  jm_gc (pu_ic _ _) (sn_iconst (jm_dc dc_276_1 19 rfl) (by decide)) (
  jm_gc (pu_goto _) (sn_goto (jm_dc dc_276_1 20 rfl) (by decide)) (
  jm_gc (pu_ic _ _) (sn_iconst (jm_dc dc_276_1 21 rfl) (by decide)) (
  jm_gc (pu_istore _ _) (sn_istore (jm_dc dc_276_1 22 rfl)) (
  jm_gc (pu_iload _ _) (sn_iload (jm_dc dc_276_1 23 rfl)) (
  jm_gc (pu_ifeq _) (sn_ifeq (jm_dc dc_276_1 24 rfl) (by decide)) (
  jm_gn)))))))))))))))))))))))))
theorem dc_276_2 : ([(90, .aload_n 0, 1), (91, .getfield 142, 3), (94, .bipush 16, 2), (96, .iload 4, 2), (98, .aload_n 0, 1), (99, .getfield 542, 3), (102, .isub, 1), (103, .imul, 1), (104, .iload 5, 2), (106, .iadd, 1), (107, .aload_n 0, 1), (108, .getfield 539, 3), (111, .isub, 1), (112, .iaload, 1), (113, .iload_n 3, 1), (114, .if_icmp .ne 5, 3), (117, .iconst 1, 1), (118, .ireturn, 1), (119, .iinc 5 1, 3), (122, .goto (-95), 3), (125, .iinc 4 1, 3), (128, .goto (-120), 3), (131, .iconst 0, 1), (132, .ireturn, 1)] : List (Nat × Instr × Nat)).all (fun e => decide (decode prog_14_method_108_code e.1 = .ok e.2)) = true := by decide +kernel
abbrev cl_276_2 : List (Nat × jm_O) := [(90, op_aload 0 1), (91, op_getA 11 64), (94, op_ic 16 2), (96, op_iload 4 2), (98, op_aload 0 1), (99, op_getI 11 62), (102, op_ibin (fun x y => x - y)), (103, op_ibin (fun x y => x * y)), (104, op_iload 5 2), (106, op_ibin (fun x y => x + y)), (107, op_aload 0 1), (108, op_getI 11 61), (111, op_ibin (fun x y => x - y)), (112, op_iald 13), (113, op_iload 3 1), (114, op_cne 119), (117, op_ic 1 1), (118, op_zret), (119, op_iinc 5 1), (122, op_goto 27), (125, op_iinc 4 1), (128, op_goto 8), (131, op_ic 0 1), (132, op_zret)]
set_option maxRecDepth 100000 in
theorem gl_276_2 : jm_gl "FrescoWallModel" prog_14_method_108_code 7 (Option.some Jvm.ClassFile.FieldType.boolean) false cl_276_2 :=
  jm_gc (pu_aload _ _) (sn_aload_n (i := 0) (jm_dc dc_276_2 0 rfl)) (
  jm_gc (pu_getA _ _) (sn_getA (jm_dc dc_276_2 1 rfl) fl_11_142 rfl) (
  jm_gc (pu_ic _ _) (sn_bipush (jm_dc dc_276_2 2 rfl) (by decide)) (
  jm_gc (pu_iload _ _) (sn_iload (jm_dc dc_276_2 3 rfl)) (
  jm_gc (pu_aload _ _) (sn_aload_n (i := 0) (jm_dc dc_276_2 4 rfl)) (
  jm_gc (pu_getI _ _) (sn_getI (jm_dc dc_276_2 5 rfl) fl_11_542 (Or.inl rfl)) (
  jm_gc (pu_ibin _) (sn_isub (jm_dc dc_276_2 6 rfl)) (
  jm_gc (pu_ibin _) (sn_imul (jm_dc dc_276_2 7 rfl)) (
  jm_gc (pu_iload _ _) (sn_iload (jm_dc dc_276_2 8 rfl)) (
  jm_gc (pu_ibin _) (sn_iadd (jm_dc dc_276_2 9 rfl)) (
  jm_gc (pu_aload _ _) (sn_aload_n (i := 0) (jm_dc dc_276_2 10 rfl)) (
  jm_gc (pu_getI _ _) (sn_getI (jm_dc dc_276_2 11 rfl) fl_11_539 (Or.inl rfl)) (
  jm_gc (pu_ibin _) (sn_isub (jm_dc dc_276_2 12 rfl)) (
  jm_gc (pu_iald _) (sn_iald (jm_dc dc_276_2 13 rfl)) (
  jm_gc (pu_iload _ _) (sn_iload_n (i := 3) (jm_dc dc_276_2 14 rfl)) (
  jm_gc (pu_cne _) (sn_cne (jm_dc dc_276_2 15 rfl) (by decide)) (
  jm_gc (pu_ic _ _) (sn_iconst (jm_dc dc_276_2 16 rfl) (by decide)) (
  jm_gc (pu_zret) (sn_zret (jm_dc dc_276_2 17 rfl) rfl) (
  jm_gc (pu_iinc _ _) (sn_iinc (jm_dc dc_276_2 18 rfl) (by decide)) (
  jm_gc (pu_goto _) (sn_goto (jm_dc dc_276_2 19 rfl) (by decide)) (
  jm_gc (pu_iinc _ _) (sn_iinc (jm_dc dc_276_2 20 rfl) (by decide)) (
  jm_gc (pu_goto _) (sn_goto (jm_dc dc_276_2 21 rfl) (by decide)) (
  jm_gc (pu_ic _ _) (sn_iconst (jm_dc dc_276_2 22 rfl) (by decide)) (
  jm_gc (pu_zret) (sn_zret (jm_dc dc_276_2 23 rfl) rfl) (
  jm_gn))))))))))))))))))))))))
theorem dc_277_0 : ([(0, .iconst 0, 1), (1, .istore 5, 2), (3, .iconst 5, 1), (4, .iload_n 1, 1), (5, .imul, 1), (6, .istore 6, 2), (8, .iload 6, 2), (10, .iconst 5, 1), (11, .iload_n 1, 1), (12, .imul, 1), (13, .aload_n 0, 1), (14, .getfield 25, 3), (17, .iload_n 1, 1), (18, .iaload, 1), (19, .iadd, 1), (20, .if_icmp .ge 74, 3), (23, .iload 5, 2), (25, .aload_n 0, 1), (26, .iload_n 2, 1), (27, .aload_n 0, 1), (28, .getfield 28, 3), (31, .iload 6, 2), (33, .iaload, 1), (34, .aload_n 0, 1), (35, .getfield 31, 3)] : List (Nat × Instr × Nat)).all (fun e => decide (decode prog_14_method_109_code e.1 = .ok e.2)) = true := by decide +kernel
abbrev cl_277_0 : List (Nat × jm_O) := [(0, op_ic 0 1), (1, op_istore 5 2), (3, op_ic 5 1), (4, op_iload 1 1), (5, op_ibin (fun x y => x * y)), (6, op_istore 6 2), (8, op_iload 6 2), (10, op_ic 5 1), (11, op_iload 1 1), (12, op_ibin (fun x y => x * y)), (13, op_aload 0 1), (14, op_getA 11 8), (17, op_iload 1 1), (18, op_iald 13), (19, op_ibin (fun x y => x + y)), (20, op_cge 94), (23, op_iload 5 2), (25, op_aload 0 1), (26, op_iload 2 1), (27, op_aload 0 1), (28, op_getA 11 9), (31, op_iload 6 2), (33, op_iald 13), (34, op_aload 0 1), (35, op_getA 11 10)]
set_option maxRecDepth 100000 in
theorem gl_277_0 : jm_gl "FrescoWallModel" prog_14_method_109_code 7 (Option.some Jvm.ClassFile.FieldType.int) false cl_277_0 :=
  jm_gc (pu_ic _ _) (sn_iconst (jm_dc dc_277_0 0 rfl) (by decide)) (
  jm_gc (pu_istore _ _) (sn_istore (jm_dc dc_277_0 1 rfl)) (
  jm_gc (pu_ic _ _) (sn_iconst (jm_dc dc_277_0 2 rfl) (by decide)) (
  jm_gc (pu_iload _ _) (sn_iload_n (i := 1) (jm_dc dc_277_0 3 rfl)) (
  jm_gc (pu_ibin _) (sn_imul (jm_dc dc_277_0 4 rfl)) (
  jm_gc (pu_istore _ _) (sn_istore (jm_dc dc_277_0 5 rfl)) (
  jm_gc (pu_iload _ _) (sn_iload (jm_dc dc_277_0 6 rfl)) (
  jm_gc (pu_ic _ _) (sn_iconst (jm_dc dc_277_0 7 rfl) (by decide)) (
  jm_gc (pu_iload _ _) (sn_iload_n (i := 1) (jm_dc dc_277_0 8 rfl)) (
  jm_gc (pu_ibin _) (sn_imul (jm_dc dc_277_0 9 rfl)) (
  jm_gc (pu_aload _ _) (sn_aload_n (i := 0) (jm_dc dc_277_0 10 rfl)) (
  jm_gc (pu_getA _ _) (sn_getA (jm_dc dc_277_0 11 rfl) fl_11_25 rfl) (
  jm_gc (pu_iload _ _) (sn_iload_n (i := 1) (jm_dc dc_277_0 12 rfl)) (
  jm_gc (pu_iald _) (sn_iald (jm_dc dc_277_0 13 rfl)) (
  jm_gc (pu_ibin _) (sn_iadd (jm_dc dc_277_0 14 rfl)) (
  jm_gc (pu_cge _) (sn_cge (jm_dc dc_277_0 15 rfl) (by decide)) (
  jm_gc (pu_iload _ _) (sn_iload (jm_dc dc_277_0 16 rfl)) (
  jm_gc (pu_aload _ _) (sn_aload_n (i := 0) (jm_dc dc_277_0 17 rfl)) (
  jm_gc (pu_iload _ _) (sn_iload_n (i := 2) (jm_dc dc_277_0 18 rfl)) (
  jm_gc (pu_aload _ _) (sn_aload_n (i := 0) (jm_dc dc_277_0 19 rfl)) (
  jm_gc (pu_getA _ _) (sn_getA (jm_dc dc_277_0 20 rfl) fl_11_28 rfl) (
  jm_gc (pu_iload _ _) (sn_iload (jm_dc dc_277_0 21 rfl)) (
  jm_gc (pu_iald _) (sn_iald (jm_dc dc_277_0 22 rfl)) (
  jm_gc (pu_aload _ _) (sn_aload_n (i := 0) (jm_dc dc_277_0 23 rfl)) (
  jm_gc (pu_getA _ _) (sn_getA (jm_dc dc_277_0 24 rfl) fl_11_31 rfl) (
  jm_gn)))))))))))))))))))))))))
theorem dc_277_1 : ([(38, .iload 6, 2), (40, .iaload, 1), (41, .invokestatic 344, 3), (44, .iload_n 3, 1), (45, .iadd, 1), (46, .iload_n 2, 1), (47, .aload_n 0, 1), (48, .getfield 28, 3), (51, .iload 6, 2), (53, .iaload, 1), (54, .aload_n 0, 1), (55, .getfield 31, 3), (58, .iload 6, 2), (60, .iaload, 1), (61, .invokestatic 347, 3), (64, .iload 4, 2), (66, .iadd, 1), (67, .aload_n 0, 1), (68, .getfield 34, 3), (71, .iload 6, 2), (73, .iaload, 1), (74, .invokevirtual 548, 3), (77, .ifCond .eq 7, 3), (80, .iconst 1, 1), (81, .goto 4, 3)] : List (Nat × Instr × Nat)).all (fun e => decide (decode prog_14_method_109_code e.1 = .ok e.2)) = true := by decide +kernel
abbrev cl_277_1 : List (Nat × jm_O) := [(38, op_iload 6 2), (40, op_iald 13), (41, op_callS 205 3), (44, op_iload 3 1), (45, op_ibin (fun x y => x + y)), (46, op_iload 2 1), (47, op_aload 0 1), (48, op_getA 11 9), (51, op_iload 6 2), (53, op_iald 13), (54, op_aload 0 1), (55, op_getA 11 10), (58, op_iload 6 2), (60, op_iald 13), (61, op_callS 206 3), (64, op_iload 4 2), (66, op_ibin (fun x y => x + y)), (67, op_aload 0 1), (68, op_getA 11 11), (71, op_iload 6 2), (73, op_iald 13), (74, op_callV 11 276 4), (77, op_ifeq 84), (80, op_ic 1 1), (81, op_goto 85)]
set_option maxRecDepth 100000 in
theorem gl_277_1 : jm_gl "FrescoWallModel" prog_14_method_109_code 7 (Option.some Jvm.ClassFile.FieldType.int) false cl_277_1 :=
  jm_gc (pu_iload _ _) (sn_iload (jm_dc dc_277_1 0 rfl)) (
  jm_gc (pu_iald _) (sn_iald (jm_dc dc_277_1 1 rfl)) (
  jm_gc (pu_callS _ _) (sn_callS (jm_dc dc_277_1 2 rfl) lk_11_344) (
  jm_gc (pu_iload _ _) (sn_iload_n (i := 3) (jm_dc dc_277_1 3 rfl)) (
  jm_gc (pu_ibin _) (sn_iadd (jm_dc dc_277_1 4 rfl)) (
  jm_gc (pu_iload _ _) (sn_iload_n (i := 2) (jm_dc dc_277_1 5 rfl)) (
  jm_gc (pu_aload _ _) (sn_aload_n (i := 0) (jm_dc dc_277_1 6 rfl)) (
  jm_gc (pu_getA _ _) (sn_getA (jm_dc dc_277_1 7 rfl) fl_11_28 rfl) (
  jm_gc (pu_iload _ _) (sn_iload (jm_dc dc_277_1 8 rfl)) (
  jm_gc (pu_iald _) (sn_iald (jm_dc dc_277_1 9 rfl)) (
  jm_gc (pu_aload _ _) (sn_aload_n (i := 0) (jm_dc dc_277_1 10 rfl)) (
  jm_gc (pu_getA _ _) (sn_getA (jm_dc dc_277_1 11 rfl) fl_11_31 rfl) (
  jm_gc (pu_iload _ _) (sn_iload (jm_dc dc_277_1 12 rfl)) (
  jm_gc (pu_iald _) (sn_iald (jm_dc dc_277_1 13 rfl)) (
  jm_gc (pu_callS _ _) (sn_callS (jm_dc dc_277_1 14 rfl) lk_11_347) (
  jm_gc (pu_iload _ _) (sn_iload (jm_dc dc_277_1 15 rfl)) (
  jm_gc (pu_ibin _) (sn_iadd (jm_dc dc_277_1 16 rfl)) (
  jm_gc (pu_aload _ _) (sn_aload_n (i := 0) (jm_dc dc_277_1 17 rfl)) (
  jm_gc (pu_getA _ _) (sn_getA (jm_dc dc_277_1 18 rfl) fl_11_34 rfl) (
  jm_gc (pu_iload _ _) (sn_iload (jm_dc dc_277_1 19 rfl)) (
  jm_gc (pu_iald _) (sn_iald (jm_dc dc_277_1 20 rfl)) (
  jm_gc (pu_callV _ _ _) (sn_callV (jm_dc dc_277_1 21 rfl) lk_11_548) (
  jm_gc (pu_ifeq _) (sn_ifeq (jm_dc dc_277_1 22 rfl) (by decide)) (
  jm_gc (pu_ic _ _) (sn_iconst (jm_dc dc_277_1 23 rfl) (by decide)) (
  jm_gc (pu_goto _) (sn_goto (jm_dc dc_277_1 24 rfl) (by decide)) (
  jm_gn)))))))))))))))))))))))))
theorem dc_277_2 : ([(84, .iconst 0, 1), (85, .iadd, 1), (86, .istore 5, 2), (88, .iinc 6 1, 3), (91, .goto (-83), 3), (94, .iload 5, 2), (96, .ireturn, 1)] : List (Nat × Instr × Nat)).all (fun e => decide (decode prog_14_method_109_code e.1 = .ok e.2)) = true := by decide +kernel
abbrev cl_277_2 : List (Nat × jm_O) := [(84, op_ic 0 1), (85, op_ibin (fun x y => x + y)), (86, op_istore 5 2), (88, op_iinc 6 1), (91, op_goto 8), (94, op_iload 5 2), (96, op_iret)]
set_option maxRecDepth 100000 in
theorem gl_277_2 : jm_gl "FrescoWallModel" prog_14_method_109_code 7 (Option.some Jvm.ClassFile.FieldType.int) false cl_277_2 :=
  jm_gc (pu_ic _ _) (sn_iconst (jm_dc dc_277_2 0 rfl) (by decide)) (
  jm_gc (pu_ibin _) (sn_iadd (jm_dc dc_277_2 1 rfl)) (
  jm_gc (pu_istore _ _) (sn_istore (jm_dc dc_277_2 2 rfl)) (
  jm_gc (pu_iinc _ _) (sn_iinc (jm_dc dc_277_2 3 rfl) (by decide)) (
  jm_gc (pu_goto _) (sn_goto (jm_dc dc_277_2 4 rfl) (by decide)) (
  jm_gc (pu_iload _ _) (sn_iload (jm_dc dc_277_2 5 rfl)) (
  jm_gc (pu_iret) (sn_iret (jm_dc dc_277_2 6 rfl) rfl) (
  jm_gn)))))))
theorem dc_278_0 : ([(0, .aload_n 0, 1), (1, .iload_n 1, 1), (2, .invokevirtual 222, 3), (5, .ifCond .ne 5, 3), (8, .iconst (-1), 1), (9, .ireturn, 1), (10, .iload_n 2, 1), (11, .iload_n 3, 1), (12, .iload 4, 2), (14, .invokestatic 503, 3), (17, .ifCond .ne 8, 3), (20, .bipush (-2), 2), (22, .goto 24, 3), (25, .aload_n 0, 1), (26, .getfield 533, 3), (29, .ifCond .ne 8, 3), (32, .bipush (-3), 2), (34, .goto 12, 3), (37, .aload_n 0, 1), (38, .iload_n 1, 1), (39, .iload_n 2, 1), (40, .iload_n 3, 1), (41, .iload 4, 2), (43, .invokevirtual 551, 3), (46, .ireturn, 1)] : List (Nat × Instr × Nat)).all (fun e => decide (decode prog_14_method_110_code e.1 = .ok e.2)) = true := by decide +kernel
abbrev cl_278_0 : List (Nat × jm_O) := [(0, op_aload 0 1), (1, op_iload 1 1), (2, op_callV 11 172 2), (5, op_ifne 10), (8, op_ic (-1) 1), (9, op_iret), (10, op_iload 2 1), (11, op_iload 3 1), (12, op_iload 4 2), (14, op_callS 260 3), (17, op_ifne 25), (20, op_ic (-2) 2), (22, op_goto 46), (25, op_aload 0 1), (26, op_getI 11 59), (29, op_ifne 37), (32, op_ic (-3) 2), (34, op_goto 46), (37, op_aload 0 1), (38, op_iload 1 1), (39, op_iload 2 1), (40, op_iload 3 1), (41, op_iload 4 2), (43, op_callV 11 277 5), (46, op_iret)]
set_option maxRecDepth 100000 in
theorem gl_278_0 : jm_gl "FrescoWallModel" prog_14_method_110_code 5 (Option.some Jvm.ClassFile.FieldType.int) false cl_278_0 :=
  jm_gc (pu_aload _ _) (sn_aload_n (i := 0) (jm_dc dc_278_0 0 rfl)) (
  jm_gc (pu_iload _ _) (sn_iload_n (i := 1) (jm_dc dc_278_0 1 rfl)) (
  jm_gc (pu_callV _ _ _) (sn_callV (jm_dc dc_278_0 2 rfl) lk_11_222) (
  jm_gc (pu_ifne _) (sn_ifne (jm_dc dc_278_0 3 rfl) (by decide)) (
  jm_gc (pu_ic _ _) (sn_iconst (jm_dc dc_278_0 4 rfl) (by decide)) (
  jm_gc (pu_iret) (sn_iret (jm_dc dc_278_0 5 rfl) rfl) (
  jm_gc (pu_iload _ _) (sn_iload_n (i := 2) (jm_dc dc_278_0 6 rfl)) (
  jm_gc (pu_iload _ _) (sn_iload_n (i := 3) (jm_dc dc_278_0 7 rfl)) (
  jm_gc (pu_iload _ _) (sn_iload (jm_dc dc_278_0 8 rfl)) (
  jm_gc (pu_callS _ _) (sn_callS (jm_dc dc_278_0 9 rfl) lk_11_503) (
  jm_gc (pu_ifne _) (sn_ifne (jm_dc dc_278_0 10 rfl) (by decide)) (
  jm_gc (pu_ic _ _) (sn_bipush (jm_dc dc_278_0 11 rfl) (by decide)) (
  jm_gc (pu_goto _) (sn_goto (jm_dc dc_278_0 12 rfl) (by decide)) (
  jm_gc (pu_aload _ _) (sn_aload_n (i := 0) (jm_dc dc_278_0 13 rfl)) (
  jm_gc (pu_getI _ _) (sn_getI (jm_dc dc_278_0 14 rfl) fl_11_533 (Or.inl rfl)) (
  jm_gc (pu_ifne _) (sn_ifne (jm_dc dc_278_0 15 rfl) (by decide)) (
  jm_gc (pu_ic _ _) (sn_bipush (jm_dc dc_278_0 16 rfl) (by decide)) (
  jm_gc (pu_goto _) (sn_goto (jm_dc dc_278_0 17 rfl) (by decide)) (
  jm_gc (pu_aload _ _) (sn_aload_n (i := 0) (jm_dc dc_278_0 18 rfl)) (
  jm_gc (pu_iload _ _) (sn_iload_n (i := 1) (jm_dc dc_278_0 19 rfl)) (
  jm_gc (pu_iload _ _) (sn_iload_n (i := 2) (jm_dc dc_278_0 20 rfl)) (
  jm_gc (pu_iload _ _) (sn_iload_n (i := 3) (jm_dc dc_278_0 21 rfl)) (
  jm_gc (pu_iload _ _) (sn_iload (jm_dc dc_278_0 22 rfl)) (
  jm_gc (pu_callV _ _ _) (sn_callV (jm_dc dc_278_0 23 rfl) lk_11_551) (
  jm_gc (pu_iret) (sn_iret (jm_dc dc_278_0 24 rfl) rfl) (
  jm_gn)))))))))))))))))))))))))
theorem dc_279_0 : ([(0, .iconst 1, 1), (1, .istore 5, 2), (3, .iconst 5, 1), (4, .iload_n 1, 1), (5, .imul, 1), (6, .istore 6, 2), (8, .iload 6, 2), (10, .iconst 5, 1), (11, .iload_n 1, 1), (12, .imul, 1), (13, .aload_n 0, 1), (14, .getfield 25, 3), (17, .iload_n 1, 1), (18, .iaload, 1), (19, .iadd, 1), (20, .if_icmp .ge 98, 3), (23, .iload 5, 2), (25, .ifCond .eq 84, 3), (28, .iload_n 2, 1), (29, .aload_n 0, 1), (30, .getfield 28, 3), (33, .iload 6, 2), (35, .iaload, 1), (36, .aload_n 0, 1), (37, .getfield 31, 3)] : List (Nat × Instr × Nat)).all (fun e => decide (decode prog_14_method_111_code e.1 = .ok e.2)) = true := by decide +kernel
abbrev cl_279_0 : List (Nat × jm_O) := [(0, op_ic 1 1), (1, op_istore 5 2), (3, op_ic 5 1), (4, op_iload 1 1), (5, op_ibin (fun x y => x * y)), (6, op_istore 6 2), (8, op_iload 6 2), (10, op_ic 5 1), (11, op_iload 1 1), (12, op_ibin (fun x y => x * y)), (13, op_aload 0 1), (14, op_getA 11 8), (17, op_iload 1 1), (18, op_iald 13), (19, op_ibin (fun x y => x + y)), (20, op_cge 118), (23, op_iload 5 2), (25, op_ifeq 109), (28, op_iload 2 1), (29, op_aload 0 1), (30, op_getA 11 9), (33, op_iload 6 2), (35, op_iald 13), (36, op_aload 0 1), (37, op_getA 11 10)]
set_option maxRecDepth 100000 in
theorem gl_279_0 : jm_gl "FrescoWallModel" prog_14_method_111_code 7 (Option.some Jvm.ClassFile.FieldType.boolean) false cl_279_0 :=
  jm_gc (pu_ic _ _) (sn_iconst (jm_dc dc_279_0 0 rfl) (by decide)) (
  jm_gc (pu_istore _ _) (sn_istore (jm_dc dc_279_0 1 rfl)) (
  jm_gc (pu_ic _ _) (sn_iconst (jm_dc dc_279_0 2 rfl) (by decide)) (
  jm_gc (pu_iload _ _) (sn_iload_n (i := 1) (jm_dc dc_279_0 3 rfl)) (
  jm_gc (pu_ibin _) (sn_imul (jm_dc dc_279_0 4 rfl)) (
  jm_gc (pu_istore _ _) (sn_istore (jm_dc dc_279_0 5 rfl)) (
  jm_gc (pu_iload _ _) (sn_iload (jm_dc dc_279_0 6 rfl)) (
  jm_gc (pu_ic _ _) (sn_iconst (jm_dc dc_279_0 7 rfl) (by decide)) (
  jm_gc (pu_iload _ _) (sn_iload_n (i := 1) (jm_dc dc_279_0 8 rfl)) (
  jm_gc (pu_ibin _) (sn_imul (jm_dc dc_279_0 9 rfl)) (
  jm_gc (pu_aload _ _) (sn_aload_n (i := 0) (jm_dc dc_279_0 10 rfl)) (
  jm_gc (pu_getA _ _) (sn_getA (jm_dc dc_279_0 11 rfl) fl_11_25 rfl) (
  jm_gc (pu_iload _ _) (sn_iload_n (i := 1) (jm_dc dc_279_0 12 rfl)) (
  jm_gc (pu_iald _) (sn_iald (jm_dc dc_279_0 13 rfl)) (
  jm_gc (pu_ibin _) (sn_iadd (jm_dc dc_279_0 14 rfl)) (
  jm_gc (pu_cge _) (sn_cge (jm_dc dc_279_0 15 rfl) (by decide)) (
  jm_gc (pu_iload _ _) (sn_iload (jm_dc dc_279_0 16 rfl)) (
  jm_gc (pu_ifeq _) (sn_ifeq (jm_dc dc_279_0 17 rfl) (by decide)) (
  jm_gc (pu_iload _ _) (sn_iload_n (i := 2) (jm_dc dc_279_0 18 rfl)) (
  jm_gc (pu_aload _ _) (sn_aload_n (i := 0) (jm_dc dc_279_0 19 rfl)) (
  jm_gc (pu_getA _ _) (sn_getA (jm_dc dc_279_0 20 rfl) fl_11_28 rfl) (
  jm_gc (pu_iload _ _) (sn_iload (jm_dc dc_279_0 21 rfl)) (
  jm_gc (pu_iald _) (sn_iald (jm_dc dc_279_0 22 rfl)) (
  jm_gc (pu_aload _ _) (sn_aload_n (i := 0) (jm_dc dc_279_0 23 rfl)) (
  jm_gc (pu_getA _ _) (sn_getA (jm_dc dc_279_0 24 rfl) fl_11_31 rfl) (
  jm_gn)))))))))))))))))))))))))
theorem dc_279_1 : ([(40, .iload 6, 2), (42, .iaload, 1), (43, .invokestatic 344, 3), (46, .iload_n 3, 1), (47, .iadd, 1), (48, .aload_n 0, 1), (49, .getfield 539, 3), (52, .isub, 1), (53, .iconst 0, 1), (54, .aload_n 0, 1), (55, .getfield 533, 3), (58, .iconst 1, 1), (59, .isub, 1), (60, .invokestatic 218, 3), (63, .ifCond .eq 46, 3), (66, .iload_n 2, 1), (67, .aload_n 0, 1), (68, .getfield 28, 3), (71, .iload 6, 2), (73, .iaload, 1), (74, .aload_n 0, 1), (75, .getfield 31, 3), (78, .iload 6, 2), (80, .iaload, 1), (81, .invokestatic 347, 3)] : List (Nat × Instr × Nat)).all (fun e => decide (decode prog_14_method_111_code e.1 = .ok e.2)) = true := by decide +kernel
abbrev cl_279_1 : List (Nat × jm_O) := [(40, op_iload 6 2), (42, op_iald 13), (43, op_callS 205 3), (46, op_iload 3 1), (47, op_ibin (fun x y => x + y)), (48, op_aload 0 1), (49, op_getI 11 61), (52, op_ibin (fun x y => x - y)), (53, op_ic 0 1), (54, op_aload 0 1), (55, op_getI 11 59), (58, op_ic 1 1), (59, op_ibin (fun x y => x - y)), (60, op_callS 171 3), (63, op_ifeq 109), (66, op_iload 2 1), (67, op_aload 0 1), (68, op_getA 11 9), (71, op_iload 6 2), (73, op_iald 13), (74, op_aload 0 1), (75, op_getA 11 10), (78, op_iload 6 2), (80, op_iald 13), (81, op_callS 206 3)]
set_option maxRecDepth 100000 in
theorem gl_279_1 : jm_gl "FrescoWallModel" prog_14_method_111_code 7 (Option.some Jvm.ClassFile.FieldType.boolean) false cl_279_1 :=
  jm_gc (pu_iload _ _) (sn_iload (jm_dc dc_279_1 0 rfl)) (
  jm_gc (pu_iald _) (sn_iald (jm_dc dc_279_1 1 rfl)) (
  jm_gc (pu_callS _ _) (sn_callS (jm_dc dc_279_1 2 rfl) lk_11_344) (
  jm_gc (pu_iload _ _) (sn_iload_n (i := 3) (jm_dc dc_279_1 3 rfl)) (
  jm_gc (pu_ibin _) (sn_iadd (jm_dc dc_279_1 4 rfl)) (
  jm_gc (pu_aload _ _) (sn_aload_n (i := 0) (jm_dc dc_279_1 5 rfl)) (
  jm_gc (pu_getI _ _) (sn_getI (jm_dc dc_279_1 6 rfl) fl_11_539 (Or.inl rfl)) (
  jm_gc (pu_ibin _) (sn_isub (jm_dc dc_279_1 7 rfl)) (
  jm_gc (pu_ic _ _) (sn_iconst (jm_dc dc_279_1 8 rfl) (by decide)) (
  jm_gc (pu_aload _ _) (sn_aload_n (i := 0) (jm_dc dc_279_1 9 rfl)) (
  jm_gc (pu_getI _ _) (sn_getI (jm_dc dc_279_1 10 rfl) fl_11_533 (Or.inl rfl)) (
  jm_gc (pu_ic _ _) (sn_iconst (jm_dc dc_279_1 11 rfl) (by decide)) (
  jm_gc (pu_ibin _) (sn_isub (jm_dc dc_279_1 12 rfl)) (
  jm_gc (pu_callS _ _) (sn_callS (jm_dc dc_279_1 13 rfl) lk_11_218) (
  jm_gc (pu_ifeq _) (sn_ifeq (jm_dc dc_279_1 14 rfl) (by decide)) (
  jm_gc (pu_iload _ _) (sn_iload_n (i := 2) (jm_dc dc_279_1 15 rfl)) (
  jm_gc (pu_aload _ _) (sn_aload_n (i := 0) (jm_dc dc_279_1 16 rfl)) (
  jm_gc (pu_getA _ _) (sn_getA (jm_dc dc_279_1 17 rfl) fl_11_28 rfl) (
  jm_gc (pu_iload _ _) (sn_iload (jm_dc dc_279_1 18 rfl)) (
  jm_gc (pu_iald _) (sn_iald (jm_dc dc_279_1 19 rfl)) (
  jm_gc (pu_aload _ _) (sn_aload_n (i := 0) (jm_dc dc_279_1 20 rfl)) (
  jm_gc (pu_getA _ _) (sn_getA (jm_dc dc_279_1 21 rfl) fl_11_31 rfl) (
  jm_gc (pu_iload _ _) (sn_iload (jm_dc dc_279_1 22 rfl)) (
  jm_gc (pu_iald _) (sn_iald (jm_dc dc_279_1 23 rfl)) (
  jm_gc (pu_callS _ _) (sn_callS (jm_dc dc_279_1 24 rfl) lk_11_347) (
  jm_gn)))))))))))))))))))))))))
theorem dc_279_2 : ([(84, .iload 4, 2), (86, .iadd, 1), (87, .aload_n 0, 1), (88, .getfield 542, 3), (91, .isub, 1), (92, .iconst 0, 1), (93, .aload_n 0, 1), (94, .getfield 536, 3), (97, .iconst 1, 1), (98, .isub, 1), (99, .invokestatic 218, 3), (102, .ifCond .eq 7, 3), (105, .iconst 1, 1), (106, .goto 4, 3), (109, .iconst 0, 1), (110, .istore 5, 2), (112, .iinc 6 1, 3), (115, .goto (-107), 3), (118, .iload 5, 2), (120, .ireturn, 1)] : List (Nat × Instr × Nat)).all (fun e => decide (decode prog_14_method_111_code e.1 = .ok e.2)) = true := by decide +kernel
abbrev cl_279_2 : List (Nat × jm_O) := [(84, op_iload 4 2), (86, op_ibin (fun x y => x + y)), (87, op_aload 0 1), (88, op_getI 11 62), (91, op_ibin (fun x y => x - y)), (92, op_ic 0 1), (93, op_aload 0 1), (94, op_getI 11 60), (97, op_ic 1 1), (98, op_ibin (fun x y => x - y)), (99, op_callS 171 3), (102, op_ifeq 109), (105, op_ic 1 1), (106, op_goto 110), (109, op_ic 0 1), (110, op_istore 5 2), (112, op_iinc 6 1), (115, op_goto 8), (118, op_iload 5 2), (120, op_zret)]
set_option maxRecDepth 100000 in
theorem gl_279_2 : jm_gl "FrescoWallModel" prog_14_method_111_code 7 (Option.some Jvm.ClassFile.FieldType.boolean) false cl_279_2 :=
  jm_gc (pu_iload _ _) (sn_iload (jm_dc dc_279_2 0 rfl)) (
  jm_gc (pu_ibin _) (sn_iadd (jm_dc dc_279_2 1 rfl)) (
  jm_gc (pu_aload _ _) (sn_aload_n (i := 0) (jm_dc dc_279_2 2 rfl)) (
  jm_gc (pu_getI _ _) (sn_getI (jm_dc dc_279_2 3 rfl) fl_11_542 (Or.inl rfl)) (
  jm_gc (pu_ibin _) (sn_isub (jm_dc dc_279_2 4 rfl)) (
  jm_gc (pu_ic _ _) (sn_iconst (jm_dc dc_279_2 5 rfl) (by decide)) (
  jm_gc (pu_aload _ _) (sn_aload_n (i := 0) (jm_dc dc_279_2 6 rfl)) (
  jm_gc (pu_getI _ _) (sn_getI (jm_dc dc_279_2 7 rfl) fl_11_536 (Or.inl rfl)) (
  jm_gc (pu_ic _ _) (sn_iconst (jm_dc dc_279_2 8 rfl) (by decide)) (
  jm_gc (pu_ibin _) (sn_isub (jm_dc dc_279_2 9 rfl)) (
  jm_gc (pu_callS _ _) (sn_callS (jm_dc dc_279_2 10 rfl) lk_11_218) (
  jm_gc (pu_ifeq _) (sn_ifeq (jm_dc dc_279_2 11 rfl) (by decide)) (
  jm_gc (pu_ic _ _) (sn_iconst (jm_dc dc_279_2 12 rfl) (by decide)) (
  jm_gc (pu_goto _) (sn_goto (jm_dc dc_279_2 13 rfl) (by decide)) (
  jm_gc (pu_ic _ _) (sn_iconst (jm_dc dc_279_2 14 rfl) (by decide)) (
  jm_gc (pu_istore _ _) (sn_istore (jm_dc dc_279_2 15 rfl)) (
  jm_gc (pu_iinc _ _) (sn_iinc (jm_dc dc_279_2 16 rfl) (by decide)) (
  jm_gc (pu_goto _) (sn_goto (jm_dc dc_279_2 17 rfl) (by decide)) (
  jm_gc (pu_iload _ _) (sn_iload (jm_dc dc_279_2 18 rfl)) (
  jm_gc (pu_zret) (sn_zret (jm_dc dc_279_2 19 rfl) rfl) (
  jm_gn))))))))))))))))))))
theorem dc_280_0 : ([(0, .aload_n 0, 1), (1, .iload_n 1, 1), (2, .invokevirtual 222, 3), (5, .ifCond .eq 12, 3), (8, .iload_n 2, 1), (9, .iconst 0, 1), (10, .iconst 4, 1), (11, .invokestatic 218, 3), (14, .ifCond .ne 7, 3), (17, .ldc_w 334, 3), (20, .ireturn, 1), (21, .aload_n 0, 1), (22, .getfield 533, 3), (25, .ifCond .eq 12, 3), (28, .aload_n 0, 1), (29, .getfield 25, 3), (32, .iload_n 1, 1), (33, .iaload, 1), (34, .ifCond .ne 7, 3), (37, .ldc_w 554, 3), (40, .ireturn, 1), (41, .iconst (-1), 1), (42, .istore_n 3, 1), (43, .iconst 0, 1), (44, .istore 4, 2)] : List (Nat × Instr × Nat)).all (fun e => decide (decode prog_14_method_112_code e.1 = .ok e.2)) = true := by decide +kernel
abbrev cl_280_0 : List (Nat × jm_O) := [(0, op_aload 0 1), (1, op_iload 1 1), (2, op_callV 11 172 2), (5, op_ifeq 17), (8, op_iload 2 1), (9, op_ic 0 1), (10, op_ic 4 1), (11, op_callS 171 3), (14, op_ifne 21), (17, op_ic (-100000) 3), (20, op_iret), (21, op_aload 0 1), (22, op_getI 11 59), (25, op_ifeq 37), (28, op_aload 0 1), (29, op_getA 11 8), (32, op_iload 1 1), (33, op_iald 13), (34, op_ifne 41), (37, op_ic (-100001) 3), (40, op_iret), (41, op_ic (-1) 1), (42, op_istore 3 1), (43, op_ic 0 1), (44, op_istore 4 2)]
set_option maxRecDepth 100000 in
theorem gl_280_0 : jm_gl "FrescoWallModel" prog_14_method_112_code 15 (Option.some Jvm.ClassFile.FieldType.int) false cl_280_0 :=
  jm_gc (pu_aload _ _) (sn_aload_n (i := 0) (jm_dc dc_280_0 0 rfl)) (
  jm_gc (pu_iload _ _) (sn_iload_n (i := 1) (jm_dc dc_280_0 1 rfl)) (
  jm_gc (pu_callV _ _ _) (sn_callV (jm_dc dc_280_0 2 rfl) lk_11_222) (
  jm_gc (pu_ifeq _) (sn_ifeq (jm_dc dc_280_0 3 rfl) (by decide)) (
  jm_gc (pu_iload _ _) (sn_iload_n (i := 2) (jm_dc dc_280_0 4 rfl)) (
  jm_gc (pu_ic _ _) (sn_iconst (jm_dc dc_280_0 5 rfl) (by decide)) (
  jm_gc (pu_ic _ _) (sn_iconst (jm_dc dc_280_0 6 rfl) (by decide)) (
  jm_gc (pu_callS _ _) (sn_callS (jm_dc dc_280_0 7 rfl) lk_11_218) (
  jm_gc (pu_ifne _) (sn_ifne (jm_dc dc_280_0 8 rfl) (by decide)) (
  jm_gc (pu_ic _ _) (sn_ldcw (jm_dc dc_280_0 9 rfl) (kc_tb 1700 (by decide +kernel))) (
  jm_gc (pu_iret) (sn_iret (jm_dc dc_280_0 10 rfl) rfl) (
  jm_gc (pu_aload _ _) (sn_aload_n (i := 0) (jm_dc dc_280_0 11 rfl)) (
  jm_gc (pu_getI _ _) (sn_getI (jm_dc dc_280_0 12 rfl) fl_11_533 (Or.inl rfl)) (
  jm_gc (pu_ifeq _) (sn_ifeq (jm_dc dc_280_0 13 rfl) (by decide)) (
  jm_gc (pu_aload _ _) (sn_aload_n (i := 0) (jm_dc dc_280_0 14 rfl)) (
  jm_gc (pu_getA _ _) (sn_getA (jm_dc dc_280_0 15 rfl) fl_11_25 rfl) (
  jm_gc (pu_iload _ _) (sn_iload_n (i := 1) (jm_dc dc_280_0 16 rfl)) (
  jm_gc (pu_iald _) (sn_iald (jm_dc dc_280_0 17 rfl)) (
  jm_gc (pu_ifne _) (sn_ifne (jm_dc dc_280_0 18 rfl) (by decide)) (
  jm_gc (pu_ic _ _) (sn_ldcw (jm_dc dc_280_0 19 rfl) (kc_tb 1980 (by decide +kernel))) (
  jm_gc (pu_iret) (sn_iret (jm_dc dc_280_0 20 rfl) rfl) (
  jm_gc (pu_ic _ _) (sn_iconst (jm_dc dc_280_0 21 rfl) (by decide)) (
  jm_gc (pu_istore _ _) (sn_istore_n (i := 3) (jm_dc dc_280_0 22 rfl)) (
  jm_gc (pu_ic _ _) (sn_iconst (jm_dc dc_280_0 23 rfl) (by decide)) (
  jm_gc (pu_istore _ _) (sn_istore (jm_dc dc_280_0 24 rfl)) (
  jm_gn)))))))))))))))))))))))))
theorem dc_280_1 : ([(46, .iconst 0, 1), (47, .istore 5, 2), (49, .iconst 0, 1), (50, .istore 6, 2), (52, .iconst 0, 1), (53, .istore 7, 2), (55, .iconst 5, 1), (56, .iload_n 1, 1), (57, .imul, 1), (58, .istore 8, 2), (60, .iconst 0, 1), (61, .istore 9, 2), (63, .iload 9, 2), (65, .iconst 4, 1), (66, .if_icmp .ge 215, 3), (69, .iconst 0, 1), (70, .istore 10, 2), (72, .iload 10, 2), (74, .aload_n 0, 1), (75, .getfield 536, 3), (78, .if_icmp .ge 197, 3), (81, .iconst 0, 1), (82, .istore 11, 2), (84, .iload 11, 2), (86, .aload_n 0, 1)] : List (Nat × Instr × Nat)).all (fun e => decide (decode prog_14_method_112_code e.1 = .ok e.2)) = true := by decide +kernel
abbrev cl_280_1 : List (Nat × jm_O) := [(46, op_ic 0 1), (47, op_istore 5 2), (49, op_ic 0 1), (50, op_istore 6 2), (52, op_ic 0 1), (53, op_istore 7 2), (55, op_ic 5 1), (56, op_iload 1 1), (57, op_ibin (fun x y => x * y)), (58, op_istore 8 2), (60, op_ic 0 1), (61, op_istore 9 2), (63, op_iload 9 2), (65, op_ic 4 1), (66, op_cge 281), (69, op_ic 0 1), (70, op_istore 10 2), (72, op_iload 10 2), (74, op_aload 0 1), (75, op_getI 11 60), (78, op_cge 275), (81, op_ic 0 1), (82, op_istore 11 2), (84, op_iload 11 2), (86, op_aload 0 1)]
set_option maxRecDepth 100000 in
theorem gl_280_1 : jm_gl "FrescoWallModel" prog_14_method_112_code 15 (Option.some Jvm.ClassFile.FieldType.int) false cl_280_1 :=
  jm_gc (pu_ic _ _) (sn_iconst (jm_dc dc_280_1 0 rfl) (by decide)) (
  jm_gc (pu_istore _ _) (sn_istore (jm_dc dc_280_1 1 rfl)) (
  jm_gc (pu_ic _ _) (sn_iconst (jm_dc dc_280_1 2 rfl) (by decide)) (
  jm_gc (pu_istore _ _) (sn_istore (jm_dc dc_280_1 3 rfl)) (
  jm_gc (pu_ic _ _) (sn_iconst (jm_dc dc_280_1 4 rfl) (by decide)) (
  jm_gc (pu_istore _ _) (sn_istore (jm_dc dc_280_1 5 rfl)) (
  jm_gc (pu_ic _ _) (sn_iconst (jm_dc dc_280_1 6 rfl) (by decide)) (
  jm_gc (pu_iload _ _) (sn_iload_n (i := 1) (jm_dc dc_280_1 7 rfl)) (
  jm_gc (pu_ibin _) (sn_imul (jm_dc dc_280_1 8 rfl)) (
  jm_gc (pu_istore _ _) (sn_istore (jm_dc dc_280_1 9 rfl)) (
  jm_gc (pu_ic _ _) (sn_iconst (jm_dc dc_280_1 10 rfl) (by decide)) (
  jm_gc (pu_istore _ _) (sn_istore (jm_dc dc_280_1 11 rfl)) (
  jm_gc (pu_iload _ _) (sn_iload (jm_dc dc_280_1 12 rfl)) (
  jm_gc (pu_ic _ _) (sn_iconst (jm_dc dc_280_1 13 rfl) (by decide)) (
  jm_gc (pu_cge _) (sn_cge (jm_dc dc_280_1 14 rfl) (by decide)) (
  jm_gc (pu_ic _ _) (sn_iconst (jm_dc dc_280_1 15 rfl) (by decide)) (
  jm_gc (pu_istore _ _) (sn_istore (jm_dc dc_280_1 16 rfl)) (
  jm_gc (pu_iload _ _) (sn_iload (jm_dc dc_280_1 17 rfl)) (
  jm_gc (pu_aload _ _) (sn_aload_n (i := 0) (jm_dc dc_280_1 18 rfl)) (
  jm_gc (pu_getI _ _) (sn_getI (jm_dc dc_280_1 19 rfl) fl_11_536 (Or.inl rfl)) (
  jm_gc (pu_cge _) (sn_cge (jm_dc dc_280_1 20 rfl) (by decide)) (
  jm_gc (pu_ic _ _) (sn_iconst (jm_dc dc_280_1 21 rfl) (by decide)) (
  jm_gc (pu_istore _ _) (sn_istore (jm_dc dc_280_1 22 rfl)) (
  jm_gc (pu_iload _ _) (sn_iload (jm_dc dc_280_1 23 rfl)) (
  jm_gc (pu_aload _ _) (sn_aload_n (i := 0) (jm_dc dc_280_1 24 rfl)) (
  jm_gn)))))))))))))))))))))))))
theorem dc_280_2 : ([(87, .getfield 533, 3), (90, .if_icmp .ge 179, 3), (93, .aload_n 0, 1), (94, .getfield 539, 3), (97, .iload 11, 2), (99, .iadd, 1), (100, .iload 9, 2), (102, .aload_n 0, 1), (103, .getfield 28, 3), (106, .iload 8, 2), (108, .iaload, 1), (109, .aload_n 0, 1), (110, .getfield 31, 3), (113, .iload 8, 2), (115, .iaload, 1), (116, .invokestatic 344, 3), (119, .isub, 1), (120, .istore 12, 2), (122, .aload_n 0, 1), (123, .getfield 542, 3), (126, .iload 10, 2), (128, .iadd, 1), (129, .iload 9, 2), (131, .aload_n 0, 1), (132, .getfield 28, 3)] : List (Nat × Instr × Nat)).all (fun e => decide (decode prog_14_method_112_code e.1 = .ok e.2)) = true := by decide +kernel
abbrev cl_280_2 : List (Nat × jm_O) := [(87, op_getI 11 59), (90, op_cge 269), (93, op_aload 0 1), (94, op_getI 11 61), (97, op_iload 11 2), (99, op_ibin (fun x y => x + y)), (100, op_iload 9 2), (102, op_aload 0 1), (103, op_getA 11 9), (106, op_iload 8 2), (108, op_iald 13), (109, op_aload 0 1), (110, op_getA 11 10), (113, op_iload 8 2), (115, op_iald 13), (116, op_callS 205 3), (119, op_ibin (fun x y => x - y)), (120, op_istore 12 2), (122, op_aload 0 1), (123, op_getI 11 62), (126, op_iload 10 2), (128, op_ibin (fun x y => x + y)), (129, op_iload 9 2), (131, op_aload 0 1), (132, op_getA 11 9)]
set_option maxRecDepth 100000 in
theorem gl_280_2 : jm_gl "FrescoWallModel" prog_14_method_112_code 15 (Option.some Jvm.ClassFile.FieldType.int) false cl_280_2 :=
  jm_gc (pu_getI _ _) (sn_getI (jm_dc dc_280_2 0 rfl) fl_11_533 (Or.inl rfl)) (
  jm_gc (pu_cge _) (sn_cge (jm_dc dc_280_2 1 rfl) (by decide)) (
  jm_gc (pu_aload _ _) (sn_aload_n (i := 0) (jm_dc dc_280_2 2 rfl)) (
  jm_gc (pu_getI _ _) (sn_getI (jm_dc dc_280_2 3 rfl) fl_11_539 (Or.inl rfl)) (
  jm_gc (pu_iload _ _) (sn_iload (jm_dc dc_280_2 4 rfl)) (
  jm_gc (pu_ibin _) (sn_iadd (jm_dc dc_280_2 5 rfl)) (
  jm_gc (pu_iload _ _) (sn_iload (jm_dc dc_280_2 6 rfl)) (
  jm_gc (pu_aload _ _) (sn_aload_n (i := 0) (jm_dc dc_280_2 7 rfl)) (
  jm_gc (pu_getA _ _) (sn_getA (jm_dc dc_280_2 8 rfl) fl_11_28 rfl) (
  jm_gc (pu_iload _ _) (sn_iload (jm_dc dc_280_2 9 rfl)) (
  jm_gc (pu_iald _) (sn_iald (jm_dc dc_280_2 10 rfl)) (
  jm_gc (pu_aload _ _) (sn_aload_n (i := 0) (jm_dc dc_280_2 11 rfl)) (
  jm_gc (pu_getA _ _) (sn_getA (jm_dc dc_280_2 12 rfl) fl_11_31 rfl) (
  jm_gc (pu_iload _ _) (sn_iload (jm_dc dc_280_2 13 rfl)) (
  jm_gc (pu_iald _) (sn_iald (jm_dc dc_280_2 14 rfl)) (
  jm_gc (pu_callS _ _) (sn_callS (jm_dc dc_280_2 15 rfl) lk_11_344) (
  jm_gc (pu_ibin _) (sn_isub (jm_dc dc_280_2 16 rfl)) (
  jm_gc (pu_istore _ _) (sn_istore (jm_dc dc_280_2 17 rfl)) (
  jm_gc (pu_aload _ _) (sn_aload_n (i := 0) (jm_dc dc_280_2 18 rfl)) (
  jm_gc (pu_getI _ _) (sn_getI (jm_dc dc_280_2 19 rfl) fl_11_542 (Or.inl rfl)) (
  jm_gc (pu_iload _ _) (sn_iload (jm_dc dc_280_2 20 rfl)) (
  jm_gc (pu_ibin _) (sn_iadd (jm_dc dc_280_2 21 rfl)) (
  jm_gc (pu_iload _ _) (sn_iload (jm_dc dc_280_2 22 rfl)) (
  jm_gc (pu_aload _ _) (sn_aload_n (i := 0) (jm_dc dc_280_2 23 rfl)) (
  jm_gc (pu_getA _ _) (sn_getA (jm_dc dc_280_2 24 rfl) fl_11_28 rfl) (
  jm_gn)))))))))))))))))))))))))
theorem dc_280_3 : ([(135, .iload 8, 2), (137, .iaload, 1), (138, .aload_n 0, 1), (139, .getfield 31, 3), (142, .iload 8, 2), (144, .iaload, 1), (145, .invokestatic 347, 3), (148, .isub, 1), (149, .istore 13, 2), (151, .aload_n 0, 1), (152, .iload_n 1, 1), (153, .iload 9, 2), (155, .iload 12, 2), (157, .iload 13, 2), (159, .invokevirtual 555, 3), (162, .ifCond .eq 101, 3), (165, .aload_n 0, 1), (166, .iload_n 1, 1), (167, .iload 9, 2), (169, .iload 12, 2), (171, .iload 13, 2), (173, .invokevirtual 551, 3), (176, .istore 14, 2), (178, .iload 14, 2), (180, .iload_n 3, 1)] : List (Nat × Instr × Nat)).all (fun e => decide (decode prog_14_method_112_code e.1 = .ok e.2)) = true := by decide +kernel
abbrev cl_280_3 : List (Nat × jm_O) := [(135, op_iload 8 2), (137, op_iald 13), (138, op_aload 0 1), (139, op_getA 11 10), (142, op_iload 8 2), (144, op_iald 13), (145, op_callS 206 3), (148, op_ibin (fun x y => x - y)), (149, op_istore 13 2), (151, op_aload 0 1), (152, op_iload 1 1), (153, op_iload 9 2), (155, op_iload 12 2), (157, op_iload 13 2), (159, op_callV 11 279 5), (162, op_ifeq 263), (165, op_aload 0 1), (166, op_iload 1 1), (167, op_iload 9 2), (169, op_iload 12 2), (171, op_iload 13 2), (173, op_callV 11 277 5), (176, op_istore 14 2), (178, op_iload 14 2), (180, op_iload 3 1)]
set_option maxRecDepth 100000 in
theorem gl_280_3 : jm_gl "FrescoWallModel" prog_14_method_112_code 15 (Option.some Jvm.ClassFile.FieldType.int) false cl_280_3 :=
  jm_gc (pu_iload _ _) (sn_iload (jm_dc dc_280_3 0 rfl)) (
  jm_gc (pu_iald _) (sn_iald (jm_dc dc_280_3 1 rfl)) (
  jm_gc (pu_aload _ _) (sn_aload_n (i := 0) (jm_dc dc_280_3 2 rfl)) (
  jm_gc (pu_getA _ _) (sn_getA (jm_dc dc_280_3 3 rfl) fl_11_31 rfl) (
  jm_gc (pu_iload _ _) (sn_iload (jm_dc dc_280_3 4 rfl)) (
  jm_gc (pu_iald _) (sn_iald (jm_dc dc_280_3 5 rfl)) (
  jm_gc (pu_callS _ _) (sn_callS (jm_dc dc_280_3 6 rfl) lk_11_347) (
  jm_gc (pu_ibin _) (sn_isub (jm_dc dc_280_3 7 rfl)) (
  jm_gc (pu_istore _ _) (sn_istore (jm_dc dc_280_3 8 rfl)) (
  jm_gc (pu_aload _ _) (sn_aload_n (i := 0) (jm_dc dc_280_3 9 rfl)) (
  jm_gc (pu_iload _ _) (sn_iload_n (i := 1) (jm_dc dc_280_3 10 rfl)) (
  jm_gc (pu_iload _ _) (sn_iload (jm_dc dc_280_3 11 rfl)) (
  jm_gc (pu_iload _ _) (sn_iload (jm_dc dc_280_3 12 rfl)) (
  jm_gc (pu_iload _ _) (sn_iload (jm_dc dc_280_3 13 rfl)) (
  jm_gc (pu_callV _ _ _) (sn_callV (jm_dc dc_280_3 14 rfl) lk_11_555) (
  jm_gc (pu_ifeq _) (sn_ifeq (jm_dc dc_280_3 15 rfl) (by decide)) (
  jm_gc (pu_aload _ _) (sn_aload_n (i := 0) (jm_dc dc_280_3 16 rfl)) (
  jm_gc (pu_iload _ _) (sn_iload_n (i := 1) (jm_dc dc_280_3 17 rfl)) (
  jm_gc (pu_iload _ _) (sn_iload (jm_dc dc_280_3 18 rfl)) (
  jm_gc (pu_iload _ _) (sn_iload (jm_dc dc_280_3 19 rfl)) (
  jm_gc (pu_iload _ _) (sn_iload (jm_dc dc_280_3 20 rfl)) (
  jm_gc (pu_callV _ _ _) (sn_callV (jm_dc dc_280_3 21 rfl) lk_11_551) (
  jm_gc (pu_istore _ _) (sn_istore (jm_dc dc_280_3 22 rfl)) (
  jm_gc (pu_iload _ _) (sn_iload (jm_dc dc_280_3 23 rfl)) (
  jm_gc (pu_iload _ _) (sn_iload_n (i := 3) (jm_dc dc_280_3 24 rfl)) (
  jm_gn)))))))))))))))))))))))))
theorem dc_280_4 : ([(181, .if_icmp .le 7, 3), (184, .iconst 0, 1), (185, .goto 18, 3), (188, .iload 14, 2), (190, .iload_n 3, 1), (191, .if_icmp .ne 10, 3), (194, .iload 7, 2), (196, .iconst 1, 1), (197, .iadd, 1), (198, .goto 5, 3), (201, .iload 7, 2), (203, .istore 7, 2), (205, .iload 14, 2), (207, .iload_n 3, 1), (208, .if_icmp .le 8, 3), (211, .iload 9, 2), (213, .goto 5, 3), (216, .iload 4, 2), (218, .istore 4, 2), (220, .iload 14, 2), (222, .iload_n 3, 1), (223, .if_icmp .le 8, 3), (226, .iload 12, 2), (228, .goto 5, 3), (231, .iload 5, 2)] : List (Nat × Instr × Nat)).all (fun e => decide (decode prog_14_method_112_code e.1 = .ok e.2)) = true := by decide +kernel
abbrev cl_280_4 : List (Nat × jm_O) := [(181, op_cle 188), (184, op_ic 0 1), (185, op_goto 203), (188, op_iload 14 2), (190, op_iload 3 1), (191, op_cne 201), (194, op_iload 7 2), (196, op_ic 1 1), (197, op_ibin (fun x y => x + y)), (198, op_goto 203), (201, op_iload 7 2), (203, op_istore 7 2), (205, op_iload 14 2), (207, op_iload 3 1), (208, op_cle 216), (211, op_iload 9 2), (213, op_goto 218), (216, op_iload 4 2), (218, op_istore 4 2), (220, op_iload 14 2), (222, op_iload 3 1), (223, op_cle 231), (226, op_iload 12 2), (228, op_goto 233), (231, op_iload 5 2)]
set_option maxRecDepth 100000 in
theorem gl_280_4 : jm_gl "FrescoWallModel" prog_14_method_112_code 15 (Option.some Jvm.ClassFile.FieldType.int) false cl_280_4 :=
  jm_gc (pu_cle _) (sn_cle (jm_dc dc_280_4 0 rfl) (by decide)) (
  jm_gc (pu_ic _ _) (sn_iconst (jm_dc dc_280_4 1 rfl) (by decide)) (
  jm_gc (pu_goto _) (sn_goto (jm_dc dc_280_4 2 rfl) (by decide)) (
  jm_gc (pu_iload _ _) (sn_iload (jm_dc dc_280_4 3 rfl)) (
  jm_gc (pu_iload _ _) (sn_iload_n (i := 3) (jm_dc dc_280_4 4 rfl)) (
  jm_gc (pu_cne _) (sn_cne (jm_dc dc_280_4 5 rfl) (by decide)) (
  jm_gc (pu_iload _ _) (sn_iload (jm_dc dc_280_4 6 rfl)) (
  jm_gc (pu_ic _ _) (sn_iconst (jm_dc dc_280_4 7 rfl) (by decide)) (
  jm_gc (pu_ibin _) (sn_iadd (jm_dc dc_280_4 8 rfl)) (
  jm_gc (pu_goto _) (sn_goto (jm_dc dc_280_4 9 rfl) (by decide)) (
  jm_gc (pu_iload _ _) (sn_iload (jm_dc dc_280_4 10 rfl)) (
  jm_gc (pu_istore _ _) (sn_istore (jm_dc dc_280_4 11 rfl)) (
  jm_gc (pu_iload _ _) (sn_iload (jm_dc dc_280_4 12 rfl)) (
  jm_gc (pu_iload _ _) (sn_iload_n (i := 3) (jm_dc dc_280_4 13 rfl)) (
  jm_gc (pu_cle _) (sn_cle (jm_dc dc_280_4 14 rfl) (by decide)) (
  jm_gc (pu_iload _ _) (sn_iload (jm_dc dc_280_4 15 rfl)) (
  jm_gc (pu_goto _) (sn_goto (jm_dc dc_280_4 16 rfl) (by decide)) (
  jm_gc (pu_iload _ _) (sn_iload (jm_dc dc_280_4 17 rfl)) (
  jm_gc (pu_istore _ _) (sn_istore (jm_dc dc_280_4 18 rfl)) (
  jm_gc (pu_iload _ _) (sn_iload (jm_dc dc_280_4 19 rfl)) (
  jm_gc (pu_iload _ _) (sn_iload_n (i := 3) (jm_dc dc_280_4 20 rfl)) (
  jm_gc (pu_cle _) (sn_cle (jm_dc dc_280_4 21 rfl) (by decide)) (
  jm_gc (pu_iload _ _) (sn_iload (jm_dc dc_280_4 22 rfl)) (
  jm_gc (pu_goto _) (sn_goto (jm_dc dc_280_4 23 rfl) (by decide)) (
  jm_gc (pu_iload _ _) (sn_iload (jm_dc dc_280_4 24 rfl)) (
  jm_gn)))))))))))))))))))))))))
theorem dc_280_5 : ([(233, .istore 5, 2), (235, .iload 14, 2), (237, .iload_n 3, 1), (238, .if_icmp .le 8, 3), (241, .iload 13, 2), (243, .goto 5, 3), (246, .iload 6, 2), (248, .istore 6, 2), (250, .iload 14, 2), (252, .iload_n 3, 1), (253, .if_icmp .le 8, 3), (256, .iload 14, 2), (258, .goto 4, 3), (261, .iload_n 3, 1), (262, .istore_n 3, 1), (263, .iinc 11 1, 3), (266, .goto (-182), 3), (269, .iinc 10 1, 3), (272, .goto (-200), 3), (275, .iinc 9 1, 3), (278, .goto (-215), 3), (281, .iload_n 3, 1), (282, .iconst (-1), 1), (283, .if_icmp .ne 7, 3), (286, .ldc_w 554, 3)] : List (Nat × Instr × Nat)).all (fun e => decide (decode prog_14_method_112_code e.1 = .ok e.2)) = true := by decide +kernel
abbrev cl_280_5 : List (Nat × jm_O) := [(233, op_istore 5 2), (235, op_iload 14 2), (237, op_iload 3 1), (238, op_cle 246), (241, op_iload 13 2), (243, op_goto 248), (246, op_iload 6 2), (248, op_istore 6 2), (250, op_iload 14 2), (252, op_iload 3 1), (253, op_cle 261), (256, op_iload 14 2), (258, op_goto 262), (261, op_iload 3 1), (262, op_istore 3 1), (263, op_iinc 11 1), (266, op_goto 84), (269, op_iinc 10 1), (272, op_goto 72), (275, op_iinc 9 1), (278, op_goto 63), (281, op_iload 3 1), (282, op_ic (-1) 1), (283, op_cne 290), (286, op_ic (-100001) 3)]
set_option maxRecDepth 100000 in
theorem gl_280_5 : jm_gl "FrescoWallModel" prog_14_method_112_code 15 (Option.some Jvm.ClassFile.FieldType.int) false cl_280_5 :=
  jm_gc (pu_istore _ _) (sn_istore (jm_dc dc_280_5 0 rfl)) (
  jm_gc (pu_iload _ _) (sn_iload (jm_dc dc_280_5 1 rfl)) (
  jm_gc (pu_iload _ _) (sn_iload_n (i := 3) (jm_dc dc_280_5 2 rfl)) (
  jm_gc (pu_cle _) (sn_cle (jm_dc dc_280_5 3 rfl) (by decide)) (
  jm_gc (pu_iload _ _) (sn_iload (jm_dc dc_280_5 4 rfl)) (
  jm_gc (pu_goto _) (sn_goto (jm_dc dc_280_5 5 rfl) (by decide)) (
  jm_gc (pu_iload _ _) (sn_iload (jm_dc dc_280_5 6 rfl)) (
  jm_gc (pu_istore _ _) (sn_istore (jm_dc dc_280_5 7 rfl)) (
  jm_gc (pu_iload _ _) (sn_iload (jm_dc dc_280_5 8 rfl)) (
  jm_gc (pu_iload _ _) (sn_iload_n (i := 3) (jm_dc dc_280_5 9 rfl)) (
  jm_gc (pu_cle _) (sn_cle (jm_dc dc_280_5 10 rfl) (by decide)) (
  jm_gc (pu_iload _ _) (sn_iload (jm_dc dc_280_5 11 rfl)) (
  jm_gc (pu_goto _) (sn_goto (jm_dc dc_280_5 12 rfl) (by decide)) (
  jm_gc (pu_iload _ _) (sn_iload_n (i := 3) (jm_dc dc_280_5 13 rfl)) (
  jm_gc (pu_istore _ _) (sn_istore_n (i := 3) (jm_dc dc_280_5 14 rfl)) (
  jm_gc (pu_iinc _ _) (sn_iinc (jm_dc dc_280_5 15 rfl) (by decide)) (
  jm_gc (pu_goto _) (sn_goto (jm_dc dc_280_5 16 rfl) (by decide)) (
  jm_gc (pu_iinc _ _) (sn_iinc (jm_dc dc_280_5 17 rfl) (by decide)) (
  jm_gc (pu_goto _) (sn_goto (jm_dc dc_280_5 18 rfl) (by decide)) (
  jm_gc (pu_iinc _ _) (sn_iinc (jm_dc dc_280_5 19 rfl) (by decide)) (
  jm_gc (pu_goto _) (sn_goto (jm_dc dc_280_5 20 rfl) (by decide)) (
  jm_gc (pu_iload _ _) (sn_iload_n (i := 3) (jm_dc dc_280_5 21 rfl)) (
  jm_gc (pu_ic _ _) (sn_iconst (jm_dc dc_280_5 22 rfl) (by decide)) (
  jm_gc (pu_cne _) (sn_cne (jm_dc dc_280_5 23 rfl) (by decide)) (
  jm_gc (pu_ic _ _) (sn_ldcw (jm_dc dc_280_5 24 rfl) (kc_tb 1980 (by decide +kernel))) (
  jm_gn)))))))))))))))))))))))))
theorem dc_280_6 : ([(289, .ireturn, 1), (290, .iload_n 2, 1), (291, .ifCond .ne 7, 3), (294, .iload_n 3, 1), (295, .goto 35, 3), (298, .iload_n 2, 1), (299, .iconst 1, 1), (300, .if_icmp .ne 8, 3), (303, .iload 4, 2), (305, .goto 25, 3), (308, .iload_n 2, 1), (309, .iconst 2, 1), (310, .if_icmp .ne 8, 3), (313, .iload 5, 2), (315, .goto 15, 3), (318, .iload_n 2, 1), (319, .iconst 3, 1), (320, .if_icmp .ne 8, 3), (323, .iload 6, 2), (325, .goto 5, 3), (328, .iload 7, 2), (330, .ireturn, 1)] : List (Nat × Instr × Nat)).all (fun e => decide (decode prog_14_method_112_code e.1 = .ok e.2)) = true := by decide +kernel
abbrev cl_280_6 : List (Nat × jm_O) := [(289, op_iret), (290, op_iload 2 1), (291, op_ifne 298), (294, op_iload 3 1), (295, op_goto 330), (298, op_iload 2 1), (299, op_ic 1 1), (300, op_cne 308), (303, op_iload 4 2), (305, op_goto 330), (308, op_iload 2 1), (309, op_ic 2 1), (310, op_cne 318), (313, op_iload 5 2), (315, op_goto 330), (318, op_iload 2 1), (319, op_ic 3 1), (320, op_cne 328), (323, op_iload 6 2), (325, op_goto 330), (328, op_iload 7 2), (330, op_iret)]
set_option maxRecDepth 100000 in
theorem gl_280_6 : jm_gl "FrescoWallModel" prog_14_method_112_code 15 (Option.some Jvm.ClassFile.FieldType.int) false cl_280_6 :=
  jm_gc (pu_iret) (sn_iret (jm_dc dc_280_6 0 rfl) rfl) (
  jm_gc (pu_iload _ _) (sn_iload_n (i := 2) (jm_dc dc_280_6 1 rfl)) (
  jm_gc (pu_ifne _) (sn_ifne (jm_dc dc_280_6 2 rfl) (by decide)) (
  jm_gc (pu_iload _ _) (sn_iload_n (i := 3) (jm_dc dc_280_6 3 rfl)) (
  jm_gc (pu_goto _) (sn_goto (jm_dc dc_280_6 4 rfl) (by decide)) (
  jm_gc (pu_iload _ _) (sn_iload_n (i := 2) (jm_dc dc_280_6 5 rfl)) (
  jm_gc (pu_ic _ _) (sn_iconst (jm_dc dc_280_6 6 rfl) (by decide)) (
  jm_gc (pu_cne _) (sn_cne (jm_dc dc_280_6 7 rfl) (by decide)) (
  jm_gc (pu_iload _ _) (sn_iload (jm_dc dc_280_6 8 rfl)) (
  jm_gc (pu_goto _) (sn_goto (jm_dc dc_280_6 9 rfl) (by decide)) (
  jm_gc (pu_iload _ _) (sn_iload_n (i := 2) (jm_dc dc_280_6 10 rfl)) (
  jm_gc (pu_ic _ _) (sn_iconst (jm_dc dc_280_6 11 rfl) (by decide)) (
  jm_gc (pu_cne _) (sn_cne (jm_dc dc_280_6 12 rfl) (by decide)) (
  jm_gc (pu_iload _ _) (sn_iload (jm_dc dc_280_6 13 rfl)) (
  jm_gc (pu_goto _) (sn_goto (jm_dc dc_280_6 14 rfl) (by decide)) (
  jm_gc (pu_iload _ _) (sn_iload_n (i := 2) (jm_dc dc_280_6 15 rfl)) (
  jm_gc (pu_ic _ _) (sn_iconst (jm_dc dc_280_6 16 rfl) (by decide)) (
  jm_gc (pu_cne _) (sn_cne (jm_dc dc_280_6 17 rfl) (by decide)) (
  jm_gc (pu_iload _ _) (sn_iload (jm_dc dc_280_6 18 rfl)) (
  jm_gc (pu_goto _) (sn_goto (jm_dc dc_280_6 19 rfl) (by decide)) (
  jm_gc (pu_iload _ _) (sn_iload (jm_dc dc_280_6 20 rfl)) (
  jm_gc (pu_iret) (sn_iret (jm_dc dc_280_6 21 rfl) rfl) (
  jm_gn))))))))))))))))))))))
theorem dc_281_0 : ([(0, .aload_n 0, 1), (1, .iconst 0, 1), (2, .iconst 0, 1), (3, .iconst 0, 1), (4, .invokevirtual 393, 3), (7, .aload_n 0, 1), (8, .aload_n 0, 1), (9, .getfield 151, 3), (12, .iload_n 1, 1), (13, .iaload, 1), (14, .aload_n 0, 1), (15, .getfield 154, 3), (18, .iload_n 1, 1), (19, .iaload, 1), (20, .aload_n 0, 1), (21, .getfield 157, 3), (24, .iload_n 1, 1), (25, .iaload, 1), (26, .invokevirtual 400, 3), (29, .aload_n 0, 1), (30, .aload_n 0, 1), (31, .getfield 151, 3), (34, .iload_n 2, 1), (35, .iaload, 1), (36, .aload_n 0, 1)] : List (Nat × Instr × Nat)).all (fun e => decide (decode prog_14_method_113_code e.1 = .ok e.2)) = true := by decide +kernel
abbrev cl_281_0 : List (Nat × jm_O) := [(0, op_aload 0 1), (1, op_ic 0 1), (2, op_ic 0 1), (3, op_ic 0 1), (4, op_callV 11 225 4), (7, op_aload 0 1), (8, op_aload 0 1), (9, op_getA 11 69), (12, op_iload 1 1), (13, op_iald 13), (14, op_aload 0 1), (15, op_getA 11 70), (18, op_iload 1 1), (19, op_iald 13), (20, op_aload 0 1), (21, op_getA 11 71), (24, op_iload 1 1), (25, op_iald 13), (26, op_callV 11 227 4), (29, op_aload 0 1), (30, op_aload 0 1), (31, op_getA 11 69), (34, op_iload 2 1), (35, op_iald 13), (36, op_aload 0 1)]
set_option maxRecDepth 100000 in
theorem gl_281_0 : jm_gl "FrescoWallModel" prog_14_method_113_code 3 (Option.none : Option Jvm.ClassFile.FieldType) false cl_281_0 :=
  jm_gc (pu_aload _ _) (sn_aload_n (i := 0) (jm_dc dc_281_0 0 rfl)) (
  jm_gc (pu_ic _ _) (sn_iconst (jm_dc dc_281_0 1 rfl) (by decide)) (
  jm_gc (pu_ic _ _) (sn_iconst (jm_dc dc_281_0 2 rfl) (by decide)) (
  jm_gc (pu_ic _ _) (sn_iconst (jm_dc dc_281_0 3 rfl) (by decide)) (
  jm_gc (pu_callV _ _ _) (sn_callV (jm_dc dc_281_0 4 rfl) lk_11_393) (
  jm_gc (pu_aload _ _) (sn_aload_n (i := 0) (jm_dc dc_281_0 5 rfl)) (
  jm_gc (pu_aload _ _) (sn_aload_n (i := 0) (jm_dc dc_281_0 6 rfl)) (
  jm_gc (pu_getA _ _) (sn_getA (jm_dc dc_281_0 7 rfl) fl_11_151 rfl) (
  jm_gc (pu_iload _ _) (sn_iload_n (i := 1) (jm_dc dc_281_0 8 rfl)) (
  jm_gc (pu_iald _) (sn_iald (jm_dc dc_281_0 9 rfl)) (
  jm_gc (pu_aload _ _) (sn_aload_n (i := 0) (jm_dc dc_281_0 10 rfl)) (
  jm_gc (pu_getA _ _) (sn_getA (jm_dc dc_281_0 11 rfl) fl_11_154 rfl) (
  jm_gc (pu_iload _ _) (sn_iload_n (i := 1) (jm_dc dc_281_0 12 rfl)) (
  jm_gc (pu_iald _) (sn_iald (jm_dc dc_281_0 13 rfl)) (
  jm_gc (pu_aload _ _) (sn_aload_n (i := 0) (jm_dc dc_281_0 14 rfl)) (
  jm_gc (pu_getA _ _) (sn_getA (jm_dc dc_281_0 15 rfl) fl_11_157 rfl) (
  jm_gc (pu_iload _ _) (sn_iload_n (i := 1) (jm_dc dc_281_0 16 rfl)) (
  jm_gc (pu_iald _) (sn_iald (jm_dc dc_281_0 17 rfl)) (
  jm_gc (pu_callV _ _ _) (sn_callV (jm_dc dc_281_0 18 rfl) lk_11_400) (
  jm_gc (pu_aload _ _) (sn_aload_n (i := 0) (jm_dc dc_281_0 19 rfl)) (
  jm_gc (pu_aload _ _) (sn_aload_n (i := 0) (jm_dc dc_281_0 20 rfl)) (
  jm_gc (pu_getA _ _) (sn_getA (jm_dc dc_281_0 21 rfl) fl_11_151 rfl) (
  jm_gc (pu_iload _ _) (sn_iload_n (i := 2) (jm_dc dc_281_0 22 rfl)) (
  jm_gc (pu_iald _) (sn_iald (jm_dc dc_281_0 23 rfl)) (
  jm_gc (pu_aload _ _) (sn_aload_n (i := 0) (jm_dc dc_281_0 24 rfl)) (
  jm_gn)))))))))))))))))))))))))
theorem dc_281_1 : ([(37, .getfield 154, 3), (40, .iload_n 2, 1), (41, .iaload, 1), (42, .aload_n 0, 1), (43, .getfield 157, 3), (46, .iload_n 2, 1), (47, .iaload, 1), (48, .invokevirtual 397, 3), (51, .return_, 1)] : List (Nat × Instr × Nat)).all (fun e => decide (decode prog_14_method_113_code e.1 = .ok e.2)) = true := by decide +kernel
abbrev cl_281_1 : List (Nat × jm_O) := [(37, op_getA 11 70), (40, op_iload 2 1), (41, op_iald 13), (42, op_aload 0 1), (43, op_getA 11 71), (46, op_iload 2 1), (47, op_iald 13), (48, op_callV 11 226 4), (51, op_vret)]
set_option maxRecDepth 100000 in
theorem gl_281_1 : jm_gl "FrescoWallModel" prog_14_method_113_code 3 (Option.none : Option Jvm.ClassFile.FieldType) false cl_281_1 :=
  jm_gc (pu_getA _ _) (sn_getA (jm_dc dc_281_1 0 rfl) fl_11_154 rfl) (
  jm_gc (pu_iload _ _) (sn_iload_n (i := 2) (jm_dc dc_281_1 1 rfl)) (
  jm_gc (pu_iald _) (sn_iald (jm_dc dc_281_1 2 rfl)) (
  jm_gc (pu_aload _ _) (sn_aload_n (i := 0) (jm_dc dc_281_1 3 rfl)) (
  jm_gc (pu_getA _ _) (sn_getA (jm_dc dc_281_1 4 rfl) fl_11_157 rfl) (
  jm_gc (pu_iload _ _) (sn_iload_n (i := 2) (jm_dc dc_281_1 5 rfl)) (
  jm_gc (pu_iald _) (sn_iald (jm_dc dc_281_1 6 rfl)) (
  jm_gc (pu_callV _ _ _) (sn_callV (jm_dc dc_281_1 7 rfl) lk_11_397) (
  jm_gc (pu_vret) (sn_vret (jm_dc dc_281_1 8 rfl) rfl) (
  jm_gn)))))))))
theorem dc_282_0 : ([(0, .aload_n 0, 1), (1, .getfield 148, 3), (4, .iload_n 1, 1), (5, .iaload, 1), (6, .istore_n 3, 1), (7, .aload_n 0, 1), (8, .getfield 148, 3), (11, .iload_n 2, 1), (12, .iaload, 1), (13, .istore 4, 2), (15, .aload_n 0, 1), (16, .iload_n 1, 1), (17, .iload_n 2, 1), (18, .invokevirtual 558, 3), (21, .aload_n 0, 1), (22, .getfield 384, 3), (25, .istore 5, 2), (27, .aload_n 0, 1), (28, .getfield 387, 3), (31, .istore 6, 2), (33, .aload_n 0, 1), (34, .getfield 390, 3), (37, .istore 7, 2), (39, .aload_n 0, 1), (40, .iload_n 3, 1)] : List (Nat × Instr × Nat)).all (fun e => decide (decode prog_14_method_114_code e.1 = .ok e.2)) = true := by decide +kernel
abbrev cl_282_0 : List (Nat × jm_O) := [(0, op_aload 0 1), (1, op_getA 11 68), (4, op_iload 1 1), (5, op_iald 13), (6, op_istore 3 1), (7, op_aload 0 1), (8, op_getA 11 68), (11, op_iload 2 1), (12, op_iald 13), (13, op_istore 4 2), (15, op_aload 0 1), (16, op_iload 1 1), (17, op_iload 2 1), (18, op_callV 11 281 3), (21, op_aload 0 1), (22, op_getI 11 49), (25, op_istore 5 2), (27, op_aload 0 1), (28, op_getI 11 50), (31, op_istore 6 2), (33, op_aload 0 1), (34, op_getI 11 51), (37, op_istore 7 2), (39, op_aload 0 1), (40, op_iload 3 1)]
set_option maxRecDepth 100000 in
theorem gl_282_0 : jm_gl "FrescoWallModel" prog_14_method_114_code 12 (Option.some Jvm.ClassFile.FieldType.int) false cl_282_0 :=
  jm_gc (pu_aload _ _) (sn_aload_n (i := 0) (jm_dc dc_282_0 0 rfl)) (
  jm_gc (pu_getA _ _) (sn_getA (jm_dc dc_282_0 1 rfl) fl_11_148 rfl) (
  jm_gc (pu_iload _ _) (sn_iload_n (i := 1) (jm_dc dc_282_0 2 rfl)) (
  jm_gc (pu_iald _) (sn_iald (jm_dc dc_282_0 3 rfl)) (
  jm_gc (pu_istore _ _) (sn_istore_n (i := 3) (jm_dc dc_282_0 4 rfl)) (
  jm_gc (pu_aload _ _) (sn_aload_n (i := 0) (jm_dc dc_282_0 5 rfl)) (
  jm_gc (pu_getA _ _) (sn_getA (jm_dc dc_282_0 6 rfl) fl_11_148 rfl) (
  jm_gc (pu_iload _ _) (sn_iload_n (i := 2) (jm_dc dc_282_0 7 rfl)) (
  jm_gc (pu_iald _) (sn_iald (jm_dc dc_282_0 8 rfl)) (
  jm_gc (pu_istore _ _) (sn_istore (jm_dc dc_282_0 9 rfl)) (
  jm_gc (pu_aload _ _) (sn_aload_n (i := 0) (jm_dc dc_282_0 10 rfl)) (
  jm_gc (pu_iload _ _) (sn_iload_n (i := 1) (jm_dc dc_282_0 11 rfl)) (
  jm_gc (pu_iload _ _) (sn_iload_n (i := 2) (jm_dc dc_282_0 12 rfl)) (
  jm_gc (pu_callV _ _ _) (sn_callV (jm_dc dc_282_0 13 rfl) lk_11_558) (
  jm_gc (pu_aload _ _) (sn_aload_n (i := 0) (jm_dc dc_282_0 14 rfl)) (
  jm_gc (pu_getI _ _) (sn_getI (jm_dc dc_282_0 15 rfl) fl_11_384 (Or.inl rfl)) (
  jm_gc (pu_istore _ _) (sn_istore (jm_dc dc_282_0 16 rfl)) (
  jm_gc (pu_aload _ _) (sn_aload_n (i := 0) (jm_dc dc_282_0 17 rfl)) (
  jm_gc (pu_getI _ _) (sn_getI (jm_dc dc_282_0 18 rfl) fl_11_387 (Or.inl rfl)) (
  jm_gc (pu_istore _ _) (sn_istore (jm_dc dc_282_0 19 rfl)) (
  jm_gc (pu_aload _ _) (sn_aload_n (i := 0) (jm_dc dc_282_0 20 rfl)) (
  jm_gc (pu_getI _ _) (sn_getI (jm_dc dc_282_0 21 rfl) fl_11_390 (Or.inl rfl)) (
  jm_gc (pu_istore _ _) (sn_istore (jm_dc dc_282_0 22 rfl)) (
  jm_gc (pu_aload _ _) (sn_aload_n (i := 0) (jm_dc dc_282_0 23 rfl)) (
  jm_gc (pu_iload _ _) (sn_iload_n (i := 3) (jm_dc dc_282_0 24 rfl)) (
  jm_gn)))))))))))))))))))))))))
theorem dc_282_1 : ([(41, .iload 4, 2), (43, .iload 5, 2), (45, .iload 6, 2), (47, .iload 7, 2), (49, .invokevirtual 350, 3), (52, .aload_n 0, 1), (53, .getfield 354, 3), (56, .if_icmp .le 5, 3), (59, .iconst (-1), 1), (60, .ireturn, 1), (61, .iconst 0, 1), (62, .istore 8, 2), (64, .iconst 0, 1), (65, .istore 9, 2), (67, .iload 9, 2), (69, .aload_n 0, 1), (70, .getfield 13, 3), (73, .iload_n 3, 1), (74, .iaload, 1), (75, .if_icmp .ge 129, 3), (78, .iconst 0, 1), (79, .istore 10, 2), (81, .iload 10, 2), (83, .aload_n 0, 1), (84, .getfield 13, 3)] : List (Nat × Instr × Nat)).all (fun e => decide (decode prog_14_method_114_code e.1 = .ok e.2)) = true := by decide +kernel
abbrev cl_282_1 : List (Nat × jm_O) := [(41, op_iload 4 2), (43, op_iload 5 2), (45, op_iload 6 2), (47, op_iload 7 2), (49, op_callV 11 207 6), (52, op_aload 0 1), (53, op_getI 11 20), (56, op_cle 61), (59, op_ic (-1) 1), (60, op_iret), (61, op_ic 0 1), (62, op_istore 8 2), (64, op_ic 0 1), (65, op_istore 9 2), (67, op_iload 9 2), (69, op_aload 0 1), (70, op_getA 11 4), (73, op_iload 3 1), (74, op_iald 13), (75, op_cge 204), (78, op_ic 0 1), (79, op_istore 10 2), (81, op_iload 10 2), (83, op_aload 0 1), (84, op_getA 11 4)]
set_option maxRecDepth 100000 in
theorem gl_282_1 : jm_gl "FrescoWallModel" prog_14_method_114_code 12 (Option.some Jvm.ClassFile.FieldType.int) false cl_282_1 :=
  jm_gc (pu_iload _ _) (sn_iload (jm_dc dc_282_1 0 rfl)) (
  jm_gc (pu_iload _ _) (sn_iload (jm_dc dc_282_1 1 rfl)) (
  jm_gc (pu_iload _ _) (sn_iload (jm_dc dc_282_1 2 rfl)) (
  jm_gc (pu_iload _ _) (sn_iload (jm_dc dc_282_1 3 rfl)) (
  jm_gc (pu_callV _ _ _) (sn_callV (jm_dc dc_282_1 4 rfl) lk_11_350) (
  jm_gc (pu_aload _ _) (sn_aload_n (i := 0) (jm_dc dc_282_1 5 rfl)) (
  jm_gc (pu_getI _ _) (sn_getI (jm_dc dc_282_1 6 rfl) fl_11_354 (Or.inl rfl)) (
  jm_gc (pu_cle _) (sn_cle (jm_dc dc_282_1 7 rfl) (by decide)) (
  jm_gc (pu_ic _ _) (sn_iconst (jm_dc dc_282_1 8 rfl) (by decide)) (
  jm_gc (pu_iret) (sn_iret (jm_dc dc_282_1 9 rfl) rfl) (
  jm_gc (pu_ic _ _) (sn_iconst (jm_dc dc_282_1 10 rfl) (by decide)) (
  jm_gc (pu_istore _ _) (sn_istore (jm_dc dc_282_1 11 rfl)) (
  jm_gc (pu_ic _ _) (sn_iconst (jm_dc dc_282_1 12 rfl) (by decide)) (
  jm_gc (pu_istore _ _) (sn_istore (jm_dc dc_282_1 13 rfl)) (
  jm_gc (pu_iload _ _) (sn_iload (jm_dc dc_282_1 14 rfl)) (
  jm_gc (pu_aload _ _) (sn_aload_n (i := 0) (jm_dc dc_282_1 15 rfl)) (
  jm_gc (pu_getA _ _) (sn_getA (jm_dc dc_282_1 16 rfl) fl_11_13 rfl) (
  jm_gc (pu_iload _ _) (sn_iload_n (i := 3) (jm_dc dc_282_1 17 rfl)) (
  jm_gc (pu_iald _) (sn_iald (jm_dc dc_282_1 18 rfl)) (
  jm_gc (pu_cge _) (sn_cge (jm_dc dc_282_1 19 rfl) (by decide)) (
  jm_gc (pu_ic _ _) (sn_iconst (jm_dc dc_282_1 20 rfl) (by decide)) (
  jm_gc (pu_istore _ _) (sn_istore (jm_dc dc_282_1 21 rfl)) (
  jm_gc (pu_iload _ _) (sn_iload (jm_dc dc_282_1 22 rfl)) (
  jm_gc (pu_aload _ _) (sn_aload_n (i := 0) (jm_dc dc_282_1 23 rfl)) (
  jm_gc (pu_getA _ _) (sn_getA (jm_dc dc_282_1 24 rfl) fl_11_13 rfl) (
  jm_gn)))))))))))))))))))))))))
theorem dc_282_2 : ([(87, .iload 4, 2), (89, .iaload, 1), (90, .if_icmp .ge 108, 3), (93, .aload_n 0, 1), (94, .iload_n 3, 1), (95, .iload 9, 2), (97, .iload 4, 2), (99, .iload 10, 2), (101, .invokevirtual 366, 3), (104, .ifCond .eq 60, 3), (107, .aload_n 0, 1), (108, .getfield 67, 3), (111, .aload_n 0, 1), (112, .iload_n 3, 1), (113, .iload 9, 2), (115, .iload 4, 2), (117, .iload 10, 2), (119, .invokevirtual 363, 3), (122, .iaload, 1), (123, .iload 5, 2), (125, .if_icmp .ne 39, 3), (128, .aload_n 0, 1), (129, .iload_n 3, 1), (130, .iload 9, 2), (132, .iload 4, 2)] : List (Nat × Instr × Nat)).all (fun e => decide (decode prog_14_method_114_code e.1 = .ok e.2)) = true := by decide +kernel
abbrev cl_282_2 : List (Nat × jm_O) := [(87, op_iload 4 2), (89, op_iald 13), (90, op_cge 198), (93, op_aload 0 1), (94, op_iload 3 1), (95, op_iload 9 2), (97, op_iload 4 2), (99, op_iload 10 2), (101, op_callV 11 214 5), (104, op_ifeq 164), (107, op_aload 0 1), (108, op_getA 11 22), (111, op_aload 0 1), (112, op_iload 3 1), (113, op_iload 9 2), (115, op_iload 4 2), (117, op_iload 10 2), (119, op_callV 11 211 5), (122, op_iald 13), (123, op_iload 5 2), (125, op_cne 164), (128, op_aload 0 1), (129, op_iload 3 1), (130, op_iload 9 2), (132, op_iload 4 2)]
set_option maxRecDepth 100000 in
theorem gl_282_2 : jm_gl "FrescoWallModel" prog_14_method_114_code 12 (Option.some Jvm.ClassFile.FieldType.int) false cl_282_2 :=
  jm_gc (pu_iload _ _) (sn_iload (jm_dc dc_282_2 0 rfl)) (
  jm_gc (pu_iald _) (sn_iald (jm_dc dc_282_2 1 rfl)) (
  jm_gc (pu_cge _) (sn_cge (jm_dc dc_282_2 2 rfl) (by decide)) (
  jm_gc (pu_aload _ _) (sn_aload_n (i := 0) (jm_dc dc_282_2 3 rfl)) (
  jm_gc (pu_iload _ _) (sn_iload_n (i := 3) (jm_dc dc_282_2 4 rfl)) (
  jm_gc (pu_iload _ _) (sn_iload (jm_dc dc_282_2 5 rfl)) (
  jm_gc (pu_iload _ _) (sn_iload (jm_dc dc_282_2 6 rfl)) (
  jm_gc (pu_iload _ _) (sn_iload (jm_dc dc_282_2 7 rfl)) (
  jm_gc (pu_callV _ _ _) (sn_callV (jm_dc dc_282_2 8 rfl) lk_11_366) (
  jm_gc (pu_ifeq _) (sn_ifeq (jm_dc dc_282_2 9 rfl) (by decide)) (
  jm_gc (pu_aload _ _) (sn_aload_n (i := 0) (jm_dc dc_282_2 10 rfl)) (
  jm_gc (pu_getA _ _) (sn_getA (jm_dc dc_282_2 11 rfl) fl_11_67 rfl) (
  jm_gc (pu_aload _ _) (sn_aload_n (i := 0) (jm_dc dc_282_2 12 rfl)) (
  jm_gc (pu_iload _ _) (sn_iload_n (i := 3) (jm_dc dc_282_2 13 rfl)) (
  jm_gc (pu_iload _ _) (sn_iload (jm_dc dc_282_2 14 rfl)) (
  jm_gc (pu_iload _ _) (sn_iload (jm_dc dc_282_2 15 rfl)) (
  jm_gc (pu_iload _ _) (sn_iload (jm_dc dc_282_2 16 rfl)) (
  jm_gc (pu_callV _ _ _) (sn_callV (jm_dc dc_282_2 17 rfl) lk_11_363) (
  jm_gc (pu_iald _) (sn_iald (jm_dc dc_282_2 18 rfl)) (
  jm_gc (pu_iload _ _) (sn_iload (jm_dc dc_282_2 19 rfl)) (
  jm_gc (pu_cne _) (sn_cne (jm_dc dc_282_2 20 rfl) (by decide)) (
  jm_gc (pu_aload _ _) (sn_aload_n (i := 0) (jm_dc dc_282_2 21 rfl)) (
  jm_gc (pu_iload _ _) (sn_iload_n (i := 3) (jm_dc dc_282_2 22 rfl)) (
  jm_gc (pu_iload _ _) (sn_iload (jm_dc dc_282_2 23 rfl)) (
  jm_gc (pu_iload _ _) (sn_iload (jm_dc dc_282_2 24 rfl)) (
  jm_gn)))))))))))))))))))))))))
theorem dc_282_3 : ([(134, .iload 10, 2), (136, .invokevirtual 357, 3), (139, .iload 6, 2), (141, .if_icmp .ne 23, 3), (144, .aload_n 0, 1), (145, .iload_n 3, 1), (146, .iload 9, 2), (148, .iload 4, 2), (150, .iload 10, 2), (152, .invokevirtual 360, 3), (155, .iload 7, 2), (157, .if_icmp .ne 7, 3), (160, .iconst 1, 1), (161, .goto 4, 3), (164, .iconst 0, 1), (165, .istore 11, 2), (167, .iload 8, 2), (169, .iload 11, 2), (171, .ifCond .eq 17, 3), (174, .aload_n 0, 1), (175, .iload_n 3, 1), (176, .iload 9, 2), (178, .iload 4, 2), (180, .iload 10, 2), (182, .invokevirtual 369, 3)] : List (Nat × Instr × Nat)).all (fun e => decide (decode prog_14_method_114_code e.1 = .ok e.2)) = true := by decide +kernel
abbrev cl_282_3 : List (Nat × jm_O) := [(134, op_iload 10 2), (136, op_callV 11 212 5), (139, op_iload 6 2), (141, op_cne 164), (144, op_aload 0 1), (145, op_iload 3 1), (146, op_iload 9 2), (148, op_iload 4 2), (150, op_iload 10 2), (152, op_callV 11 213 5), (155, op_iload 7 2), (157, op_cne 164), (160, op_ic 1 1), (161, op_goto 165), (164, op_ic 0 1), (165, op_istore 11 2), (167, op_iload 8 2), (169, op_iload 11 2), (171, op_ifeq 188), (174, op_aload 0 1), (175, op_iload 3 1), (176, op_iload 9 2), (178, op_iload 4 2), (180, op_iload 10 2), (182, op_callV 11 215 5)]
set_option maxRecDepth 100000 in
theorem gl_282_3 : jm_gl "FrescoWallModel" prog_14_method_114_code 12 (Option.some Jvm.ClassFile.FieldType.int) false cl_282_3 :=
  jm_gc (pu_iload _ _) (sn_iload (jm_dc dc_282_3 0 rfl)) (
  jm_gc (pu_callV _ _ _) (sn_callV (jm_dc dc_282_3 1 rfl) lk_11_357) (
  jm_gc (pu_iload _ _) (sn_iload (jm_dc dc_282_3 2 rfl)) (
  jm_gc (pu_cne _) (sn_cne (jm_dc dc_282_3 3 rfl) (by decide)) (
  jm_gc (pu_aload _ _) (sn_aload_n (i := 0) (jm_dc dc_282_3 4 rfl)) (
  jm_gc (pu_iload _ _) (sn_iload_n (i := 3) (jm_dc dc_282_3 5 rfl)) (
  jm_gc (pu_iload _ _) (sn_iload (jm_dc dc_282_3 6 rfl)) (
  jm_gc (pu_iload _ _) (sn_iload (jm_dc dc_282_3 7 rfl)) (
  jm_gc (pu_iload _ _) (sn_iload (jm_dc dc_282_3 8 rfl)) (
  jm_gc (pu_callV _ _ _) (sn_callV (jm_dc dc_282_3 9 rfl) lk_11_360) (
  jm_gc (pu_iload _ _) (sn_iload (jm_dc dc_282_3 10 rfl)) (
  jm_gc (pu_cne _) (sn_cne (jm_dc dc_282_3 11 rfl) (by decide)) (
  jm_gc (pu_ic _ _) (sn_iconst (jm_dc dc_282_3 12 rfl) (by decide)) (
  jm_gc (pu_goto _) (sn_goto (jm_dc dc_282_3 13 rfl) (by decide)) (
  jm_gc (pu_ic _ _) (sn_iconst (jm_dc dc_282_3 14 rfl) (by decide)) (
  jm_gc (pu_istore _ _) (sn_istore (jm_dc dc_282_3 15 rfl)) (
  jm_gc (pu_iload _ _) (sn_iload (jm_dc dc_282_3 16 rfl)) (
  jm_gc (pu_iload _ _) (sn_iload (jm_dc dc_282_3 17 rfl)) (
  jm_gc (pu_ifeq _) (sn_ifeq (jm_dc dc_282_3 18 rfl) (by decide)) (
  jm_gc (pu_aload _ _) (sn_aload_n (i := 0) (jm_dc dc_282_3 19 rfl)) (
  jm_gc (pu_iload _ _) (sn_iload_n (i := 3) (jm_dc dc_282_3 20 rfl)) (
  jm_gc (pu_iload _ _) (sn_iload (jm_dc dc_282_3 21 rfl)) (
  jm_gc (pu_iload _ _) (sn_iload (jm_dc dc_282_3 22 rfl)) (
  jm_gc (pu_iload _ _) (sn_iload (jm_dc dc_282_3 23 rfl)) (
  jm_gc (pu_callV _ _ _) (sn_callV (jm_dc dc_282_3 24 rfl) lk_11_369) (
  jm_gn)))))))))))))))))))))))))
theorem dc_282_4 : ([(185, .goto 4, 3), (188, .iconst 0, 1), (189, .iadd, 1), (190, .istore 8, 2), (192, .iinc 10 1, 3), (195, .goto (-114), 3), (198, .iinc 9 1, 3), (201, .goto (-134), 3), (204, .iload 8, 2), (206, .ireturn, 1)] : List (Nat × Instr × Nat)).all (fun e => decide (decode prog_14_method_114_code e.1 = .ok e.2)) = true := by decide +kernel
abbrev cl_282_4 : List (Nat × jm_O) := [(185, op_goto 189), (188, op_ic 0 1), (189, op_ibin (fun x y => x + y)), (190, op_istore 8 2), (192, op_iinc 10 1), (195, op_goto 81), (198, op_iinc 9 1), (201, op_goto 67), (204, op_iload 8 2), (206, op_iret)]
set_option maxRecDepth 100000 in
theorem gl_282_4 : jm_gl "FrescoWallModel" prog_14_method_114_code 12 (Option.some Jvm.ClassFile.FieldType.int) false cl_282_4 :=
  jm_gc (pu_goto _) (sn_goto (jm_dc dc_282_4 0 rfl) (by decide)) (
  jm_gc (pu_ic _ _) (sn_iconst (jm_dc dc_282_4 1 rfl) (by decide)) (
  jm_gc (pu_ibin _) (sn_iadd (jm_dc dc_282_4 2 rfl)) (
  jm_gc (pu_istore _ _) (sn_istore (jm_dc dc_282_4 3 rfl)) (
  jm_gc (pu_iinc _ _) (sn_iinc (jm_dc dc_282_4 4 rfl) (by decide)) (
  jm_gc (pu_goto _) (sn_goto (jm_dc dc_282_4 5 rfl) (by decide)) (
  jm_gc (pu_iinc _ _) (sn_iinc (jm_dc dc_282_4 6 rfl) (by decide)) (
  jm_gc (pu_goto _) (sn_goto (jm_dc dc_282_4 7 rfl) (by decide)) (
  jm_gc (pu_iload _ _) (sn_iload (jm_dc dc_282_4 8 rfl)) (
  jm_gc (pu_iret) (sn_iret (jm_dc dc_282_4 9 rfl) rfl) (
  jm_gn))))))))))
theorem dc_283_0 : ([(0, .iconst 1, 1), (1, .istore_n 1, 1), (2, .iload_n 1, 1), (3, .aload_n 0, 1), (4, .getfield 561, 3), (7, .if_icmp .ge 117, 3), (10, .aload_n 0, 1), (11, .getfield 151, 3), (14, .iload_n 1, 1), (15, .iaload, 1), (16, .aload_n 0, 1), (17, .getfield 160, 3), (20, .iload_n 1, 1), (21, .iaload, 1), (22, .if_icmp .eq 24, 3), (25, .aload_n 0, 1), (26, .getfield 151, 3), (29, .iload_n 1, 1), (30, .iaload, 1), (31, .aload_n 0, 1), (32, .getfield 160, 3), (35, .iload_n 1, 1), (36, .iaload, 1), (37, .if_icmp .ge 7, 3), (40, .iconst 1, 1)] : List (Nat × Instr × Nat)).all (fun e => decide (decode prog_14_method_115_code e.1 = .ok e.2)) = true := by decide +kernel
abbrev cl_283_0 : List (Nat × jm_O) := [(0, op_ic 1 1), (1, op_istore 1 1), (2, op_iload 1 1), (3, op_aload 0 1), (4, op_getI 11 72), (7, op_cge 124), (10, op_aload 0 1), (11, op_getA 11 69), (14, op_iload 1 1), (15, op_iald 13), (16, op_aload 0 1), (17, op_getA 11 74), (20, op_iload 1 1), (21, op_iald 13), (22, op_ceq 46), (25, op_aload 0 1), (26, op_getA 11 69), (29, op_iload 1 1), (30, op_iald 13), (31, op_aload 0 1), (32, op_getA 11 74), (35, op_iload 1 1), (36, op_iald 13), (37, op_cge 44), (40, op_ic 1 1)]
set_option maxRecDepth 100000 in
theorem gl_283_0 : jm_gl "FrescoWallModel" prog_14_method_115_code 2 (Option.some Jvm.ClassFile.FieldType.boolean) false cl_283_0 :=
  jm_gc (pu_ic _ _) (sn_iconst (jm_dc dc_283_0 0 rfl) (by decide)) (
  jm_gc (pu_istore _ _) (sn_istore_n (i := 1) (jm_dc dc_283_0 1 rfl)) (
  jm_gc (pu_iload _ _) (sn_iload_n (i := 1) (jm_dc dc_283_0 2 rfl)) (
  jm_gc (pu_aload _ _) (sn_aload_n (i := 0) (jm_dc dc_283_0 3 rfl)) (
  jm_gc (pu_getI _ _) (sn_getI (jm_dc dc_283_0 4 rfl) fl_11_561 (Or.inl rfl)) (
  jm_gc (pu_cge _) (sn_cge (jm_dc dc_283_0 5 rfl) (by decide)) (
  jm_gc (pu_aload _ _) (sn_aload_n (i := 0) (jm_dc dc_283_0 6 rfl)) (
  jm_gc (pu_getA _ _) (sn_getA (jm_dc dc_283_0 7 rfl) fl_11_151 rfl) (
  jm_gc (pu_iload _ _) (sn_iload_n (i := 1) (jm_dc dc_283_0 8 rfl)) (
  jm_gc (pu_iald _) (sn_iald (jm_dc dc_283_0 9 rfl)) (
  jm_gc (pu_aload _ _) (sn_aload_n (i := 0) (jm_dc dc_283_0 10 rfl)) (
  jm_gc (pu_getA _ _) (sn_getA (jm_dc dc_283_0 11 rfl) fl_11_160 rfl) (
  jm_gc (pu_iload _ _) (sn_iload_n (i := 1) (jm_dc dc_283_0 12 rfl)) (
  jm_gc (pu_iald _) (sn_iald (jm_dc dc_283_0 13 rfl)) (
  jm_gc (pu_ceq _) (sn_ceq (jm_dc dc_283_0 14 rfl) (by decide)) (
  jm_gc (pu_aload _ _) (sn_aload_n (i := 0) (jm_dc dc_283_0 15 rfl)) (
  jm_gc (pu_getA _ _) (sn_getA (jm_dc dc_283_0 16 rfl) fl_11_151 rfl) (
  jm_gc (pu_iload _ _) (sn_iload_n (i := 1) (jm_dc dc_283_0 17 rfl)) (
  jm_gc (pu_iald _) (sn_iald (jm_dc dc_283_0 18 rfl)) (
  jm_gc (pu_aload _ _) (sn_aload_n (i := 0) (jm_dc dc_283_0 19 rfl)) (
  jm_gc (pu_getA _ _) (sn_getA (jm_dc dc_283_0 20 rfl) fl_11_160 rfl) (
  jm_gc (pu_iload _ _) (sn_iload_n (i := 1) (jm_dc dc_283_0 21 rfl)) (
  jm_gc (pu_iald _) (sn_iald (jm_dc dc_283_0 22 rfl)) (
  jm_gc (pu_cge _) (sn_cge (jm_dc dc_283_0 23 rfl) (by decide)) (
  jm_gc (pu_ic _ _) (sn_iconst (jm_dc dc_283_0 24 rfl) (by decide)) (
  jm_gn)))))))))))))))))))))))))
theorem dc_283_1 : ([(41, .goto 4, 3), (44, .iconst 0, 1), (45, .ireturn, 1), (46, .aload_n 0, 1), (47, .getfield 154, 3), (50, .iload_n 1, 1), (51, .iaload, 1), (52, .aload_n 0, 1), (53, .getfield 163, 3), (56, .iload_n 1, 1), (57, .iaload, 1), (58, .if_icmp .eq 24, 3), (61, .aload_n 0, 1), (62, .getfield 154, 3), (65, .iload_n 1, 1), (66, .iaload, 1), (67, .aload_n 0, 1), (68, .getfield 163, 3), (71, .iload_n 1, 1), (72, .iaload, 1), (73, .if_icmp .ge 7, 3), (76, .iconst 1, 1), (77, .goto 4, 3), (80, .iconst 0, 1), (81, .ireturn, 1)] : List (Nat × Instr × Nat)).all (fun e => decide (decode prog_14_method_115_code e.1 = .ok e.2)) = true := by decide +kernel
abbrev cl_283_1 : List (Nat × jm_O) := [(41, op_goto 45), (44, op_ic 0 1), (45, op_zret), (46, op_aload 0 1), (47, op_getA 11 70), (50, op_iload 1 1), (51, op_iald 13), (52, op_aload 0 1), (53, op_getA 11 75), (56, op_iload 1 1), (57, op_iald 13), (58, op_ceq 82), (61, op_aload 0 1), (62, op_getA 11 70), (65, op_iload 1 1), (66, op_iald 13), (67, op_aload 0 1), (68, op_getA 11 75), (71, op_iload 1 1), (72, op_iald 13), (73, op_cge 80), (76, op_ic 1 1), (77, op_goto 81), (80, op_ic 0 1), (81, op_zret)]
set_option maxRecDepth 100000 in
theorem gl_283_1 : jm_gl "FrescoWallModel" prog_14_method_115_code 2 (Option.some Jvm.ClassFile.FieldType.boolean) false cl_283_1 :=
  jm_gc (pu_goto _) (sn_goto (jm_dc dc_283_1 0 rfl) (by decide)) (
  jm_gc (pu_ic _ _) (sn_iconst (jm_dc dc_283_1 1 rfl) (by decide)) (
  jm_gc (pu_zret) (sn_zret (jm_dc dc_283_1 2 rfl) rfl) (
  jm_gc (pu_aload _ _) (sn_aload_n (i := 0) (jm_dc dc_283_1 3 rfl)) (
  jm_gc (pu_getA _ _) (sn_getA (jm_dc dc_283_1 4 rfl) fl_11_154 rfl) (
  jm_gc (pu_iload _ _) (sn_iload_n (i := 1) (jm_dc dc_283_1 5 rfl)) (
  jm_gc (pu_iald _) (sn_iald (jm_dc dc_283_1 6 rfl)) (
  jm_gc (pu_aload _ _) (sn_aload_n (i := 0) (jm_dc dc_283_1 7 rfl)) (
  jm_gc (pu_getA _ _) (sn_getA (jm_dc dc_283_1 8 rfl) fl_11_163 rfl) (
  jm_gc (pu_iload _ _) (sn_iload_n (i := 1) (jm_dc dc_283_1 9 rfl)) (
  jm_gc (pu_iald _) (sn_iald (jm_dc dc_283_1 10 rfl)) (
  jm_gc (pu_ceq _) (sn_ceq (jm_dc dc_283_1 11 rfl) (by decide)) (
  jm_gc (pu_aload _ _) (sn_aload_n (i := 0) (jm_dc dc_283_1 12 rfl)) (
  jm_gc (pu_getA _ _) (sn_getA (jm_dc dc_283_1 13 rfl) fl_11_154 rfl) (
  jm_gc (pu_iload _ _) (sn_iload_n (i := 1) (jm_dc dc_283_1 14 rfl)) (
  jm_gc (pu_iald _) (sn_iald (jm_dc dc_283_1 15 rfl)) (
  jm_gc (pu_aload _ _) (sn_aload_n (i := 0) (jm_dc dc_283_1 16 rfl)) (
  jm_gc (pu_getA _ _) (sn_getA (jm_dc dc_283_1 17 rfl) fl_11_163 rfl) (
  jm_gc (pu_iload _ _) (sn_iload_n (i := 1) (jm_dc dc_283_1 18 rfl)) (
  jm_gc (pu_iald _) (sn_iald (jm_dc dc_283_1 19 rfl)) (
  jm_gc (pu_cge _) (sn_cge (jm_dc dc_283_1 20 rfl) (by decide)) (
  jm_gc (pu_ic _ _) (sn_iconst (jm_dc dc_283_1 21 rfl) (by decide)) (
  jm_gc (pu_goto _) (sn_goto (jm_dc dc_283_1 22 rfl) (by decide)) (
  jm_gc (pu_ic _ _) (sn_iconst (jm_dc dc_283_1 23 rfl) (by decide)) (
  jm_gc (pu_zret) (sn_zret (jm_dc dc_283_1 24 rfl) rfl) (
  jm_gn)))))))))))))))))))))))))
theorem dc_283_2 : ([(82, .aload_n 0, 1), (83, .getfield 157, 3), (86, .iload_n 1, 1), (87, .iaload, 1), (88, .aload_n 0, 1), (89, .getfield 166, 3), (92, .iload_n 1, 1), (93, .iaload, 1), (94, .if_icmp .eq 24, 3), (97, .aload_n 0, 1), (98, .getfield 157, 3), (101, .iload_n 1, 1), (102, .iaload, 1), (103, .aload_n 0, 1), (104, .getfield 166, 3), (107, .iload_n 1, 1), (108, .iaload, 1), (109, .if_icmp .ge 7, 3), (112, .iconst 1, 1), (113, .goto 4, 3), (116, .iconst 0, 1), (117, .ireturn, 1), (118, .iinc 1 1, 3), (121, .goto (-119), 3), (124, .iconst 0, 1)] : List (Nat × Instr × Nat)).all (fun e => decide (decode prog_14_method_115_code e.1 = .ok e.2)) = true := by decide +kernel
abbrev cl_283_2 : List (Nat × jm_O) := [(82, op_aload 0 1), (83, op_getA 11 71), (86, op_iload 1 1), (87, op_iald 13), (88, op_aload 0 1), (89, op_getA 11 76), (92, op_iload 1 1), (93, op_iald 13), (94, op_ceq 118), (97, op_aload 0 1), (98, op_getA 11 71), (101, op_iload 1 1), (102, op_iald 13), (103, op_aload 0 1), (104, op_getA 11 76), (107, op_iload 1 1), (108, op_iald 13), (109, op_cge 116), (112, op_ic 1 1), (113, op_goto 117), (116, op_ic 0 1), (117, op_zret), (118, op_iinc 1 1), (121, op_goto 2), (124, op_ic 0 1)]
set_option maxRecDepth 100000 in
theorem gl_283_2 : jm_gl "FrescoWallModel" prog_14_method_115_code 2 (Option.some Jvm.ClassFile.FieldType.boolean) false cl_283_2 :=
  jm_gc (pu_aload _ _) (sn_aload_n (i := 0) (jm_dc dc_283_2 0 rfl)) (
  jm_gc (pu_getA _ _) (sn_getA (jm_dc dc_283_2 1 rfl) fl_11_157 rfl) (
  jm_gc (pu_iload _ _) (sn_iload_n (i := 1) (jm_dc dc_283_2 2 rfl)) (
  jm_gc (pu_iald _) (sn_iald (jm_dc dc_283_2 3 rfl)) (
  jm_gc (pu_aload _ _) (sn_aload_n (i := 0) (jm_dc dc_283_2 4 rfl)) (
  jm_gc (pu_getA _ _) (sn_getA (jm_dc dc_283_2 5 rfl) fl_11_166 rfl) (
  jm_gc (pu_iload _ _) (sn_iload_n (i := 1) (jm_dc dc_283_2 6 rfl)) (
  jm_gc (pu_iald _) (sn_iald (jm_dc dc_283_2 7 rfl)) (
  jm_gc (pu_ceq _) (sn_ceq (jm_dc dc_283_2 8 rfl) (by decide)) (
  jm_gc (pu_aload _ _) (sn_aload_n (i := 0) (jm_dc dc_283_2 9 rfl)) (
  jm_gc (pu_getA _ _) (sn_getA (jm_dc dc_283_2 10 rfl) fl_11_157 rfl) (
  jm_gc (pu_iload _ _) (sn_iload_n (i := 1) (jm_dc dc_283_2 11 rfl)) (
  jm_gc (pu_iald _) (sn_iald (jm_dc dc_283_2 12 rfl)) (
  jm_gc (pu_aload _ _) (sn_aload_n (i := 0) (jm_dc dc_283_2 13 rfl)) (
  jm_gc (pu_getA _ _) (sn_getA (jm_dc dc_283_2 14 rfl) fl_11_166 rfl) (
  jm_gc (pu_iload _ _) (sn_iload_n (i := 1) (jm_dc dc_283_2 15 rfl)) (
  jm_gc (pu_iald _) (sn_iald (jm_dc dc_283_2 16 rfl)) (
  jm_gc (pu_cge _) (sn_cge (jm_dc dc_283_2 17 rfl) (by decide)) (
  jm_gc (pu_ic _ _) (sn_iconst (jm_dc dc_283_2 18 rfl) (by decide)) (
  jm_gc (pu_goto _) (sn_goto (jm_dc dc_283_2 19 rfl) (by decide)) (
  jm_gc (pu_ic _ _) (sn_iconst (jm_dc dc_283_2 20 rfl) (by decide)) (
  jm_gc (pu_zret) (sn_zret (jm_dc dc_283_2 21 rfl) rfl) (
  jm_gc (pu_iinc _ _) (sn_iinc (jm_dc dc_283_2 22 rfl) (by decide)) (
  jm_gc (pu_goto _) (sn_goto (jm_dc dc_283_2 23 rfl) (by decide)) (
  jm_gc (pu_ic _ _) (sn_iconst (jm_dc dc_283_2 24 rfl) (by decide)) (
  jm_gn)))))))))))))))))))))))))
theorem dc_283_3 : ([(125, .ireturn, 1)] : List (Nat × Instr × Nat)).all (fun e => decide (decode prog_14_method_115_code e.1 = .ok e.2)) = true := by decide +kernel
abbrev cl_283_3 : List (Nat × jm_O) := [(125, op_zret)]
set_option maxRecDepth 100000 in
theorem gl_283_3 : jm_gl "FrescoWallModel" prog_14_method_115_code 2 (Option.some Jvm.ClassFile.FieldType.boolean) false cl_283_3 :=
  jm_gc (pu_zret) (sn_zret (jm_dc dc_283_3 0 rfl) rfl) (
  jm_gn)
theorem dc_284_0 : ([(0, .aload_n 0, 1), (1, .iconst 0, 1), (2, .iconst 1, 1), (3, .invokevirtual 564, 3), (6, .istore_n 1, 1), (7, .iload_n 1, 1), (8, .ifCond .lt 47, 3), (11, .aload_n 0, 1), (12, .getfield 561, 3), (15, .iconst 3, 1), (16, .if_icmp .ne 39, 3), (19, .aload_n 0, 1), (20, .iconst 0, 1), (21, .iconst 2, 1), (22, .invokevirtual 564, 3), (25, .istore_n 2, 1), (26, .iload_n 2, 1), (27, .ifCond .ge 7, 3), (30, .iconst (-1), 1), (31, .goto 9, 3), (34, .aload_n 0, 1), (35, .iconst 1, 1), (36, .iconst 2, 1), (37, .invokevirtual 564, 3), (40, .istore_n 3, 1)] : List (Nat × Instr × Nat)).all (fun e => decide (decode prog_14_method_116_code e.1 = .ok e.2)) = true := by decide +kernel
abbrev cl_284_0 : List (Nat × jm_O) := [(0, op_aload 0 1), (1, op_ic 0 1), (2, op_ic 1 1), (3, op_callV 11 282 3), (6, op_istore 1 1), (7, op_iload 1 1), (8, op_iflt 55), (11, op_aload 0 1), (12, op_getI 11 72), (15, op_ic 3 1), (16, op_cne 55), (19, op_aload 0 1), (20, op_ic 0 1), (21, op_ic 2 1), (22, op_callV 11 282 3), (25, op_istore 2 1), (26, op_iload 2 1), (27, op_ifge 34), (30, op_ic (-1) 1), (31, op_goto 40), (34, op_aload 0 1), (35, op_ic 1 1), (36, op_ic 2 1), (37, op_callV 11 282 3), (40, op_istore 3 1)]
set_option maxRecDepth 100000 in
theorem gl_284_0 : jm_gl "FrescoWallModel" prog_14_method_116_code 4 (Option.none : Option Jvm.ClassFile.FieldType) false cl_284_0 :=
  jm_gc (pu_aload _ _) (sn_aload_n (i := 0) (jm_dc dc_284_0 0 rfl)) (
  jm_gc (pu_ic _ _) (sn_iconst (jm_dc dc_284_0 1 rfl) (by decide)) (
  jm_gc (pu_ic _ _) (sn_iconst (jm_dc dc_284_0 2 rfl) (by decide)) (
  jm_gc (pu_callV _ _ _) (sn_callV (jm_dc dc_284_0 3 rfl) lk_11_564) (
  jm_gc (pu_istore _ _) (sn_istore_n (i := 1) (jm_dc dc_284_0 4 rfl)) (
  jm_gc (pu_iload _ _) (sn_iload_n (i := 1) (jm_dc dc_284_0 5 rfl)) (
  jm_gc (pu_iflt _) (sn_iflt (jm_dc dc_284_0 6 rfl) (by decide)) (
  jm_gc (pu_aload _ _) (sn_aload_n (i := 0) (jm_dc dc_284_0 7 rfl)) (
  jm_gc (pu_getI _ _) (sn_getI (jm_dc dc_284_0 8 rfl) fl_11_561 (Or.inl rfl)) (
  jm_gc (pu_ic _ _) (sn_iconst (jm_dc dc_284_0 9 rfl) (by decide)) (
  jm_gc (pu_cne _) (sn_cne (jm_dc dc_284_0 10 rfl) (by decide)) (
  jm_gc (pu_aload _ _) (sn_aload_n (i := 0) (jm_dc dc_284_0 11 rfl)) (
  jm_gc (pu_ic _ _) (sn_iconst (jm_dc dc_284_0 12 rfl) (by decide)) (
  jm_gc (pu_ic _ _) (sn_iconst (jm_dc dc_284_0 13 rfl) (by decide)) (
  jm_gc (pu_callV _ _ _) (sn_callV (jm_dc dc_284_0 14 rfl) lk_11_564) (
  jm_gc (pu_istore _ _) (sn_istore_n (i := 2) (jm_dc dc_284_0 15 rfl)) (
  jm_gc (pu_iload _ _) (sn_iload_n (i := 2) (jm_dc dc_284_0 16 rfl)) (
  jm_gc (pu_ifge _) (sn_ifge (jm_dc dc_284_0 17 rfl) (by decide)) (
  jm_gc (pu_ic _ _) (sn_iconst (jm_dc dc_284_0 18 rfl) (by decide)) (
  jm_gc (pu_goto _) (sn_goto (jm_dc dc_284_0 19 rfl) (by decide)) (
  jm_gc (pu_aload _ _) (sn_aload_n (i := 0) (jm_dc dc_284_0 20 rfl)) (
  jm_gc (pu_ic _ _) (sn_iconst (jm_dc dc_284_0 21 rfl) (by decide)) (
  jm_gc (pu_ic _ _) (sn_iconst (jm_dc dc_284_0 22 rfl) (by decide)) (
  jm_gc (pu_callV _ _ _) (sn_callV (jm_dc dc_284_0 23 rfl) lk_11_564) (
  jm_gc (pu_istore _ _) (sn_istore_n (i := 3) (jm_dc dc_284_0 24 rfl)) (
  jm_gn)))))))))))))))))))))))))
theorem dc_284_1 : ([(41, .iload_n 3, 1), (42, .ifCond .ge 7, 3), (45, .iconst (-1), 1), (46, .goto 8, 3), (49, .iload_n 1, 1), (50, .iload_n 2, 1), (51, .iadd, 1), (52, .iload_n 3, 1), (53, .iadd, 1), (54, .istore_n 1, 1), (55, .iload_n 1, 1), (56, .ifCond .lt 91, 3), (59, .aload_n 0, 1), (60, .getfield 567, 3), (63, .iconst (-1), 1), (64, .if_icmp .eq 26, 3), (67, .iload_n 1, 1), (68, .aload_n 0, 1), (69, .getfield 567, 3), (72, .if_icmp .gt 18, 3), (75, .iload_n 1, 1), (76, .aload_n 0, 1), (77, .getfield 567, 3), (80, .if_icmp .ne 67, 3), (83, .aload_n 0, 1)] : List (Nat × Instr × Nat)).all (fun e => decide (decode prog_14_method_116_code e.1 = .ok e.2)) = true := by decide +kernel
abbrev cl_284_1 : List (Nat × jm_O) := [(41, op_iload 3 1), (42, op_ifge 49), (45, op_ic (-1) 1), (46, op_goto 54), (49, op_iload 1 1), (50, op_iload 2 1), (51, op_ibin (fun x y => x + y)), (52, op_iload 3 1), (53, op_ibin (fun x y => x + y)), (54, op_istore 1 1), (55, op_iload 1 1), (56, op_iflt 147), (59, op_aload 0 1), (60, op_getI 11 73), (63, op_ic (-1) 1), (64, op_ceq 90), (67, op_iload 1 1), (68, op_aload 0 1), (69, op_getI 11 73), (72, op_cgt 90), (75, op_iload 1 1), (76, op_aload 0 1), (77, op_getI 11 73), (80, op_cne 147), (83, op_aload 0 1)]
set_option maxRecDepth 100000 in
theorem gl_284_1 : jm_gl "FrescoWallModel" prog_14_method_116_code 4 (Option.none : Option Jvm.ClassFile.FieldType) false cl_284_1 :=
  jm_gc (pu_iload _ _) (sn_iload_n (i := 3) (jm_dc dc_284_1 0 rfl)) (
  jm_gc (pu_ifge _) (sn_ifge (jm_dc dc_284_1 1 rfl) (by decide)) (
  jm_gc (pu_ic _ _) (sn_iconst (jm_dc dc_284_1 2 rfl) (by decide)) (
  jm_gc (pu_goto _) (sn_goto (jm_dc dc_284_1 3 rfl) (by decide)) (
  jm_gc (pu_iload _ _) (sn_iload_n (i := 1) (jm_dc dc_284_1 4 rfl)) (
  jm_gc (pu_iload _ _) (sn_iload_n (i := 2) (jm_dc dc_284_1 5 rfl)) (
  jm_gc (pu_ibin _) (sn_iadd (jm_dc dc_284_1 6 rfl)) (
  jm_gc (pu_iload _ _) (sn_iload_n (i := 3) (jm_dc dc_284_1 7 rfl)) (
  jm_gc (pu_ibin _) (sn_iadd (jm_dc dc_284_1 8 rfl)) (
  jm_gc (pu_istore _ _) (sn_istore_n (i := 1) (jm_dc dc_284_1 9 rfl)) (
  jm_gc (pu_iload _ _) (sn_iload_n (i := 1) (jm_dc dc_284_1 10 rfl)) (
  jm_gc (pu_iflt _) (sn_iflt (jm_dc dc_284_1 11 rfl) (by decide)) (
  jm_gc (pu_aload _ _) (sn_aload_n (i := 0) (jm_dc dc_284_1 12 rfl)) (
  jm_gc (pu_getI _ _) (sn_getI (jm_dc dc_284_1 13 rfl) fl_11_567 (Or.inl rfl)) (
  jm_gc (pu_ic _ _) (sn_iconst (jm_dc dc_284_1 14 rfl) (by decide)) (
  jm_gc (pu_ceq _) (sn_ceq (jm_dc dc_284_1 15 rfl) (by decide)) (
  jm_gc (pu_iload _ _) (sn_iload_n (i := 1) (jm_dc dc_284_1 16 rfl)) (
  jm_gc (pu_aload _ _) (sn_aload_n (i := 0) (jm_dc dc_284_1 17 rfl)) (
  jm_gc (pu_getI _ _) (sn_getI (jm_dc dc_284_1 18 rfl) fl_11_567 (Or.inl rfl)) (
  jm_gc (pu_cgt _) (sn_cgt (jm_dc dc_284_1 19 rfl) (by decide)) (
  jm_gc (pu_iload _ _) (sn_iload_n (i := 1) (jm_dc dc_284_1 20 rfl)) (
  jm_gc (pu_aload _ _) (sn_aload_n (i := 0) (jm_dc dc_284_1 21 rfl)) (
  jm_gc (pu_getI _ _) (sn_getI (jm_dc dc_284_1 22 rfl) fl_11_567 (Or.inl rfl)) (
  jm_gc (pu_cne _) (sn_cne (jm_dc dc_284_1 23 rfl) (by decide)) (
  jm_gc (pu_aload _ _) (sn_aload_n (i := 0) (jm_dc dc_284_1 24 rfl)) (
  jm_gn)))))))))))))))))))))))))
theorem dc_284_2 : ([(84, .invokevirtual 570, 3), (87, .ifCond .eq 60, 3), (90, .aload_n 0, 1), (91, .iload_n 1, 1), (92, .putfield 567, 3), (95, .iconst 0, 1), (96, .istore_n 2, 1), (97, .iload_n 2, 1), (98, .aload_n 0, 1), (99, .getfield 561, 3), (102, .if_icmp .ge 45, 3), (105, .aload_n 0, 1), (106, .getfield 160, 3), (109, .iload_n 2, 1), (110, .aload_n 0, 1), (111, .getfield 151, 3), (114, .iload_n 2, 1), (115, .iaload, 1), (116, .iastore, 1), (117, .aload_n 0, 1), (118, .getfield 163, 3), (121, .iload_n 2, 1), (122, .aload_n 0, 1), (123, .getfield 154, 3), (126, .iload_n 2, 1)] : List (Nat × Instr × Nat)).all (fun e => decide (decode prog_14_method_116_code e.1 = .ok e.2)) = true := by decide +kernel
abbrev cl_284_2 : List (Nat × jm_O) := [(84, op_callV 11 283 1), (87, op_ifeq 147), (90, op_aload 0 1), (91, op_iload 1 1), (92, op_putI 11 73), (95, op_ic 0 1), (96, op_istore 2 1), (97, op_iload 2 1), (98, op_aload 0 1), (99, op_getI 11 72), (102, op_cge 147), (105, op_aload 0 1), (106, op_getA 11 74), (109, op_iload 2 1), (110, op_aload 0 1), (111, op_getA 11 69), (114, op_iload 2 1), (115, op_iald 13), (116, op_iast), (117, op_aload 0 1), (118, op_getA 11 75), (121, op_iload 2 1), (122, op_aload 0 1), (123, op_getA 11 70), (126, op_iload 2 1)]
set_option maxRecDepth 100000 in
theorem gl_284_2 : jm_gl "FrescoWallModel" prog_14_method_116_code 4 (Option.none : Option Jvm.ClassFile.FieldType) false cl_284_2 :=
  jm_gc (pu_callV _ _ _) (sn_callV (jm_dc dc_284_2 0 rfl) lk_11_570) (
  jm_gc (pu_ifeq _) (sn_ifeq (jm_dc dc_284_2 1 rfl) (by decide)) (
  jm_gc (pu_aload _ _) (sn_aload_n (i := 0) (jm_dc dc_284_2 2 rfl)) (
  jm_gc (pu_iload _ _) (sn_iload_n (i := 1) (jm_dc dc_284_2 3 rfl)) (
  jm_gc (pu_putI _ _) (sn_putI (jm_dc dc_284_2 4 rfl) flw_11_567 rfl) (
  jm_gc (pu_ic _ _) (sn_iconst (jm_dc dc_284_2 5 rfl) (by decide)) (
  jm_gc (pu_istore _ _) (sn_istore_n (i := 2) (jm_dc dc_284_2 6 rfl)) (
  jm_gc (pu_iload _ _) (sn_iload_n (i := 2) (jm_dc dc_284_2 7 rfl)) (
  jm_gc (pu_aload _ _) (sn_aload_n (i := 0) (jm_dc dc_284_2 8 rfl)) (
  jm_gc (pu_getI _ _) (sn_getI (jm_dc dc_284_2 9 rfl) fl_11_561 (Or.inl rfl)) (
  jm_gc (pu_cge _) (sn_cge (jm_dc dc_284_2 10 rfl) (by decide)) (
  jm_gc (pu_aload _ _) (sn_aload_n (i := 0) (jm_dc dc_284_2 11 rfl)) (
  jm_gc (pu_getA _ _) (sn_getA (jm_dc dc_284_2 12 rfl) fl_11_160 rfl) (
  jm_gc (pu_iload _ _) (sn_iload_n (i := 2) (jm_dc dc_284_2 13 rfl)) (
  jm_gc (pu_aload _ _) (sn_aload_n (i := 0) (jm_dc dc_284_2 14 rfl)) (
  jm_gc (pu_getA _ _) (sn_getA (jm_dc dc_284_2 15 rfl) fl_11_151 rfl) (
  jm_gc (pu_iload _ _) (sn_iload_n (i := 2) (jm_dc dc_284_2 16 rfl)) (
  jm_gc (pu_iald _) (sn_iald (jm_dc dc_284_2 17 rfl)) (
  jm_gc (pu_iast) (sn_iast (jm_dc dc_284_2 18 rfl)) (
  jm_gc (pu_aload _ _) (sn_aload_n (i := 0) (jm_dc dc_284_2 19 rfl)) (
  jm_gc (pu_getA _ _) (sn_getA (jm_dc dc_284_2 20 rfl) fl_11_163 rfl) (
  jm_gc (pu_iload _ _) (sn_iload_n (i := 2) (jm_dc dc_284_2 21 rfl)) (
  jm_gc (pu_aload _ _) (sn_aload_n (i := 0) (jm_dc dc_284_2 22 rfl)) (
  jm_gc (pu_getA _ _) (sn_getA (jm_dc dc_284_2 23 rfl) fl_11_154 rfl) (
  jm_gc (pu_iload _ _) (sn_iload_n (i := 2) (jm_dc dc_284_2 24 rfl)) (
  jm_gn)))))))))))))))))))))))))
theorem dc_284_3 : ([(127, .iaload, 1), (128, .iastore, 1), (129, .aload_n 0, 1), (130, .getfield 166, 3), (133, .iload_n 2, 1), (134, .aload_n 0, 1), (135, .getfield 157, 3), (138, .iload_n 2, 1), (139, .iaload, 1), (140, .iastore, 1), (141, .iinc 2 1, 3), (144, .goto (-47), 3), (147, .return_, 1)] : List (Nat × Instr × Nat)).all (fun e => decide (decode prog_14_method_116_code e.1 = .ok e.2)) = true := by decide +kernel
abbrev cl_284_3 : List (Nat × jm_O) := [(127, op_iald 13), (128, op_iast), (129, op_aload 0 1), (130, op_getA 11 76), (133, op_iload 2 1), (134, op_aload 0 1), (135, op_getA 11 71), (138, op_iload 2 1), (139, op_iald 13), (140, op_iast), (141, op_iinc 2 1), (144, op_goto 97), (147, op_vret)]
set_option maxRecDepth 100000 in
theorem gl_284_3 : jm_gl "FrescoWallModel" prog_14_method_116_code 4 (Option.none : Option Jvm.ClassFile.FieldType) false cl_284_3 :=
  jm_gc (pu_iald _) (sn_iald (jm_dc dc_284_3 0 rfl)) (
  jm_gc (pu_iast) (sn_iast (jm_dc dc_284_3 1 rfl)) (
  jm_gc (pu_aload _ _) (sn_aload_n (i := 0) (jm_dc dc_284_3 2 rfl)) (
  jm_gc (pu_getA _ _) (sn_getA (jm_dc dc_284_3 3 rfl) fl_11_166 rfl) (
  jm_gc (pu_iload _ _) (sn_iload_n (i := 2) (jm_dc dc_284_3 4 rfl)) (
  jm_gc (pu_aload _ _) (sn_aload_n (i := 0) (jm_dc dc_284_3 5 rfl)) (
  jm_gc (pu_getA _ _) (sn_getA (jm_dc dc_284_3 6 rfl) fl_11_157 rfl) (
  jm_gc (pu_iload _ _) (sn_iload_n (i := 2) (jm_dc dc_284_3 7 rfl)) (
  jm_gc (pu_iald _) (sn_iald (jm_dc dc_284_3 8 rfl)) (
  jm_gc (pu_iast) (sn_iast (jm_dc dc_284_3 9 rfl)) (
  jm_gc (pu_iinc _ _) (sn_iinc (jm_dc dc_284_3 10 rfl) (by decide)) (
  jm_gc (pu_goto _) (sn_goto (jm_dc dc_284_3 11 rfl) (by decide)) (
  jm_gc (pu_vret) (sn_vret (jm_dc dc_284_3 12 rfl) rfl) (
  jm_gn)))))))))))))
theorem dc_285_0 : ([(0, .aload_n 0, 1), (1, .getfield 148, 3), (4, .iload_n 1, 1), (5, .iaload, 1), (6, .istore 5, 2), (8, .aload_n 0, 1), (9, .getfield 148, 3), (12, .iload_n 2, 1), (13, .iaload, 1), (14, .istore 6, 2), (16, .iconst 0, 1), (17, .istore 7, 2), (19, .iload 7, 2), (21, .aload_n 0, 1), (22, .getfield 13, 3), (25, .iload 5, 2), (27, .iaload, 1), (28, .if_icmp .ge 164, 3), (31, .iconst 0, 1), (32, .istore 8, 2), (34, .iload 8, 2), (36, .aload_n 0, 1), (37, .getfield 13, 3), (40, .iload 6, 2), (42, .iaload, 1)] : List (Nat × Instr × Nat)).all (fun e => decide (decode prog_14_method_117_code e.1 = .ok e.2)) = true := by decide +kernel
abbrev cl_285_0 : List (Nat × jm_O) := [(0, op_aload 0 1), (1, op_getA 11 68), (4, op_iload 1 1), (5, op_iald 13), (6, op_istore 5 2), (8, op_aload 0 1), (9, op_getA 11 68), (12, op_iload 2 1), (13, op_iald 13), (14, op_istore 6 2), (16, op_ic 0 1), (17, op_istore 7 2), (19, op_iload 7 2), (21, op_aload 0 1), (22, op_getA 11 4), (25, op_iload 5 2), (27, op_iald 13), (28, op_cge 192), (31, op_ic 0 1), (32, op_istore 8 2), (34, op_iload 8 2), (36, op_aload 0 1), (37, op_getA 11 4), (40, op_iload 6 2), (42, op_iald 13)]
set_option maxRecDepth 100000 in
theorem gl_285_0 : jm_gl "FrescoWallModel" prog_14_method_117_code 9 (Option.none : Option Jvm.ClassFile.FieldType) false cl_285_0 :=
  jm_gc (pu_aload _ _) (sn_aload_n (i := 0) (jm_dc dc_285_0 0 rfl)) (
  jm_gc (pu_getA _ _) (sn_getA (jm_dc dc_285_0 1 rfl) fl_11_148 rfl) (
  jm_gc (pu_iload _ _) (sn_iload_n (i := 1) (jm_dc dc_285_0 2 rfl)) (
  jm_gc (pu_iald _) (sn_iald (jm_dc dc_285_0 3 rfl)) (
  jm_gc (pu_istore _ _) (sn_istore (jm_dc dc_285_0 4 rfl)) (
  jm_gc (pu_aload _ _) (sn_aload_n (i := 0) (jm_dc dc_285_0 5 rfl)) (
  jm_gc (pu_getA _ _) (sn_getA (jm_dc dc_285_0 6 rfl) fl_11_148 rfl) (
  jm_gc (pu_iload _ _) (sn_iload_n (i := 2) (jm_dc dc_285_0 7 rfl)) (
  jm_gc (pu_iald _) (sn_iald (jm_dc dc_285_0 8 rfl)) (
  jm_gc (pu_istore _ _) (sn_istore (jm_dc dc_285_0 9 rfl)) (
  jm_gc (pu_ic _ _) (sn_iconst (jm_dc dc_285_0 10 rfl) (by decide)) (
  jm_gc (pu_istore _ _) (sn_istore (jm_dc dc_285_0 11 rfl)) (
  jm_gc (pu_iload _ _) (sn_iload (jm_dc dc_285_0 12 rfl)) (
  jm_gc (pu_aload _ _) (sn_aload_n (i := 0) (jm_dc dc_285_0 13 rfl)) (
  jm_gc (pu_getA _ _) (sn_getA (jm_dc dc_285_0 14 rfl) fl_11_13 rfl) (
  jm_gc (pu_iload _ _) (sn_iload (jm_dc dc_285_0 15 rfl)) (
  jm_gc (pu_iald _) (sn_iald (jm_dc dc_285_0 16 rfl)) (
  jm_gc (pu_cge _) (sn_cge (jm_dc dc_285_0 17 rfl) (by decide)) (
  jm_gc (pu_ic _ _) (sn_iconst (jm_dc dc_285_0 18 rfl) (by decide)) (
  jm_gc (pu_istore _ _) (sn_istore (jm_dc dc_285_0 19 rfl)) (
  jm_gc (pu_iload _ _) (sn_iload (jm_dc dc_285_0 20 rfl)) (
  jm_gc (pu_aload _ _) (sn_aload_n (i := 0) (jm_dc dc_285_0 21 rfl)) (
  jm_gc (pu_getA _ _) (sn_getA (jm_dc dc_285_0 22 rfl) fl_11_13 rfl) (
  jm_gc (pu_iload _ _) (sn_iload (jm_dc dc_285_0 23 rfl)) (
  jm_gc (pu_iald _) (sn_iald (jm_dc dc_285_0 24 rfl)) (
  jm_gn)))))))))))))))))))))))))
theorem dc_285_1 : ([(43, .if_icmp .ge 143, 3), (46, .aload_n 0, 1), (47, .iload 5, 2), (49, .iload 7, 2), (51, .iload 6, 2), (53, .iload 8, 2), (55, .invokevirtual 366, 3), (58, .ifCond .eq 122, 3), (61, .aload_n 0, 1), (62, .aload_n 0, 1), (63, .getfield 151, 3), (66, .iload_n 1, 1), (67, .iaload, 1), (68, .aload_n 0, 1), (69, .getfield 154, 3), (72, .iload_n 1, 1), (73, .iaload, 1), (74, .aload_n 0, 1), (75, .getfield 157, 3), (78, .iload_n 1, 1), (79, .iaload, 1), (80, .invokevirtual 393, 3), (83, .aload_n 0, 1), (84, .aload_n 0, 1), (85, .getfield 67, 3)] : List (Nat × Instr × Nat)).all (fun e => decide (decode prog_14_method_117_code e.1 = .ok e.2)) = true := by decide +kernel
abbrev cl_285_1 : List (Nat × jm_O) := [(43, op_cge 186), (46, op_aload 0 1), (47, op_iload 5 2), (49, op_iload 7 2), (51, op_iload 6 2), (53, op_iload 8 2), (55, op_callV 11 214 5), (58, op_ifeq 180), (61, op_aload 0 1), (62, op_aload 0 1), (63, op_getA 11 69), (66, op_iload 1 1), (67, op_iald 13), (68, op_aload 0 1), (69, op_getA 11 70), (72, op_iload 1 1), (73, op_iald 13), (74, op_aload 0 1), (75, op_getA 11 71), (78, op_iload 1 1), (79, op_iald 13), (80, op_callV 11 225 4), (83, op_aload 0 1), (84, op_aload 0 1), (85, op_getA 11 22)]
set_option maxRecDepth 100000 in
theorem gl_285_1 : jm_gl "FrescoWallModel" prog_14_method_117_code 9 (Option.none : Option Jvm.ClassFile.FieldType) false cl_285_1 :=
  jm_gc (pu_cge _) (sn_cge (jm_dc dc_285_1 0 rfl) (by decide)) (
  jm_gc (pu_aload _ _) (sn_aload_n (i := 0) (jm_dc dc_285_1 1 rfl)) (
  jm_gc (pu_iload _ _) (sn_iload (jm_dc dc_285_1 2 rfl)) (
  jm_gc (pu_iload _ _) (sn_iload (jm_dc dc_285_1 3 rfl)) (
  jm_gc (pu_iload _ _) (sn_iload (jm_dc dc_285_1 4 rfl)) (
  jm_gc (pu_iload _ _) (sn_iload (jm_dc dc_285_1 5 rfl)) (
  jm_gc (pu_callV _ _ _) (sn_callV (jm_dc dc_285_1 6 rfl) lk_11_366) (
  jm_gc (pu_ifeq _) (sn_ifeq (jm_dc dc_285_1 7 rfl) (by decide)) (
  jm_gc (pu_aload _ _) (sn_aload_n (i := 0) (jm_dc dc_285_1 8 rfl)) (
  jm_gc (pu_aload _ _) (sn_aload_n (i := 0) (jm_dc dc_285_1 9 rfl)) (
  jm_gc (pu_getA _ _) (sn_getA (jm_dc dc_285_1 10 rfl) fl_11_151 rfl) (
  jm_gc (pu_iload _ _) (sn_iload_n (i := 1) (jm_dc dc_285_1 11 rfl)) (
  jm_gc (pu_iald _) (sn_iald (jm_dc dc_285_1 12 rfl)) (
  jm_gc (pu_aload _ _) (sn_aload_n (i := 0) (jm_dc dc_285_1 13 rfl)) (
  jm_gc (pu_getA _ _) (sn_getA (jm_dc dc_285_1 14 rfl) fl_11_154 rfl) (
  jm_gc (pu_iload _ _) (sn_iload_n (i := 1) (jm_dc dc_285_1 15 rfl)) (
  jm_gc (pu_iald _) (sn_iald (jm_dc dc_285_1 16 rfl)) (
  jm_gc (pu_aload _ _) (sn_aload_n (i := 0) (jm_dc dc_285_1 17 rfl)) (
  jm_gc (pu_getA _ _) (sn_getA (jm_dc dc_285_1 18 rfl) fl_11_157 rfl) (
  jm_gc (pu_iload _ _) (sn_iload_n (i := 1) (jm_dc dc_285_1 19 rfl)) (
  jm_gc (pu_iald _) (sn_iald (jm_dc dc_285_1 20 rfl)) (
  jm_gc (pu_callV _ _ _) (sn_callV (jm_dc dc_285_1 21 rfl) lk_11_393) (
  jm_gc (pu_aload _ _) (sn_aload_n (i := 0) (jm_dc dc_285_1 22 rfl)) (
  jm_gc (pu_aload _ _) (sn_aload_n (i := 0) (jm_dc dc_285_1 23 rfl)) (
  jm_gc (pu_getA _ _) (sn_getA (jm_dc dc_285_1 24 rfl) fl_11_67 rfl) (
  jm_gn)))))))))))))))))))))))))
theorem dc_285_2 : ([(88, .aload_n 0, 1), (89, .iload 5, 2), (91, .iload 7, 2), (93, .iload 6, 2), (95, .iload 8, 2), (97, .invokevirtual 363, 3), (100, .iaload, 1), (101, .aload_n 0, 1), (102, .iload 5, 2), (104, .iload 7, 2), (106, .iload 6, 2), (108, .iload 8, 2), (110, .invokevirtual 357, 3), (113, .aload_n 0, 1), (114, .iload 5, 2), (116, .iload 7, 2), (118, .iload 6, 2), (120, .iload 8, 2), (122, .invokevirtual 360, 3), (125, .invokevirtual 397, 3), (128, .aload_n 0, 1), (129, .getfield 151, 3), (132, .iload_n 2, 1), (133, .aload_n 0, 1), (134, .getfield 384, 3)] : List (Nat × Instr × Nat)).all (fun e => decide (decode prog_14_method_117_code e.1 = .ok e.2)) = true := by decide +kernel
abbrev cl_285_2 : List (Nat × jm_O) := [(88, op_aload 0 1), (89, op_iload 5 2), (91, op_iload 7 2), (93, op_iload 6 2), (95, op_iload 8 2), (97, op_callV 11 211 5), (100, op_iald 13), (101, op_aload 0 1), (102, op_iload 5 2), (104, op_iload 7 2), (106, op_iload 6 2), (108, op_iload 8 2), (110, op_callV 11 212 5), (113, op_aload 0 1), (114, op_iload 5 2), (116, op_iload 7 2), (118, op_iload 6 2), (120, op_iload 8 2), (122, op_callV 11 213 5), (125, op_callV 11 226 4), (128, op_aload 0 1), (129, op_getA 11 69), (132, op_iload 2 1), (133, op_aload 0 1), (134, op_getI 11 49)]
set_option maxRecDepth 100000 in
theorem gl_285_2 : jm_gl "FrescoWallModel" prog_14_method_117_code 9 (Option.none : Option Jvm.ClassFile.FieldType) false cl_285_2 :=
  jm_gc (pu_aload _ _) (sn_aload_n (i := 0) (jm_dc dc_285_2 0 rfl)) (
  jm_gc (pu_iload _ _) (sn_iload (jm_dc dc_285_2 1 rfl)) (
  jm_gc (pu_iload _ _) (sn_iload (jm_dc dc_285_2 2 rfl)) (
  jm_gc (pu_iload _ _) (sn_iload (jm_dc dc_285_2 3 rfl)) (
  jm_gc (pu_iload _ _) (sn_iload (jm_dc dc_285_2 4 rfl)) (
  jm_gc (pu_callV _ _ _) (sn_callV (jm_dc dc_285_2 5 rfl) lk_11_363) (
  jm_gc (pu_iald _) (sn_iald (jm_dc dc_285_2 6 rfl)) (
  jm_gc (pu_aload _ _) (sn_aload_n (i := 0) (jm_dc dc_285_2 7 rfl)) (
  jm_gc (pu_iload _ _) (sn_iload (jm_dc dc_285_2 8 rfl)) (
  jm_gc (pu_iload _ _) (sn_iload (jm_dc dc_285_2 9 rfl)) (
  jm_gc (pu_iload _ _) (sn_iload (jm_dc dc_285_2 10 rfl)) (
  jm_gc (pu_iload _ _) (sn_iload (jm_dc dc_285_2 11 rfl)) (
  jm_gc (pu_callV _ _ _) (sn_callV (jm_dc dc_285_2 12 rfl) lk_11_357) (
  jm_gc (pu_aload _ _) (sn_aload_n (i := 0) (jm_dc dc_285_2 13 rfl)) (
  jm_gc (pu_iload _ _) (sn_iload (jm_dc dc_285_2 14 rfl)) (
  jm_gc (pu_iload _ _) (sn_iload (jm_dc dc_285_2 15 rfl)) (
  jm_gc (pu_iload _ _) (sn_iload (jm_dc dc_285_2 16 rfl)) (
  jm_gc (pu_iload _ _) (sn_iload (jm_dc dc_285_2 17 rfl)) (
  jm_gc (pu_callV _ _ _) (sn_callV (jm_dc dc_285_2 18 rfl) lk_11_360) (
  jm_gc (pu_callV _ _ _) (sn_callV (jm_dc dc_285_2 19 rfl) lk_11_397) (
  jm_gc (pu_aload _ _) (sn_aload_n (i := 0) (jm_dc dc_285_2 20 rfl)) (
  jm_gc (pu_getA _ _) (sn_getA (jm_dc dc_285_2 21 rfl) fl_11_151 rfl) (
  jm_gc (pu_iload _ _) (sn_iload_n (i := 2) (jm_dc dc_285_2 22 rfl)) (
  jm_gc (pu_aload _ _) (sn_aload_n (i := 0) (jm_dc dc_285_2 23 rfl)) (
  jm_gc (pu_getI _ _) (sn_getI (jm_dc dc_285_2 24 rfl) fl_11_384 (Or.inl rfl)) (
  jm_gn)))))))))))))))))))))))))
theorem dc_285_3 : ([(137, .iastore, 1), (138, .aload_n 0, 1), (139, .getfield 154, 3), (142, .iload_n 2, 1), (143, .aload_n 0, 1), (144, .getfield 387, 3), (147, .iastore, 1), (148, .aload_n 0, 1), (149, .getfield 157, 3), (152, .iload_n 2, 1), (153, .aload_n 0, 1), (154, .getfield 390, 3), (157, .iastore, 1), (158, .iload 4, 2), (160, .iconst (-1), 1), (161, .if_icmp .ne 10, 3), (164, .aload_n 0, 1), (165, .invokevirtual 573, 3), (168, .goto 12, 3), (171, .aload_n 0, 1), (172, .iload_n 3, 1), (173, .iload 4, 2), (175, .iconst (-1), 1), (176, .iconst (-1), 1), (177, .invokevirtual 576, 3)] : List (Nat × Instr × Nat)).all (fun e => decide (decode prog_14_method_117_code e.1 = .ok e.2)) = true := by decide +kernel
abbrev cl_285_3 : List (Nat × jm_O) := [(137, op_iast), (138, op_aload 0 1), (139, op_getA 11 70), (142, op_iload 2 1), (143, op_aload 0 1), (144, op_getI 11 50), (147, op_iast), (148, op_aload 0 1), (149, op_getA 11 71), (152, op_iload 2 1), (153, op_aload 0 1), (154, op_getI 11 51), (157, op_iast), (158, op_iload 4 2), (160, op_ic (-1) 1), (161, op_cne 171), (164, op_aload 0 1), (165, op_callV 11 284 1), (168, op_goto 180), (171, op_aload 0 1), (172, op_iload 3 1), (173, op_iload 4 2), (175, op_ic (-1) 1), (176, op_ic (-1) 1), (177, op_callV 11 285 5)]
set_option maxRecDepth 100000 in
theorem gl_285_3 : jm_gl "FrescoWallModel" prog_14_method_117_code 9 (Option.none : Option Jvm.ClassFile.FieldType) false cl_285_3 :=
  jm_gc (pu_iast) (sn_iast (jm_dc dc_285_3 0 rfl)) (
  jm_gc (pu_aload _ _) (sn_aload_n (i := 0) (jm_dc dc_285_3 1 rfl)) (
  jm_gc (pu_getA _ _) (sn_getA (jm_dc dc_285_3 2 rfl) fl_11_154 rfl) (
  jm_gc (pu_iload _ _) (sn_iload_n (i := 2) (jm_dc dc_285_3 3 rfl)) (
  jm_gc (pu_aload _ _) (sn_aload_n (i := 0) (jm_dc dc_285_3 4 rfl)) (
  jm_gc (pu_getI _ _) (sn_getI (jm_dc dc_285_3 5 rfl) fl_11_387 (Or.inl rfl)) (
  jm_gc (pu_iast) (sn_iast (jm_dc dc_285_3 6 rfl)) (
  jm_gc (pu_aload _ _) (sn_aload_n (i := 0) (jm_dc dc_285_3 7 rfl)) (
  jm_gc (pu_getA _ _) (sn_getA (jm_dc dc_285_3 8 rfl) fl_11_157 rfl) (
  jm_gc (pu_iload _ _) (sn_iload_n (i := 2) (jm_dc dc_285_3 9 rfl)) (
  jm_gc (pu_aload _ _) (sn_aload_n (i := 0) (jm_dc dc_285_3 10 rfl)) (
  jm_gc (pu_getI _ _) (sn_getI (jm_dc dc_285_3 11 rfl) fl_11_390 (Or.inl rfl)) (
  jm_gc (pu_iast) (sn_iast (jm_dc dc_285_3 12 rfl)) (
  jm_gc (pu_iload _ _) (sn_iload (jm_dc dc_285_3 13 rfl)) (
  jm_gc (pu_ic _ _) (sn_iconst (jm_dc dc_285_3 14 rfl) (by decide)) (
  jm_gc (pu_cne _) (sn_cne (jm_dc dc_285_3 15 rfl) (by decide)) (
  jm_gc (pu_aload _ _) (sn_aload_n (i := 0) (jm_dc dc_285_3 16 rfl)) (
  jm_gc (pu_callV _ _ _) (sn_callV (jm_dc dc_285_3 17 rfl) lk_11_573) (
  jm_gc (pu_goto _) (sn_goto (jm_dc dc_285_3 18 rfl) (by decide)) (
  jm_gc (pu_aload _ _) (sn_aload_n (i := 0) (jm_dc dc_285_3 19 rfl)) (
  jm_gc (pu_iload _ _) (sn_iload_n (i := 3) (jm_dc dc_285_3 20 rfl)) (
  jm_gc (pu_iload _ _) (sn_iload (jm_dc dc_285_3 21 rfl)) (
  jm_gc (pu_ic _ _) (sn_iconst (jm_dc dc_285_3 22 rfl) (by decide)) (
  jm_gc (pu_ic _ _) (sn_iconst (jm_dc dc_285_3 23 rfl) (by decide)) (
  jm_gc (pu_callV _ _ _) (sn_callV (jm_dc dc_285_3 24 rfl) lk_11_576) (
  jm_gn)))))))))))))))))))))))))
theorem dc_285_4 : ([(180, .iinc 8 1, 3), (183, .goto (-149), 3), (186, .iinc 7 1, 3), (189, .goto (-170), 3), (192, .return_, 1)] : List (Nat × Instr × Nat)).all (fun e => decide (decode prog_14_method_117_code e.1 = .ok e.2)) = true := by decide +kernel
abbrev cl_285_4 : List (Nat × jm_O) := [(180, op_iinc 8 1), (183, op_goto 34), (186, op_iinc 7 1), (189, op_goto 19), (192, op_vret)]
set_option maxRecDepth 100000 in
theorem gl_285_4 : jm_gl "FrescoWallModel" prog_14_method_117_code 9 (Option.none : Option Jvm.ClassFile.FieldType) false cl_285_4 :=
  jm_gc (pu_iinc _ _) (sn_iinc (jm_dc dc_285_4 0 rfl) (by decide)) (
  jm_gc (pu_goto _) (sn_goto (jm_dc dc_285_4 1 rfl) (by decide)) (
  jm_gc (pu_iinc _ _) (sn_iinc (jm_dc dc_285_4 2 rfl) (by decide)) (
  jm_gc (pu_goto _) (sn_goto (jm_dc dc_285_4 3 rfl) (by decide)) (
  jm_gc (pu_vret) (sn_vret (jm_dc dc_285_4 4 rfl) rfl) (
  jm_gn)))))
theorem dc_286_0 : ([(0, .iload_n 1, 1), (1, .ifCond .lt 13, 3), (4, .iload_n 1, 1), (5, .iconst 1, 1), (6, .aload_n 0, 1), (7, .getfield 215, 3), (10, .ishl, 1), (11, .if_icmp .lt 6, 3), (14, .bipush (-2), 2), (16, .ireturn, 1), (17, .aload_n 0, 1), (18, .iconst 0, 1), (19, .putfield 561, 3), (22, .iconst 0, 1), (23, .istore_n 2, 1), (24, .iconst 0, 1), (25, .istore_n 3, 1), (26, .iload_n 3, 1), (27, .aload_n 0, 1), (28, .getfield 215, 3), (31, .if_icmp .ge 33, 3), (34, .iload_n 1, 1), (35, .iload_n 3, 1), (36, .ishr, 1), (37, .iconst 1, 1)] : List (Nat × Instr × Nat)).all (fun e => decide (decode prog_14_method_118_code e.1 = .ok e.2)) = true := by decide +kernel
abbrev cl_286_0 : List (Nat × jm_O) := [(0, op_iload 1 1), (1, op_iflt 14), (4, op_iload 1 1), (5, op_ic 1 1), (6, op_aload 0 1), (7, op_getI 11 3), (10, op_ibin (fun x y => x <<< (y &&& 31))), (11, op_clt 17), (14, op_ic (-2) 2), (16, op_iret), (17, op_aload 0 1), (18, op_ic 0 1), (19, op_putI 11 72), (22, op_ic 0 1), (23, op_istore 2 1), (24, op_ic 0 1), (25, op_istore 3 1), (26, op_iload 3 1), (27, op_aload 0 1), (28, op_getI 11 3), (31, op_cge 64), (34, op_iload 1 1), (35, op_iload 3 1), (36, op_ibin (fun x y => x >>> (y &&& 31))), (37, op_ic 1 1)]
set_option maxRecDepth 100000 in
theorem gl_286_0 : jm_gl "FrescoWallModel" prog_14_method_118_code 4 (Option.some Jvm.ClassFile.FieldType.int) false cl_286_0 :=
  jm_gc (pu_iload _ _) (sn_iload_n (i := 1) (jm_dc dc_286_0 0 rfl)) (
  jm_gc (pu_iflt _) (sn_iflt (jm_dc dc_286_0 1 rfl) (by decide)) (
  jm_gc (pu_iload _ _) (sn_iload_n (i := 1) (jm_dc dc_286_0 2 rfl)) (
  jm_gc (pu_ic _ _) (sn_iconst (jm_dc dc_286_0 3 rfl) (by decide)) (
  jm_gc (pu_aload _ _) (sn_aload_n (i := 0) (jm_dc dc_286_0 4 rfl)) (
  jm_gc (pu_getI _ _) (sn_getI (jm_dc dc_286_0 5 rfl) fl_11_215 (Or.inl rfl)) (
  jm_gc (pu_ibin _) (sn_ishl (jm_dc dc_286_0 6 rfl)) (
  jm_gc (pu_clt _) (sn_clt (jm_dc dc_286_0 7 rfl) (by decide)) (
  jm_gc (pu_ic _ _) (sn_bipush (jm_dc dc_286_0 8 rfl) (by decide)) (
  jm_gc (pu_iret) (sn_iret (jm_dc dc_286_0 9 rfl) rfl) (
  jm_gc (pu_aload _ _) (sn_aload_n (i := 0) (jm_dc dc_286_0 10 rfl)) (
  jm_gc (pu_ic _ _) (sn_iconst (jm_dc dc_286_0 11 rfl) (by decide)) (
  jm_gc (pu_putI _ _) (sn_putI (jm_dc dc_286_0 12 rfl) flw_11_561 rfl) (
  jm_gc (pu_ic _ _) (sn_iconst (jm_dc dc_286_0 13 rfl) (by decide)) (
  jm_gc (pu_istore _ _) (sn_istore_n (i := 2) (jm_dc dc_286_0 14 rfl)) (
  jm_gc (pu_ic _ _) (sn_iconst (jm_dc dc_286_0 15 rfl) (by decide)) (
  jm_gc (pu_istore _ _) (sn_istore_n (i := 3) (jm_dc dc_286_0 16 rfl)) (
  jm_gc (pu_iload _ _) (sn_iload_n (i := 3) (jm_dc dc_286_0 17 rfl)) (
  jm_gc (pu_aload _ _) (sn_aload_n (i := 0) (jm_dc dc_286_0 18 rfl)) (
  jm_gc (pu_getI _ _) (sn_getI (jm_dc dc_286_0 19 rfl) fl_11_215 (Or.inl rfl)) (
  jm_gc (pu_cge _) (sn_cge (jm_dc dc_286_0 20 rfl) (by decide)) (
  jm_gc (pu_iload _ _) (sn_iload_n (i := 1) (jm_dc dc_286_0 21 rfl)) (
  jm_gc (pu_iload _ _) (sn_iload_n (i := 3) (jm_dc dc_286_0 22 rfl)) (
  jm_gc (pu_ibin _) (sn_ishr (jm_dc dc_286_0 23 rfl)) (
  jm_gc (pu_ic _ _) (sn_iconst (jm_dc dc_286_0 24 rfl) (by decide)) (
  jm_gn)))))))))))))))))))))))))
theorem dc_286_1 : ([(38, .iand, 1), (39, .iconst 1, 1), (40, .if_icmp .ne 18, 3), (43, .iload_n 2, 1), (44, .iconst 3, 1), (45, .if_icmp .ge 10, 3), (48, .aload_n 0, 1), (49, .getfield 148, 3), (52, .iload_n 2, 1), (53, .iload_n 3, 1), (54, .iastore, 1), (55, .iinc 2 1, 3), (58, .iinc 3 1, 3), (61, .goto (-35), 3), (64, .iload_n 2, 1), (65, .iconst 2, 1), (66, .iconst 3, 1), (67, .invokestatic 218, 3), (70, .ifCond .ne 6, 3), (73, .bipush (-2), 2), (75, .ireturn, 1), (76, .aload_n 0, 1), (77, .iload_n 2, 1), (78, .putfield 561, 3), (81, .aload_n 0, 1)] : List (Nat × Instr × Nat)).all (fun e => decide (decode prog_14_method_118_code e.1 = .ok e.2)) = true := by decide +kernel
abbrev cl_286_1 : List (Nat × jm_O) := [(38, op_ibin (fun x y => x &&& y)), (39, op_ic 1 1), (40, op_cne 58), (43, op_iload 2 1), (44, op_ic 3 1), (45, op_cge 55), (48, op_aload 0 1), (49, op_getA 11 68), (52, op_iload 2 1), (53, op_iload 3 1), (54, op_iast), (55, op_iinc 2 1), (58, op_iinc 3 1), (61, op_goto 26), (64, op_iload 2 1), (65, op_ic 2 1), (66, op_ic 3 1), (67, op_callS 171 3), (70, op_ifne 76), (73, op_ic (-2) 2), (75, op_iret), (76, op_aload 0 1), (77, op_iload 2 1), (78, op_putI 11 72), (81, op_aload 0 1)]
set_option maxRecDepth 100000 in
theorem gl_286_1 : jm_gl "FrescoWallModel" prog_14_method_118_code 4 (Option.some Jvm.ClassFile.FieldType.int) false cl_286_1 :=
  jm_gc (pu_ibin _) (sn_iand (jm_dc dc_286_1 0 rfl)) (
  jm_gc (pu_ic _ _) (sn_iconst (jm_dc dc_286_1 1 rfl) (by decide)) (
  jm_gc (pu_cne _) (sn_cne (jm_dc dc_286_1 2 rfl) (by decide)) (
  jm_gc (pu_iload _ _) (sn_iload_n (i := 2) (jm_dc dc_286_1 3 rfl)) (
  jm_gc (pu_ic _ _) (sn_iconst (jm_dc dc_286_1 4 rfl) (by decide)) (
  jm_gc (pu_cge _) (sn_cge (jm_dc dc_286_1 5 rfl) (by decide)) (
  jm_gc (pu_aload _ _) (sn_aload_n (i := 0) (jm_dc dc_286_1 6 rfl)) (
  jm_gc (pu_getA _ _) (sn_getA (jm_dc dc_286_1 7 rfl) fl_11_148 rfl) (
  jm_gc (pu_iload _ _) (sn_iload_n (i := 2) (jm_dc dc_286_1 8 rfl)) (
  jm_gc (pu_iload _ _) (sn_iload_n (i := 3) (jm_dc dc_286_1 9 rfl)) (
  jm_gc (pu_iast) (sn_iast (jm_dc dc_286_1 10 rfl)) (
  jm_gc (pu_iinc _ _) (sn_iinc (jm_dc dc_286_1 11 rfl) (by decide)) (
  jm_gc (pu_iinc _ _) (sn_iinc (jm_dc dc_286_1 12 rfl) (by decide)) (
  jm_gc (pu_goto _) (sn_goto (jm_dc dc_286_1 13 rfl) (by decide)) (
  jm_gc (pu_iload _ _) (sn_iload_n (i := 2) (jm_dc dc_286_1 14 rfl)) (
  jm_gc (pu_ic _ _) (sn_iconst (jm_dc dc_286_1 15 rfl) (by decide)) (
  jm_gc (pu_ic _ _) (sn_iconst (jm_dc dc_286_1 16 rfl) (by decide)) (
  jm_gc (pu_callS _ _) (sn_callS (jm_dc dc_286_1 17 rfl) lk_11_218) (
  jm_gc (pu_ifne _) (sn_ifne (jm_dc dc_286_1 18 rfl) (by decide)) (
  jm_gc (pu_ic _ _) (sn_bipush (jm_dc dc_286_1 19 rfl) (by decide)) (
  jm_gc (pu_iret) (sn_iret (jm_dc dc_286_1 20 rfl) rfl) (
  jm_gc (pu_aload _ _) (sn_aload_n (i := 0) (jm_dc dc_286_1 21 rfl)) (
  jm_gc (pu_iload _ _) (sn_iload_n (i := 2) (jm_dc dc_286_1 22 rfl)) (
  jm_gc (pu_putI _ _) (sn_putI (jm_dc dc_286_1 23 rfl) flw_11_561 rfl) (
  jm_gc (pu_aload _ _) (sn_aload_n (i := 0) (jm_dc dc_286_1 24 rfl)) (
  jm_gn)))))))))))))))))))))))))
theorem dc_286_2 : ([(82, .iconst (-1), 1), (83, .putfield 567, 3), (86, .aload_n 0, 1), (87, .getfield 151, 3), (90, .iconst 0, 1), (91, .iconst 0, 1), (92, .iastore, 1), (93, .aload_n 0, 1), (94, .getfield 154, 3), (97, .iconst 0, 1), (98, .iconst 0, 1), (99, .iastore, 1), (100, .aload_n 0, 1), (101, .getfield 157, 3), (104, .iconst 0, 1), (105, .iconst 0, 1), (106, .iastore, 1), (107, .iload_n 2, 1), (108, .iconst 2, 1), (109, .if_icmp .ne 14, 3), (112, .aload_n 0, 1), (113, .iconst 0, 1), (114, .iconst 1, 1), (115, .iconst (-1), 1), (116, .iconst (-1), 1)] : List (Nat × Instr × Nat)).all (fun e => decide (decode prog_14_method_118_code e.1 = .ok e.2)) = true := by decide +kernel
abbrev cl_286_2 : List (Nat × jm_O) := [(82, op_ic (-1) 1), (83, op_putI 11 73), (86, op_aload 0 1), (87, op_getA 11 69), (90, op_ic 0 1), (91, op_ic 0 1), (92, op_iast), (93, op_aload 0 1), (94, op_getA 11 70), (97, op_ic 0 1), (98, op_ic 0 1), (99, op_iast), (100, op_aload 0 1), (101, op_getA 11 71), (104, op_ic 0 1), (105, op_ic 0 1), (106, op_iast), (107, op_iload 2 1), (108, op_ic 2 1), (109, op_cne 123), (112, op_aload 0 1), (113, op_ic 0 1), (114, op_ic 1 1), (115, op_ic (-1) 1), (116, op_ic (-1) 1)]
set_option maxRecDepth 100000 in
theorem gl_286_2 : jm_gl "FrescoWallModel" prog_14_method_118_code 4 (Option.some Jvm.ClassFile.FieldType.int) false cl_286_2 :=
  jm_gc (pu_ic _ _) (sn_iconst (jm_dc dc_286_2 0 rfl) (by decide)) (
  jm_gc (pu_putI _ _) (sn_putI (jm_dc dc_286_2 1 rfl) flw_11_567 rfl) (
  jm_gc (pu_aload _ _) (sn_aload_n (i := 0) (jm_dc dc_286_2 2 rfl)) (
  jm_gc (pu_getA _ _) (sn_getA (jm_dc dc_286_2 3 rfl) fl_11_151 rfl) (
  jm_gc (pu_ic _ _) (sn_iconst (jm_dc dc_286_2 4 rfl) (by decide)) (
  jm_gc (pu_ic _ _) (sn_iconst (jm_dc dc_286_2 5 rfl) (by decide)) (
  jm_gc (pu_iast) (sn_iast (jm_dc dc_286_2 6 rfl)) (
  jm_gc (pu_aload _ _) (sn_aload_n (i := 0) (jm_dc dc_286_2 7 rfl)) (
  jm_gc (pu_getA _ _) (sn_getA (jm_dc dc_286_2 8 rfl) fl_11_154 rfl) (
  jm_gc (pu_ic _ _) (sn_iconst (jm_dc dc_286_2 9 rfl) (by decide)) (
  jm_gc (pu_ic _ _) (sn_iconst (jm_dc dc_286_2 10 rfl) (by decide)) (
  jm_gc (pu_iast) (sn_iast (jm_dc dc_286_2 11 rfl)) (
  jm_gc (pu_aload _ _) (sn_aload_n (i := 0) (jm_dc dc_286_2 12 rfl)) (
  jm_gc (pu_getA _ _) (sn_getA (jm_dc dc_286_2 13 rfl) fl_11_157 rfl) (
  jm_gc (pu_ic _ _) (sn_iconst (jm_dc dc_286_2 14 rfl) (by decide)) (
  jm_gc (pu_ic _ _) (sn_iconst (jm_dc dc_286_2 15 rfl) (by decide)) (
  jm_gc (pu_iast) (sn_iast (jm_dc dc_286_2 16 rfl)) (
  jm_gc (pu_iload _ _) (sn_iload_n (i := 2) (jm_dc dc_286_2 17 rfl)) (
  jm_gc (pu_ic _ _) (sn_iconst (jm_dc dc_286_2 18 rfl) (by decide)) (
  jm_gc (pu_cne _) (sn_cne (jm_dc dc_286_2 19 rfl) (by decide)) (
  jm_gc (pu_aload _ _) (sn_aload_n (i := 0) (jm_dc dc_286_2 20 rfl)) (
  jm_gc (pu_ic _ _) (sn_iconst (jm_dc dc_286_2 21 rfl) (by decide)) (
  jm_gc (pu_ic _ _) (sn_iconst (jm_dc dc_286_2 22 rfl) (by decide)) (
  jm_gc (pu_ic _ _) (sn_iconst (jm_dc dc_286_2 23 rfl) (by decide)) (
  jm_gc (pu_ic _ _) (sn_iconst (jm_dc dc_286_2 24 rfl) (by decide)) (
  jm_gn)))))))))))))))))))))))))
theorem dc_286_3 : ([(117, .invokevirtual 576, 3), (120, .goto 27, 3), (123, .aload_n 0, 1), (124, .iconst 0, 1), (125, .iconst 1, 1), (126, .iconst 0, 1), (127, .iconst 2, 1), (128, .invokevirtual 576, 3), (131, .aload_n 0, 1), (132, .iconst 0, 1), (133, .iconst 1, 1), (134, .iconst 1, 1), (135, .iconst 2, 1), (136, .invokevirtual 576, 3), (139, .aload_n 0, 1), (140, .iconst 0, 1), (141, .iconst 2, 1), (142, .iconst 2, 1), (143, .iconst 1, 1), (144, .invokevirtual 576, 3), (147, .aload_n 0, 1), (148, .getfield 567, 3), (151, .iconst (-1), 1), (152, .if_icmp .ne 6, 3), (155, .bipush (-5), 2)] : List (Nat × Instr × Nat)).all (fun e => decide (decode prog_14_method_118_code e.1 = .ok e.2)) = true := by decide +kernel
abbrev cl_286_3 : List (Nat × jm_O) := [(117, op_callV 11 285 5), (120, op_goto 147), (123, op_aload 0 1), (124, op_ic 0 1), (125, op_ic 1 1), (126, op_ic 0 1), (127, op_ic 2 1), (128, op_callV 11 285 5), (131, op_aload 0 1), (132, op_ic 0 1), (133, op_ic 1 1), (134, op_ic 1 1), (135, op_ic 2 1), (136, op_callV 11 285 5), (139, op_aload 0 1), (140, op_ic 0 1), (141, op_ic 2 1), (142, op_ic 2 1), (143, op_ic 1 1), (144, op_callV 11 285 5), (147, op_aload 0 1), (148, op_getI 11 73), (151, op_ic (-1) 1), (152, op_cne 158), (155, op_ic (-5) 2)]
set_option maxRecDepth 100000 in
theorem gl_286_3 : jm_gl "FrescoWallModel" prog_14_method_118_code 4 (Option.some Jvm.ClassFile.FieldType.int) false cl_286_3 :=
  jm_gc (pu_callV _ _ _) (sn_callV (jm_dc dc_286_3 0 rfl) lk_11_576) (
  jm_gc (pu_goto _) (sn_goto (jm_dc dc_286_3 1 rfl) (by decide)) (
  jm_gc (pu_aload _ _) (sn_aload_n (i := 0) (jm_dc dc_286_3 2 rfl)) (
  jm_gc (pu_ic _ _) (sn_iconst (jm_dc dc_286_3 3 rfl) (by decide)) (
  jm_gc (pu_ic _ _) (sn_iconst (jm_dc dc_286_3 4 rfl) (by decide)) (
  jm_gc (pu_ic _ _) (sn_iconst (jm_dc dc_286_3 5 rfl) (by decide)) (
  jm_gc (pu_ic _ _) (sn_iconst (jm_dc dc_286_3 6 rfl) (by decide)) (
  jm_gc (pu_callV _ _ _) (sn_callV (jm_dc dc_286_3 7 rfl) lk_11_576) (
  jm_gc (pu_aload _ _) (sn_aload_n (i := 0) (jm_dc dc_286_3 8 rfl)) (
  jm_gc (pu_ic _ _) (sn_iconst (jm_dc dc_286_3 9 rfl) (by decide)) (
  jm_gc (pu_ic _ _) (sn_iconst (jm_dc dc_286_3 10 rfl) (by decide)) (
  jm_gc (pu_ic _ _) (sn_iconst (jm_dc dc_286_3 11 rfl) (by decide)) (
  jm_gc (pu_ic _ _) (sn_iconst (jm_dc dc_286_3 12 rfl) (by decide)) (
  jm_gc (pu_callV _ _ _) (sn_callV (jm_dc dc_286_3 13 rfl) lk_11_576) (
  jm_gc (pu_aload _ _) (sn_aload_n (i := 0) (jm_dc dc_286_3 14 rfl)) (
  jm_gc (pu_ic _ _) (sn_iconst (jm_dc dc_286_3 15 rfl) (by decide)) (
  jm_gc (pu_ic _ _) (sn_iconst (jm_dc dc_286_3 16 rfl) (by decide)) (
  jm_gc (pu_ic _ _) (sn_iconst (jm_dc dc_286_3 17 rfl) (by decide)) (
  jm_gc (pu_ic _ _) (sn_iconst (jm_dc dc_286_3 18 rfl) (by decide)) (
  jm_gc (pu_callV _ _ _) (sn_callV (jm_dc dc_286_3 19 rfl) lk_11_576) (
  jm_gc (pu_aload _ _) (sn_aload_n (i := 0) (jm_dc dc_286_3 20 rfl)) (
  jm_gc (pu_getI _ _) (sn_getI (jm_dc dc_286_3 21 rfl) fl_11_567 (Or.inl rfl)) (
  jm_gc (pu_ic _ _) (sn_iconst (jm_dc dc_286_3 22 rfl) (by decide)) (
  jm_gc (pu_cne _) (sn_cne (jm_dc dc_286_3 23 rfl) (by decide)) (
  jm_gc (pu_ic _ _) (sn_bipush (jm_dc dc_286_3 24 rfl) (by decide)) (
  jm_gn)))))))))))))))))))))))))
theorem dc_286_4 : ([(157, .ireturn, 1), (158, .aload_n 0, 1), (159, .iload_n 2, 1), (160, .putfield 579, 3), (163, .iconst 0, 1), (164, .istore_n 3, 1), (165, .iload_n 3, 1), (166, .iload_n 2, 1), (167, .if_icmp .ge 57, 3), (170, .aload_n 0, 1), (171, .getfield 169, 3), (174, .iload_n 3, 1), (175, .aload_n 0, 1), (176, .getfield 148, 3), (179, .iload_n 3, 1), (180, .iaload, 1), (181, .iastore, 1), (182, .aload_n 0, 1), (183, .getfield 172, 3), (186, .iload_n 3, 1), (187, .aload_n 0, 1), (188, .getfield 160, 3), (191, .iload_n 3, 1), (192, .iaload, 1), (193, .iastore, 1)] : List (Nat × Instr × Nat)).all (fun e => decide (decode prog_14_method_118_code e.1 = .ok e.2)) = true := by decide +kernel
abbrev cl_286_4 : List (Nat × jm_O) := [(157, op_iret), (158, op_aload 0 1), (159, op_iload 2 1), (160, op_putI 11 77), (163, op_ic 0 1), (164, op_istore 3 1), (165, op_iload 3 1), (166, op_iload 2 1), (167, op_cge 224), (170, op_aload 0 1), (171, op_getA 11 78), (174, op_iload 3 1), (175, op_aload 0 1), (176, op_getA 11 68), (179, op_iload 3 1), (180, op_iald 13), (181, op_iast), (182, op_aload 0 1), (183, op_getA 11 79), (186, op_iload 3 1), (187, op_aload 0 1), (188, op_getA 11 74), (191, op_iload 3 1), (192, op_iald 13), (193, op_iast)]
set_option maxRecDepth 100000 in
theorem gl_286_4 : jm_gl "FrescoWallModel" prog_14_method_118_code 4 (Option.some Jvm.ClassFile.FieldType.int) false cl_286_4 :=
  jm_gc (pu_iret) (sn_iret (jm_dc dc_286_4 0 rfl) rfl) (
  jm_gc (pu_aload _ _) (sn_aload_n (i := 0) (jm_dc dc_286_4 1 rfl)) (
  jm_gc (pu_iload _ _) (sn_iload_n (i := 2) (jm_dc dc_286_4 2 rfl)) (
  jm_gc (pu_putI _ _) (sn_putI (jm_dc dc_286_4 3 rfl) flw_11_579 rfl) (
  jm_gc (pu_ic _ _) (sn_iconst (jm_dc dc_286_4 4 rfl) (by decide)) (
  jm_gc (pu_istore _ _) (sn_istore_n (i := 3) (jm_dc dc_286_4 5 rfl)) (
  jm_gc (pu_iload _ _) (sn_iload_n (i := 3) (jm_dc dc_286_4 6 rfl)) (
  jm_gc (pu_iload _ _) (sn_iload_n (i := 2) (jm_dc dc_286_4 7 rfl)) (
  jm_gc (pu_cge _) (sn_cge (jm_dc dc_286_4 8 rfl) (by decide)) (
  jm_gc (pu_aload _ _) (sn_aload_n (i := 0) (jm_dc dc_286_4 9 rfl)) (
  jm_gc (pu_getA _ _) (sn_getA (jm_dc dc_286_4 10 rfl) fl_11_169 rfl) (
  jm_gc (pu_iload _ _) (sn_iload_n (i := 3) (jm_dc dc_286_4 11 rfl)) (
  jm_gc (pu_aload _ _) (sn_aload_n (i := 0) (jm_dc dc_286_4 12 rfl)) (
  jm_gc (pu_getA _ _) (sn_getA (jm_dc dc_286_4 13 rfl) fl_11_148 rfl) (
  jm_gc (pu_iload _ _) (sn_iload_n (i := 3) (jm_dc dc_286_4 14 rfl)) (
  jm_gc (pu_iald _) (sn_iald (jm_dc dc_286_4 15 rfl)) (
  jm_gc (pu_iast) (sn_iast (jm_dc dc_286_4 16 rfl)) (
  jm_gc (pu_aload _ _) (sn_aload_n (i := 0) (jm_dc dc_286_4 17 rfl)) (
  jm_gc (pu_getA _ _) (sn_getA (jm_dc dc_286_4 18 rfl) fl_11_172 rfl) (
  jm_gc (pu_iload _ _) (sn_iload_n (i := 3) (jm_dc dc_286_4 19 rfl)) (
  jm_gc (pu_aload _ _) (sn_aload_n (i := 0) (jm_dc dc_286_4 20 rfl)) (
  jm_gc (pu_getA _ _) (sn_getA (jm_dc dc_286_4 21 rfl) fl_11_160 rfl) (
  jm_gc (pu_iload _ _) (sn_iload_n (i := 3) (jm_dc dc_286_4 22 rfl)) (
  jm_gc (pu_iald _) (sn_iald (jm_dc dc_286_4 23 rfl)) (
  jm_gc (pu_iast) (sn_iast (jm_dc dc_286_4 24 rfl)) (
  jm_gn)))))))))))))))))))))))))
theorem dc_286_5 : ([(194, .aload_n 0, 1), (195, .getfield 175, 3), (198, .iload_n 3, 1), (199, .aload_n 0, 1), (200, .getfield 163, 3), (203, .iload_n 3, 1), (204, .iaload, 1), (205, .iastore, 1), (206, .aload_n 0, 1), (207, .getfield 178, 3), (210, .iload_n 3, 1), (211, .aload_n 0, 1), (212, .getfield 166, 3), (215, .iload_n 3, 1), (216, .iaload, 1), (217, .iastore, 1), (218, .iinc 3 1, 3), (221, .goto (-56), 3), (224, .aload_n 0, 1), (225, .getfield 567, 3), (228, .ireturn, 1)] : List (Nat × Instr × Nat)).all (fun e => decide (decode prog_14_method_118_code e.1 = .ok e.2)) = true := by decide +kernel
abbrev cl_286_5 : List (Nat × jm_O) := [(194, op_aload 0 1), (195, op_getA 11 80), (198, op_iload 3 1), (199, op_aload 0 1), (200, op_getA 11 75), (203, op_iload 3 1), (204, op_iald 13), (205, op_iast), (206, op_aload 0 1), (207, op_getA 11 81), (210, op_iload 3 1), (211, op_aload 0 1), (212, op_getA 11 76), (215, op_iload 3 1), (216, op_iald 13), (217, op_iast), (218, op_iinc 3 1), (221, op_goto 165), (224, op_aload 0 1), (225, op_getI 11 73), (228, op_iret)]
set_option maxRecDepth 100000 in
theorem gl_286_5 : jm_gl "FrescoWallModel" prog_14_method_118_code 4 (Option.some Jvm.ClassFile.FieldType.int) false cl_286_5 :=
  jm_gc (pu_aload _ _) (sn_aload_n (i := 0) (jm_dc dc_286_5 0 rfl)) (
  jm_gc (pu_getA _ _) (sn_getA (jm_dc dc_286_5 1 rfl) fl_11_175 rfl) (
  jm_gc (pu_iload _ _) (sn_iload_n (i := 3) (jm_dc dc_286_5 2 rfl)) (
  jm_gc (pu_aload _ _) (sn_aload_n (i := 0) (jm_dc dc_286_5 3 rfl)) (
  jm_gc (pu_getA _ _) (sn_getA (jm_dc dc_286_5 4 rfl) fl_11_163 rfl) (
  jm_gc (pu_iload _ _) (sn_iload_n (i := 3) (jm_dc dc_286_5 5 rfl)) (
  jm_gc (pu_iald _) (sn_iald (jm_dc dc_286_5 6 rfl)) (
  jm_gc (pu_iast) (sn_iast (jm_dc dc_286_5 7 rfl)) (
  jm_gc (pu_aload _ _) (sn_aload_n (i := 0) (jm_dc dc_286_5 8 rfl)) (
  jm_gc (pu_getA _ _) (sn_getA (jm_dc dc_286_5 9 rfl) fl_11_178 rfl) (
  jm_gc (pu_iload _ _) (sn_iload_n (i := 3) (jm_dc dc_286_5 10 rfl)) (
  jm_gc (pu_aload _ _) (sn_aload_n (i := 0) (jm_dc dc_286_5 11 rfl)) (
  jm_gc (pu_getA _ _) (sn_getA (jm_dc dc_286_5 12 rfl) fl_11_166 rfl) (
  jm_gc (pu_iload _ _) (sn_iload_n (i := 3) (jm_dc dc_286_5 13 rfl)) (
  jm_gc (pu_iald _) (sn_iald (jm_dc dc_286_5 14 rfl)) (
  jm_gc (pu_iast) (sn_iast (jm_dc dc_286_5 15 rfl)) (
  jm_gc (pu_iinc _ _) (sn_iinc (jm_dc dc_286_5 16 rfl) (by decide)) (
  jm_gc (pu_goto _) (sn_goto (jm_dc dc_286_5 17 rfl) (by decide)) (
  jm_gc (pu_aload _ _) (sn_aload_n (i := 0) (jm_dc dc_286_5 18 rfl)) (
  jm_gc (pu_getI _ _) (sn_getI (jm_dc dc_286_5 19 rfl) fl_11_567 (Or.inl rfl)) (
  jm_gc (pu_iret) (sn_iret (jm_dc dc_286_5 20 rfl) rfl) (
  jm_gn)))))))))))))))))))))
theorem dc_287_0 : ([(0, .iconst 0, 1), (1, .istore_n 3, 1), (2, .iload_n 3, 1), (3, .aload_n 0, 1), (4, .getfield 579, 3), (7, .if_icmp .ge 62, 3), (10, .aload_n 0, 1), (11, .getfield 169, 3), (14, .iload_n 3, 1), (15, .iaload, 1), (16, .iload_n 1, 1), (17, .if_icmp .ne 46, 3), (20, .iload_n 2, 1), (21, .iconst 0, 1), (22, .iconst 2, 1), (23, .invokestatic 218, 3), (26, .ifCond .eq 37, 3), (29, .iload_n 2, 1), (30, .ifCond .ne 12, 3), (33, .aload_n 0, 1), (34, .getfield 172, 3), (37, .iload_n 3, 1), (38, .iaload, 1), (39, .goto 23, 3), (42, .iload_n 2, 1)] : List (Nat × Instr × Nat)).all (fun e => decide (decode prog_14_method_119_code e.1 = .ok e.2)) = true := by decide +kernel
abbrev cl_287_0 : List (Nat × jm_O) := [(0, op_ic 0 1), (1, op_istore 3 1), (2, op_iload 3 1), (3, op_aload 0 1), (4, op_getI 11 77), (7, op_cge 69), (10, op_aload 0 1), (11, op_getA 11 78), (14, op_iload 3 1), (15, op_iald 13), (16, op_iload 1 1), (17, op_cne 63), (20, op_iload 2 1), (21, op_ic 0 1), (22, op_ic 2 1), (23, op_callS 171 3), (26, op_ifeq 63), (29, op_iload 2 1), (30, op_ifne 42), (33, op_aload 0 1), (34, op_getA 11 79), (37, op_iload 3 1), (38, op_iald 13), (39, op_goto 62), (42, op_iload 2 1)]
set_option maxRecDepth 100000 in
theorem gl_287_0 : jm_gl "FrescoWallModel" prog_14_method_119_code 4 (Option.some Jvm.ClassFile.FieldType.int) false cl_287_0 :=
  jm_gc (pu_ic _ _) (sn_iconst (jm_dc dc_287_0 0 rfl) (by decide)) (
  jm_gc (pu_istore _ _) (sn_istore_n (i := 3) (jm_dc dc_287_0 1 rfl)) (
  jm_gc (pu_iload _ _) (sn_iload_n (i := 3) (jm_dc dc_287_0 2 rfl)) (
  jm_gc (pu_aload _ _) (sn_aload_n (i := 0) (jm_dc dc_287_0 3 rfl)) (
  jm_gc (pu_getI _ _) (sn_getI (jm_dc dc_287_0 4 rfl) fl_11_579 (Or.inl rfl)) (
  jm_gc (pu_cge _) (sn_cge (jm_dc dc_287_0 5 rfl) (by decide)) (
  jm_gc (pu_aload _ _) (sn_aload_n (i := 0) (jm_dc dc_287_0 6 rfl)) (
  jm_gc (pu_getA _ _) (sn_getA (jm_dc dc_287_0 7 rfl) fl_11_169 rfl) (
  jm_gc (pu_iload _ _) (sn_iload_n (i := 3) (jm_dc dc_287_0 8 rfl)) (
  jm_gc (pu_iald _) (sn_iald (jm_dc dc_287_0 9 rfl)) (
  jm_gc (pu_iload _ _) (sn_iload_n (i := 1) (jm_dc dc_287_0 10 rfl)) (
  jm_gc (pu_cne _) (sn_cne (jm_dc dc_287_0 11 rfl) (by decide)) (
  jm_gc (pu_iload _ _) (sn_iload_n (i := 2) (jm_dc dc_287_0 12 rfl)) (
  jm_gc (pu_ic _ _) (sn_iconst (jm_dc dc_287_0 13 rfl) (by decide)) (
  jm_gc (pu_ic _ _) (sn_iconst (jm_dc dc_287_0 14 rfl) (by decide)) (
  jm_gc (pu_callS _ _) (sn_callS (jm_dc dc_287_0 15 rfl) lk_11_218) (
  jm_gc (pu_ifeq _) (sn_ifeq (jm_dc dc_287_0 16 rfl) (by decide)) (
  jm_gc (pu_iload _ _) (sn_iload_n (i := 2) (jm_dc dc_287_0 17 rfl)) (
  jm_gc (pu_ifne _) (sn_ifne (jm_dc dc_287_0 18 rfl) (by decide)) (
  jm_gc (pu_aload _ _) (sn_aload_n (i := 0) (jm_dc dc_287_0 19 rfl)) (
  jm_gc (pu_getA _ _) (sn_getA (jm_dc dc_287_0 20 rfl) fl_11_172 rfl) (
  jm_gc (pu_iload _ _) (sn_iload_n (i := 3) (jm_dc dc_287_0 21 rfl)) (
  jm_gc (pu_iald _) (sn_iald (jm_dc dc_287_0 22 rfl)) (
  jm_gc (pu_goto _) (sn_goto (jm_dc dc_287_0 23 rfl) (by decide)) (
  jm_gc (pu_iload _ _) (sn_iload_n (i := 2) (jm_dc dc_287_0 24 rfl)) (
  jm_gn)))))))))))))))))))))))))
theorem dc_287_1 : ([(43, .iconst 1, 1), (44, .if_icmp .ne 12, 3), (47, .aload_n 0, 1), (48, .getfield 175, 3), (51, .iload_n 3, 1), (52, .iaload, 1), (53, .goto 9, 3), (56, .aload_n 0, 1), (57, .getfield 178, 3), (60, .iload_n 3, 1), (61, .iaload, 1), (62, .ireturn, 1), (63, .iinc 3 1, 3), (66, .goto (-64), 3), (69, .ldc_w 334, 3), (72, .ireturn, 1)] : List (Nat × Instr × Nat)).all (fun e => decide (decode prog_14_method_119_code e.1 = .ok e.2)) = true := by decide +kernel
abbrev cl_287_1 : List (Nat × jm_O) := [(43, op_ic 1 1), (44, op_cne 56), (47, op_aload 0 1), (48, op_getA 11 80), (51, op_iload 3 1), (52, op_iald 13), (53, op_goto 62), (56, op_aload 0 1), (57, op_getA 11 81), (60, op_iload 3 1), (61, op_iald 13), (62, op_iret), (63, op_iinc 3 1), (66, op_goto 2), (69, op_ic (-100000) 3), (72, op_iret)]
set_option maxRecDepth 100000 in
theorem gl_287_1 : jm_gl "FrescoWallModel" prog_14_method_119_code 4 (Option.some Jvm.ClassFile.FieldType.int) false cl_287_1 :=
  jm_gc (pu_ic _ _) (sn_iconst (jm_dc dc_287_1 0 rfl) (by decide)) (
  jm_gc (pu_cne _) (sn_cne (jm_dc dc_287_1 1 rfl) (by decide)) (
  jm_gc (pu_aload _ _) (sn_aload_n (i := 0) (jm_dc dc_287_1 2 rfl)) (
  jm_gc (pu_getA _ _) (sn_getA (jm_dc dc_287_1 3 rfl) fl_11_175 rfl) (
  jm_gc (pu_iload _ _) (sn_iload_n (i := 3) (jm_dc dc_287_1 4 rfl)) (
  jm_gc (pu_iald _) (sn_iald (jm_dc dc_287_1 5 rfl)) (
  jm_gc (pu_goto _) (sn_goto (jm_dc dc_287_1 6 rfl) (by decide)) (
  jm_gc (pu_aload _ _) (sn_aload_n (i := 0) (jm_dc dc_287_1 7 rfl)) (
  jm_gc (pu_getA _ _) (sn_getA (jm_dc dc_287_1 8 rfl) fl_11_178 rfl) (
  jm_gc (pu_iload _ _) (sn_iload_n (i := 3) (jm_dc dc_287_1 9 rfl)) (
  jm_gc (pu_iald _) (sn_iald (jm_dc dc_287_1 10 rfl)) (
  jm_gc (pu_iret) (sn_iret (jm_dc dc_287_1 11 rfl) rfl) (
  jm_gc (pu_iinc _ _) (sn_iinc (jm_dc dc_287_1 12 rfl) (by decide)) (
  jm_gc (pu_goto _) (sn_goto (jm_dc dc_287_1 13 rfl) (by decide)) (
  jm_gc (pu_ic _ _) (sn_ldcw (jm_dc dc_287_1 14 rfl) (kc_tb 1700 (by decide +kernel))) (
  jm_gc (pu_iret) (sn_iret (jm_dc dc_287_1 15 rfl) rfl) (
  jm_gn))))))))))))))))
theorem dc_288_0 : ([(0, .aload_n 0, 1), (1, .getfield 582, 3), (4, .istore_n 2, 1), (5, .iload_n 1, 1), (6, .tableswitch 258 99 119 #[148, 258, 134, 258, 217, 258, 258, 155, 258, 258, 258, 141, 258, 127, 258, 258, 105, 98, 258, 243, 228], 98), (104, .aload_n 0, 1), (105, .getfield 37, 3), (108, .iload_n 2, 1), (109, .iaload, 1), (110, .ireturn, 1), (111, .aload_n 0, 1), (112, .getfield 40, 3), (115, .iload_n 2, 1), (116, .iaload, 1), (117, .iconst (-1), 1), (118, .if_icmp .ne 8, 3), (121, .bipush 9, 2), (123, .goto 9, 3), (126, .aload_n 0, 1), (127, .getfield 40, 3), (130, .iload_n 2, 1), (131, .iaload, 1), (132, .ireturn, 1), (133, .aload_n 0, 1), (134, .getfield 43, 3)] : List (Nat × Instr × Nat)).all (fun e => decide (decode prog_14_method_120_code e.1 = .ok e.2)) = true := by decide +kernel
abbrev cl_288_0 : List (Nat × jm_O) := [(0, op_aload 0 1), (1, op_getI 11 86), (4, op_istore 2 1), (5, op_iload 1 1), (6, op_sw 264 [(99, 154), (100, 264), (101, 140), (102, 264), (103, 223), (104, 264), (105, 264), (106, 161), (107, 264), (108, 264), (109, 264), (110, 147), (111, 264), (112, 133), (113, 264), (114, 264), (115, 111), (116, 104), (117, 264), (118, 249), (119, 234)]), (104, op_aload 0 1), (105, op_getA 11 12), (108, op_iload 2 1), (109, op_iald 13), (110, op_iret), (111, op_aload 0 1), (112, op_getA 11 13), (115, op_iload 2 1), (116, op_iald 13), (117, op_ic (-1) 1), (118, op_cne 126), (121, op_ic 9 2), (123, op_goto 132), (126, op_aload 0 1), (127, op_getA 11 13), (130, op_iload 2 1), (131, op_iald 13), (132, op_iret), (133, op_aload 0 1), (134, op_getA 11 14)]
set_option maxRecDepth 100000 in
theorem gl_288_0 : jm_gl "FrescoWallModel" prog_14_method_120_code 5 (Option.some Jvm.ClassFile.FieldType.int) false cl_288_0 :=
  jm_gc (pu_aload _ _) (sn_aload_n (i := 0) (jm_dc dc_288_0 0 rfl)) (
  jm_gc (pu_getI _ _) (sn_getI (jm_dc dc_288_0 1 rfl) fl_11_582 (Or.inl rfl)) (
  jm_gc (pu_istore _ _) (sn_istore_n (i := 2) (jm_dc dc_288_0 2 rfl)) (
  jm_gc (pu_iload _ _) (sn_iload_n (i := 1) (jm_dc dc_288_0 3 rfl)) (
  jm_gc (pu_sw _ _) (sn_tsw (jm_dc dc_288_0 4 rfl) (by decide) (by decide) (by decide)) (
  jm_gc (pu_aload _ _) (sn_aload_n (i := 0) (jm_dc dc_288_0 5 rfl)) (
  jm_gc (pu_getA _ _) (sn_getA (jm_dc dc_288_0 6 rfl) fl_11_37 rfl) (
  jm_gc (pu_iload _ _) (sn_iload_n (i := 2) (jm_dc dc_288_0 7 rfl)) (
  jm_gc (pu_iald _) (sn_iald (jm_dc dc_288_0 8 rfl)) (
  jm_gc (pu_iret) (sn_iret (jm_dc dc_288_0 9 rfl) rfl) (
  jm_gc (pu_aload _ _) (sn_aload_n (i := 0) (jm_dc dc_288_0 10 rfl)) (
  jm_gc (pu_getA _ _) (sn_getA (jm_dc dc_288_0 11 rfl) fl_11_40 rfl) (
  jm_gc (pu_iload _ _) (sn_iload_n (i := 2) (jm_dc dc_288_0 12 rfl)) (
  jm_gc (pu_iald _) (sn_iald (jm_dc dc_288_0 13 rfl)) (
  jm_gc (pu_ic _ _) (sn_iconst (jm_dc dc_288_0 14 rfl) (by decide)) (
  jm_gc (pu_cne _) (sn_cne (jm_dc dc_288_0 15 rfl) (by decide)) (
  jm_gc (pu_ic _ _) (sn_bipush (jm_dc dc_288_0 16 rfl) (by decide)) (
  jm_gc (pu_goto _) (sn_goto (jm_dc dc_288_0 17 rfl) (by decide)) (
  jm_gc (pu_aload _ _) (sn_aload_n (i := 0) (jm_dc dc_288_0 18 rfl)) (
  jm_gc (pu_getA _ _) (sn_getA (jm_dc dc_288_0 19 rfl) fl_11_40 rfl) (
  jm_gc (pu_iload _ _) (sn_iload_n (i := 2) (jm_dc dc_288_0 20 rfl)) (
  jm_gc (pu_iald _) (sn_iald (jm_dc dc_288_0 21 rfl)) (
  jm_gc (pu_iret) (sn_iret (jm_dc dc_288_0 22 rfl) rfl) (
  jm_gc (pu_aload _ _) (sn_aload_n (i := 0) (jm_dc dc_288_0 23 rfl)) (
  jm_gc (pu_getA _ _) (sn_getA (jm_dc dc_288_0 24 rfl) fl_11_43 rfl) (
  jm_gn)))))))))))))))))))))))))
theorem dc_288_1 : ([(137, .iload_n 2, 1), (138, .iaload, 1), (139, .ireturn, 1), (140, .aload_n 0, 1), (141, .getfield 13, 3), (144, .iload_n 2, 1), (145, .iaload, 1), (146, .ireturn, 1), (147, .aload_n 0, 1), (148, .getfield 46, 3), (151, .iload_n 2, 1), (152, .iaload, 1), (153, .ireturn, 1), (154, .aload_n 0, 1), (155, .getfield 25, 3), (158, .iload_n 2, 1), (159, .iaload, 1), (160, .ireturn, 1), (161, .iconst 0, 1), (162, .istore_n 3, 1), (163, .iconst 0, 1), (164, .istore 4, 2), (166, .iload 4, 2), (168, .aload_n 0, 1), (169, .getfield 403, 3)] : List (Nat × Instr × Nat)).all (fun e => decide (decode prog_14_method_120_code e.1 = .ok e.2)) = true := by decide +kernel
abbrev cl_288_1 : List (Nat × jm_O) := [(137, op_iload 2 1), (138, op_iald 13), (139, op_iret), (140, op_aload 0 1), (141, op_getA 11 4), (144, op_iload 2 1), (145, op_iald 13), (146, op_iret), (147, op_aload 0 1), (148, op_getA 11 15), (151, op_iload 2 1), (152, op_iald 13), (153, op_iret), (154, op_aload 0 1), (155, op_getA 11 8), (158, op_iload 2 1), (159, op_iald 13), (160, op_iret), (161, op_ic 0 1), (162, op_istore 3 1), (163, op_ic 0 1), (164, op_istore 4 2), (166, op_iload 4 2), (168, op_aload 0 1), (169, op_getI 11 24)]
set_option maxRecDepth 100000 in
theorem gl_288_1 : jm_gl "FrescoWallModel" prog_14_method_120_code 5 (Option.some Jvm.ClassFile.FieldType.int) false cl_288_1 :=
  jm_gc (pu_iload _ _) (sn_iload_n (i := 2) (jm_dc dc_288_1 0 rfl)) (
  jm_gc (pu_iald _) (sn_iald (jm_dc dc_288_1 1 rfl)) (
  jm_gc (pu_iret) (sn_iret (jm_dc dc_288_1 2 rfl) rfl) (
  jm_gc (pu_aload _ _) (sn_aload_n (i := 0) (jm_dc dc_288_1 3 rfl)) (
  jm_gc (pu_getA _ _) (sn_getA (jm_dc dc_288_1 4 rfl) fl_11_13 rfl) (
  jm_gc (pu_iload _ _) (sn_iload_n (i := 2) (jm_dc dc_288_1 5 rfl)) (
  jm_gc (pu_iald _) (sn_iald (jm_dc dc_288_1 6 rfl)) (
  jm_gc (pu_iret) (sn_iret (jm_dc dc_288_1 7 rfl) rfl) (
  jm_gc (pu_aload _ _) (sn_aload_n (i := 0) (jm_dc dc_288_1 8 rfl)) (
  jm_gc (pu_getA _ _) (sn_getA (jm_dc dc_288_1 9 rfl) fl_11_46 rfl) (
  jm_gc (pu_iload _ _) (sn_iload_n (i := 2) (jm_dc dc_288_1 10 rfl)) (
  jm_gc (pu_iald _) (sn_iald (jm_dc dc_288_1 11 rfl)) (
  jm_gc (pu_iret) (sn_iret (jm_dc dc_288_1 12 rfl) rfl) (
  jm_gc (pu_aload _ _) (sn_aload_n (i := 0) (jm_dc dc_288_1 13 rfl)) (
  jm_gc (pu_getA _ _) (sn_getA (jm_dc dc_288_1 14 rfl) fl_11_25 rfl) (
  jm_gc (pu_iload _ _) (sn_iload_n (i := 2) (jm_dc dc_288_1 15 rfl)) (
  jm_gc (pu_iald _) (sn_iald (jm_dc dc_288_1 16 rfl)) (
  jm_gc (pu_iret) (sn_iret (jm_dc dc_288_1 17 rfl) rfl) (
  jm_gc (pu_ic _ _) (sn_iconst (jm_dc dc_288_1 18 rfl) (by decide)) (
  jm_gc (pu_istore _ _) (sn_istore_n (i := 3) (jm_dc dc_288_1 19 rfl)) (
  jm_gc (pu_ic _ _) (sn_iconst (jm_dc dc_288_1 20 rfl) (by decide)) (
  jm_gc (pu_istore _ _) (sn_istore (jm_dc dc_288_1 21 rfl)) (
  jm_gc (pu_iload _ _) (sn_iload (jm_dc dc_288_1 22 rfl)) (
  jm_gc (pu_aload _ _) (sn_aload_n (i := 0) (jm_dc dc_288_1 23 rfl)) (
  jm_gc (pu_getI _ _) (sn_getI (jm_dc dc_288_1 24 rfl) fl_11_403 (Or.inl rfl)) (
  jm_gn)))))))))))))))))))))))))
theorem dc_288_2 : ([(172, .if_icmp .ge 49, 3), (175, .iload_n 3, 1), (176, .aload_n 0, 1), (177, .getfield 85, 3), (180, .iload 4, 2), (182, .baload, 1), (183, .ifCond .eq 29, 3), (186, .aload_n 0, 1), (187, .getfield 73, 3), (190, .iload 4, 2), (192, .iaload, 1), (193, .iload_n 2, 1), (194, .if_icmp .eq 14, 3), (197, .aload_n 0, 1), (198, .getfield 79, 3), (201, .iload 4, 2), (203, .iaload, 1), (204, .iload_n 2, 1), (205, .if_icmp .ne 7, 3), (208, .iconst 1, 1), (209, .goto 4, 3), (212, .iconst 0, 1), (213, .iadd, 1), (214, .istore_n 3, 1), (215, .iinc 4 1, 3)] : List (Nat × Instr × Nat)).all (fun e => decide (decode prog_14_method_120_code e.1 = .ok e.2)) = true := by decide +kernel
abbrev cl_288_2 : List (Nat × jm_O) := [(172, op_cge 221), (175, op_iload 3 1), (176, op_aload 0 1), (177, op_getA 11 29), (180, op_iload 4 2), (182, op_iald 15), (183, op_ifeq 212), (186, op_aload 0 1), (187, op_getA 11 25), (190, op_iload 4 2), (192, op_iald 13), (193, op_iload 2 1), (194, op_ceq 208), (197, op_aload 0 1), (198, op_getA 11 27), (201, op_iload 4 2), (203, op_iald 13), (204, op_iload 2 1), (205, op_cne 212), (208, op_ic 1 1), (209, op_goto 213), (212, op_ic 0 1), (213, op_ibin (fun x y => x + y)), (214, op_istore 3 1), (215, op_iinc 4 1)]
set_option maxRecDepth 100000 in
theorem gl_288_2 : jm_gl "FrescoWallModel" prog_14_method_120_code 5 (Option.some Jvm.ClassFile.FieldType.int) false cl_288_2 :=
  jm_gc (pu_cge _) (sn_cge (jm_dc dc_288_2 0 rfl) (by decide)) (
  jm_gc (pu_iload _ _) (sn_iload_n (i := 3) (jm_dc dc_288_2 1 rfl)) (
  jm_gc (pu_aload _ _) (sn_aload_n (i := 0) (jm_dc dc_288_2 2 rfl)) (
  jm_gc (pu_getA _ _) (sn_getA (jm_dc dc_288_2 3 rfl) fl_11_85 rfl) (
  jm_gc (pu_iload _ _) (sn_iload (jm_dc dc_288_2 4 rfl)) (
  jm_gc (pu_iald _) (sn_zald (jm_dc dc_288_2 5 rfl)) (
  jm_gc (pu_ifeq _) (sn_ifeq (jm_dc dc_288_2 6 rfl) (by decide)) (
  jm_gc (pu_aload _ _) (sn_aload_n (i := 0) (jm_dc dc_288_2 7 rfl)) (
  jm_gc (pu_getA _ _) (sn_getA (jm_dc dc_288_2 8 rfl) fl_11_73 rfl) (
  jm_gc (pu_iload _ _) (sn_iload (jm_dc dc_288_2 9 rfl)) (
  jm_gc (pu_iald _) (sn_iald (jm_dc dc_288_2 10 rfl)) (
  jm_gc (pu_iload _ _) (sn_iload_n (i := 2) (jm_dc dc_288_2 11 rfl)) (
  jm_gc (pu_ceq _) (sn_ceq (jm_dc dc_288_2 12 rfl) (by decide)) (
  jm_gc (pu_aload _ _) (sn_aload_n (i := 0) (jm_dc dc_288_2 13 rfl)) (
  jm_gc (pu_getA _ _) (sn_getA (jm_dc dc_288_2 14 rfl) fl_11_79 rfl) (
  jm_gc (pu_iload _ _) (sn_iload (jm_dc dc_288_2 15 rfl)) (
  jm_gc (pu_iald _) (sn_iald (jm_dc dc_288_2 16 rfl)) (
  jm_gc (pu_iload _ _) (sn_iload_n (i := 2) (jm_dc dc_288_2 17 rfl)) (
  jm_gc (pu_cne _) (sn_cne (jm_dc dc_288_2 18 rfl) (by decide)) (
  jm_gc (pu_ic _ _) (sn_iconst (jm_dc dc_288_2 19 rfl) (by decide)) (
  jm_gc (pu_goto _) (sn_goto (jm_dc dc_288_2 20 rfl) (by decide)) (
  jm_gc (pu_ic _ _) (sn_iconst (jm_dc dc_288_2 21 rfl) (by decide)) (
  jm_gc (pu_ibin _) (sn_iadd (jm_dc dc_288_2 22 rfl)) (
  jm_gc (pu_istore _ _) (sn_istore_n (i := 3) (jm_dc dc_288_2 23 rfl)) (
  jm_gc (pu_iinc _ _) (sn_iinc (jm_dc dc_288_2 24 rfl) (by decide)) (
  jm_gn)))))))))))))))))))))))))
theorem dc_288_3 : ([(218, .goto (-52), 3), (221, .iload_n 3, 1), (222, .ireturn, 1), (223, .aload_n 0, 1), (224, .aload_n 0, 1), (225, .getfield 112, 3), (228, .iload_n 2, 1), (229, .iaload, 1), (230, .invokevirtual 494, 3), (233, .ireturn, 1), (234, .aload_n 0, 1), (235, .getfield 184, 3), (238, .iload_n 2, 1), (239, .baload, 1), (240, .ifCond .eq 7, 3), (243, .iconst 1, 1), (244, .goto 4, 3), (247, .iconst 0, 1), (248, .ireturn, 1), (249, .aload_n 0, 1), (250, .getfield 181, 3), (253, .iload_n 2, 1), (254, .baload, 1), (255, .ifCond .eq 7, 3), (258, .iconst 1, 1)] : List (Nat × Instr × Nat)).all (fun e => decide (decode prog_14_method_120_code e.1 = .ok e.2)) = true := by decide +kernel
abbrev cl_288_3 : List (Nat × jm_O) := [(218, op_goto 166), (221, op_iload 3 1), (222, op_iret), (223, op_aload 0 1), (224, op_aload 0 1), (225, op_getA 11 45), (228, op_iload 2 1), (229, op_iald 13), (230, op_callV 11 253 2), (233, op_iret), (234, op_aload 0 1), (235, op_getA 11 83), (238, op_iload 2 1), (239, op_iald 15), (240, op_ifeq 247), (243, op_ic 1 1), (244, op_goto 248), (247, op_ic 0 1), (248, op_iret), (249, op_aload 0 1), (250, op_getA 11 82), (253, op_iload 2 1), (254, op_iald 15), (255, op_ifeq 262), (258, op_ic 1 1)]
set_option maxRecDepth 100000 in
theorem gl_288_3 : jm_gl "FrescoWallModel" prog_14_method_120_code 5 (Option.some Jvm.ClassFile.FieldType.int) false cl_288_3 :=
  jm_gc (pu_goto _) (sn_goto (jm_dc dc_288_3 0 rfl) (by decide)) (
  jm_gc (pu_iload _ _) (sn_iload_n (i := 3) (jm_dc dc_288_3 1 rfl)) (
  jm_gc (pu_iret) (sn_iret (jm_dc dc_288_3 2 rfl) rfl) (
  jm_gc (pu_aload _ _) (sn_aload_n (i := 0) (jm_dc dc_288_3 3 rfl)) (
  jm_gc (pu_aload _ _) (sn_aload_n (i := 0) (jm_dc dc_288_3 4 rfl)) (
  jm_gc (pu_getA _ _) (sn_getA (jm_dc dc_288_3 5 rfl) fl_11_112 rfl) (
  jm_gc (pu_iload _ _) (sn_iload_n (i := 2) (jm_dc dc_288_3 6 rfl)) (
  jm_gc (pu_iald _) (sn_iald (jm_dc dc_288_3 7 rfl)) (
  jm_gc (pu_callV _ _ _) (sn_callV (jm_dc dc_288_3 8 rfl) lk_11_494) (
  jm_gc (pu_iret) (sn_iret (jm_dc dc_288_3 9 rfl) rfl) (
  jm_gc (pu_aload _ _) (sn_aload_n (i := 0) (jm_dc dc_288_3 10 rfl)) (
  jm_gc (pu_getA _ _) (sn_getA (jm_dc dc_288_3 11 rfl) fl_11_184 rfl) (
  jm_gc (pu_iload _ _) (sn_iload_n (i := 2) (jm_dc dc_288_3 12 rfl)) (
  jm_gc (pu_iald _) (sn_zald (jm_dc dc_288_3 13 rfl)) (
  jm_gc (pu_ifeq _) (sn_ifeq (jm_dc dc_288_3 14 rfl) (by decide)) (
  jm_gc (pu_ic _ _) (sn_iconst (jm_dc dc_288_3 15 rfl) (by decide)) (
  jm_gc (pu_goto _) (sn_goto (jm_dc dc_288_3 16 rfl) (by decide)) (
  jm_gc (pu_ic _ _) (sn_iconst (jm_dc dc_288_3 17 rfl) (by decide)) (
  jm_gc (pu_iret) (sn_iret (jm_dc dc_288_3 18 rfl) rfl) (
  jm_gc (pu_aload _ _) (sn_aload_n (i := 0) (jm_dc dc_288_3 19 rfl)) (
  jm_gc (pu_getA _ _) (sn_getA (jm_dc dc_288_3 20 rfl) fl_11_181 rfl) (
  jm_gc (pu_iload _ _) (sn_iload_n (i := 2) (jm_dc dc_288_3 21 rfl)) (
  jm_gc (pu_iald _) (sn_zald (jm_dc dc_288_3 22 rfl)) (
  jm_gc (pu_ifeq _) (sn_ifeq (jm_dc dc_288_3 23 rfl) (by decide)) (
  jm_gc (pu_ic _ _) (sn_iconst (jm_dc dc_288_3 24 rfl) (by decide)) (
  jm_gn)))))))))))))))))))))))))
theorem dc_288_4 : ([(259, .goto 4, 3), (262, .iconst 0, 1), (263, .ireturn, 1), (264, .aload_n 0, 1), (265, .iload_n 2, 1), (266, .sipush 999, 3), (269, .aload_n 0, 1), (270, .getfield 585, 3), (273, .invokevirtual 588, 3), (276, .istore 4, 2), (278, .iload 4, 2), (280, .iconst (-1), 1), (281, .if_icmp .ne 8, 3), (284, .bipush 99, 2), (286, .goto 5, 3), (289, .iload 4, 2), (291, .ireturn, 1)] : List (Nat × Instr × Nat)).all (fun e => decide (decode prog_14_method_120_code e.1 = .ok e.2)) = true := by decide +kernel
abbrev cl_288_4 : List (Nat × jm_O) := [(259, op_goto 263), (262, op_ic 0 1), (263, op_iret), (264, op_aload 0 1), (265, op_iload 2 1), (266, op_ic 999 3), (269, op_aload 0 1), (270, op_getI 11 87), (273, op_callV 11 298 4), (276, op_istore 4 2), (278, op_iload 4 2), (280, op_ic (-1) 1), (281, op_cne 289), (284, op_ic 99 2), (286, op_goto 291), (289, op_iload 4 2), (291, op_iret)]
set_option maxRecDepth 100000 in
theorem gl_288_4 : jm_gl "FrescoWallModel" prog_14_method_120_code 5 (Option.some Jvm.ClassFile.FieldType.int) false cl_288_4 :=
  jm_gc (pu_goto _) (sn_goto (jm_dc dc_288_4 0 rfl) (by decide)) (
  jm_gc (pu_ic _ _) (sn_iconst (jm_dc dc_288_4 1 rfl) (by decide)) (
  jm_gc (pu_iret) (sn_iret (jm_dc dc_288_4 2 rfl) rfl) (
  jm_gc (pu_aload _ _) (sn_aload_n (i := 0) (jm_dc dc_288_4 3 rfl)) (
  jm_gc (pu_iload _ _) (sn_iload_n (i := 2) (jm_dc dc_288_4 4 rfl)) (
  jm_gc (pu_ic _ _) (sn_sipush (jm_dc dc_288_4 5 rfl) (by decide)) (
  jm_gc (pu_aload _ _) (sn_aload_n (i := 0) (jm_dc dc_288_4 6 rfl)) (
  jm_gc (pu_getI _ _) (sn_getI (jm_dc dc_288_4 7 rfl) fl_11_585 (Or.inl rfl)) (
  jm_gc (pu_callV _ _ _) (sn_callV (jm_dc dc_288_4 8 rfl) lk_11_588) (
  jm_gc (pu_istore _ _) (sn_istore (jm_dc dc_288_4 9 rfl)) (
  jm_gc (pu_iload _ _) (sn_iload (jm_dc dc_288_4 10 rfl)) (
  jm_gc (pu_ic _ _) (sn_iconst (jm_dc dc_288_4 11 rfl) (by decide)) (
  jm_gc (pu_cne _) (sn_cne (jm_dc dc_288_4 12 rfl) (by decide)) (
  jm_gc (pu_ic _ _) (sn_bipush (jm_dc dc_288_4 13 rfl) (by decide)) (
  jm_gc (pu_goto _) (sn_goto (jm_dc dc_288_4 14 rfl) (by decide)) (
  jm_gc (pu_iload _ _) (sn_iload (jm_dc dc_288_4 15 rfl)) (
  jm_gc (pu_iret) (sn_iret (jm_dc dc_288_4 16 rfl) rfl) (
  jm_gn)))))))))))))))))
theorem dc_289_0 : ([(0, .iload_n 0, 1), (1, .bipush 116, 2), (3, .if_icmp .eq 63, 3), (6, .iload_n 0, 1), (7, .bipush 115, 2), (9, .if_icmp .eq 57, 3), (12, .iload_n 0, 1), (13, .bipush 112, 2), (15, .if_icmp .eq 51, 3), (18, .iload_n 0, 1), (19, .bipush 101, 2), (21, .if_icmp .eq 45, 3), (24, .iload_n 0, 1), (25, .bipush 110, 2), (27, .if_icmp .eq 39, 3), (30, .iload_n 0, 1), (31, .bipush 99, 2), (33, .if_icmp .eq 33, 3), (36, .iload_n 0, 1), (37, .bipush 106, 2), (39, .if_icmp .eq 27, 3), (42, .iload_n 0, 1), (43, .bipush 103, 2), (45, .if_icmp .eq 21, 3), (48, .iload_n 0, 1)] : List (Nat × Instr × Nat)).all (fun e => decide (decode prog_14_method_121_code e.1 = .ok e.2)) = true := by decide +kernel
abbrev cl_289_0 : List (Nat × jm_O) := [(0, op_iload 0 1), (1, op_ic 116 2), (3, op_ceq 66), (6, op_iload 0 1), (7, op_ic 115 2), (9, op_ceq 66), (12, op_iload 0 1), (13, op_ic 112 2), (15, op_ceq 66), (18, op_iload 0 1), (19, op_ic 101 2), (21, op_ceq 66), (24, op_iload 0 1), (25, op_ic 110 2), (27, op_ceq 66), (30, op_iload 0 1), (31, op_ic 99 2), (33, op_ceq 66), (36, op_iload 0 1), (37, op_ic 106 2), (39, op_ceq 66), (42, op_iload 0 1), (43, op_ic 103 2), (45, op_ceq 66), (48, op_iload 0 1)]
set_option maxRecDepth 100000 in
theorem gl_289_0 : jm_gl "FrescoWallModel" prog_14_method_121_code 1 (Option.some Jvm.ClassFile.FieldType.boolean) false cl_289_0 :=
  jm_gc (pu_iload _ _) (sn_iload_n (i := 0) (jm_dc dc_289_0 0 rfl)) (
  jm_gc (pu_ic _ _) (sn_bipush (jm_dc dc_289_0 1 rfl) (by decide)) (
  jm_gc (pu_ceq _) (sn_ceq (jm_dc dc_289_0 2 rfl) (by decide)) (
  jm_gc (pu_iload _ _) (sn_iload_n (i := 0) (jm_dc dc_289_0 3 rfl)) (
  jm_gc (pu_ic _ _) (sn_bipush (jm_dc dc_289_0 4 rfl) (by decide)) (
  jm_gc (pu_ceq _) (sn_ceq (jm_dc dc_289_0 5 rfl) (by decide)) (
  jm_gc (pu_iload _ _) (sn_iload_n (i := 0) (jm_dc dc_289_0 6 rfl)) (
  jm_gc (pu_ic _ _) (sn_bipush (jm_dc dc_289_0 7 rfl) (by decide)) (
  jm_gc (pu_ceq _) (sn_ceq (jm_dc dc_289_0 8 rfl) (by decide)) (
  jm_gc (pu_iload _ _) (sn_iload_n (i := 0) (jm_dc dc_289_0 9 rfl)) (
  jm_gc (pu_ic _ _) (sn_bipush (jm_dc dc_289_0 10 rfl) (by decide)) (
  jm_gc (pu_ceq _) (sn_ceq (jm_dc dc_289_0 11 rfl) (by decide)) (
  jm_gc (pu_iload _ _) (sn_iload_n (i := 0) (jm_dc dc_289_0 12 rfl)) (
  jm_gc (pu_ic _ _) (sn_bipush (jm_dc dc_289_0 13 rfl) (by decide)) (
  jm_gc (pu_ceq _) (sn_ceq (jm_dc dc_289_0 14 rfl) (by decide)) (
  jm_gc (pu_iload _ _) (sn_iload_n (i := 0) (jm_dc dc_289_0 15 rfl)) (
  jm_gc (pu_ic _ _) (sn_bipush (jm_dc dc_289_0 16 rfl) (by decide)) (
  jm_gc (pu_ceq _) (sn_ceq (jm_dc dc_289_0 17 rfl) (by decide)) (
  jm_gc (pu_iload _ _) (sn_iload_n (i := 0) (jm_dc dc_289_0 18 rfl)) (
  jm_gc (pu_ic _ _) (sn_bipush (jm_dc dc_289_0 19 rfl) (by decide)) (
  jm_gc (pu_ceq _) (sn_ceq (jm_dc dc_289_0 20 rfl) (by decide)) (
  jm_gc (pu_iload _ _) (sn_iload_n (i := 0) (jm_dc dc_289_0 21 rfl)) (
  jm_gc (pu_ic _ _) (sn_bipush (jm_dc dc_289_0 22 rfl) (by decide)) (
  jm_gc (pu_ceq _) (sn_ceq (jm_dc dc_289_0 23 rfl) (by decide)) (
  jm_gc (pu_iload _ _) (sn_iload_n (i := 0) (jm_dc dc_289_0 24 rfl)) (
  jm_gn)))))))))))))))))))))))))
theorem dc_289_1 : ([(49, .bipush 119, 2), (51, .if_icmp .eq 15, 3), (54, .iload_n 0, 1), (55, .bipush 118, 2), (57, .if_icmp .eq 9, 3), (60, .iload_n 0, 1), (61, .bipush 98, 2), (63, .if_icmp .ne 7, 3), (66, .iconst 1, 1), (67, .goto 4, 3), (70, .iconst 0, 1), (71, .ireturn, 1)] : List (Nat × Instr × Nat)).all (fun e => decide (decode prog_14_method_121_code e.1 = .ok e.2)) = true := by decide +kernel
abbrev cl_289_1 : List (Nat × jm_O) := [(49, op_ic 119 2), (51, op_ceq 66), (54, op_iload 0 1), (55, op_ic 118 2), (57, op_ceq 66), (60, op_iload 0 1), (61, op_ic 98 2), (63, op_cne 70), (66, op_ic 1 1), (67, op_goto 71), (70, op_ic 0 1), (71, op_zret)]
set_option maxRecDepth 100000 in
theorem gl_289_1 : jm_gl "FrescoWallModel" prog_14_method_121_code 1 (Option.some Jvm.ClassFile.FieldType.boolean) false cl_289_1 :=
  jm_gc (pu_ic _ _) (sn_bipush (jm_dc dc_289_1 0 rfl) (by decide)) (
  jm_gc (pu_ceq _) (sn_ceq (jm_dc dc_289_1 1 rfl) (by decide)) (
  jm_gc (pu_iload _ _) (sn_iload_n (i := 0) (jm_dc dc_289_1 2 rfl)) (
  jm_gc (pu_ic _ _) (sn_bipush (jm_dc dc_289_1 3 rfl) (by decide)) (
  jm_gc (pu_ceq _) (sn_ceq (jm_dc dc_289_1 4 rfl) (by decide)) (
  jm_gc (pu_iload _ _) (sn_iload_n (i := 0) (jm_dc dc_289_1 5 rfl)) (
  jm_gc (pu_ic _ _) (sn_bipush (jm_dc dc_289_1 6 rfl) (by decide)) (
  jm_gc (pu_cne _) (sn_cne (jm_dc dc_289_1 7 rfl) (by decide)) (
  jm_gc (pu_ic _ _) (sn_iconst (jm_dc dc_289_1 8 rfl) (by decide)) (
  jm_gc (pu_goto _) (sn_goto (jm_dc dc_289_1 9 rfl) (by decide)) (
  jm_gc (pu_ic _ _) (sn_iconst (jm_dc dc_289_1 10 rfl) (by decide)) (
  jm_gc (pu_zret) (sn_zret (jm_dc dc_289_1 11 rfl) rfl) (
  jm_gn))))))))))))
theorem dc_290_0 : ([(0, .aload_n 0, 1), (1, .invokevirtual 234, 3), (4, .istore_n 1, 1), (5, .aload_n 0, 1), (6, .aload_n 0, 1), (7, .getfield 238, 3), (10, .ifCond .ne 10, 3), (13, .iload_n 1, 1), (14, .invokestatic 591, 3), (17, .ifCond .ne 7, 3), (20, .iconst 1, 1), (21, .goto 4, 3), (24, .iconst 0, 1), (25, .putfield 238, 3), (28, .aload_n 0, 1), (29, .dup, 1), (30, .getfield 231, 3), (33, .aload_n 0, 1), (34, .getfield 238, 3), (37, .ifCond .eq 7, 3), (40, .iconst 0, 1), (41, .goto 4, 3), (44, .iconst 1, 1), (45, .iadd, 1), (46, .putfield 231, 3)] : List (Nat × Instr × Nat)).all (fun e => decide (decode prog_14_method_122_code e.1 = .ok e.2)) = true := by decide +kernel
abbrev cl_290_0 : List (Nat × jm_O) := [(0, op_aload 0 1), (1, op_callV 11 175 1), (4, op_istore 1 1), (5, op_aload 0 1), (6, op_aload 0 1), (7, op_getI 11 41), (10, op_ifne 20), (13, op_iload 1 1), (14, op_callS 289 1), (17, op_ifne 24), (20, op_ic 1 1), (21, op_goto 25), (24, op_ic 0 1), (25, op_putZ 11 41), (28, op_aload 0 1), (29, op_dup), (30, op_getI 11 40), (33, op_aload 0 1), (34, op_getI 11 41), (37, op_ifeq 44), (40, op_ic 0 1), (41, op_goto 45), (44, op_ic 1 1), (45, op_ibin (fun x y => x + y)), (46, op_putI 11 40)]
set_option maxRecDepth 100000 in
theorem gl_290_0 : jm_gl "FrescoWallModel" prog_14_method_122_code 5 (Option.some Jvm.ClassFile.FieldType.boolean) false cl_290_0 :=
  jm_gc (pu_aload _ _) (sn_aload_n (i := 0) (jm_dc dc_290_0 0 rfl)) (
  jm_gc (pu_callV _ _ _) (sn_callV (jm_dc dc_290_0 1 rfl) lk_11_234) (
  jm_gc (pu_istore _ _) (sn_istore_n (i := 1) (jm_dc dc_290_0 2 rfl)) (
  jm_gc (pu_aload _ _) (sn_aload_n (i := 0) (jm_dc dc_290_0 3 rfl)) (
  jm_gc (pu_aload _ _) (sn_aload_n (i := 0) (jm_dc dc_290_0 4 rfl)) (
  jm_gc (pu_getI _ _) (sn_getI (jm_dc dc_290_0 5 rfl) fl_11_238 (Or.inr rfl)) (
  jm_gc (pu_ifne _) (sn_ifne (jm_dc dc_290_0 6 rfl) (by decide)) (
  jm_gc (pu_iload _ _) (sn_iload_n (i := 1) (jm_dc dc_290_0 7 rfl)) (
  jm_gc (pu_callS _ _) (sn_callS (jm_dc dc_290_0 8 rfl) lk_11_591) (
  jm_gc (pu_ifne _) (sn_ifne (jm_dc dc_290_0 9 rfl) (by decide)) (
  jm_gc (pu_ic _ _) (sn_iconst (jm_dc dc_290_0 10 rfl) (by decide)) (
  jm_gc (pu_goto _) (sn_goto (jm_dc dc_290_0 11 rfl) (by decide)) (
  jm_gc (pu_ic _ _) (sn_iconst (jm_dc dc_290_0 12 rfl) (by decide)) (
  jm_gc (pu_putZ _ _) (sn_putZ (jm_dc dc_290_0 13 rfl) flw_11_238 rfl) (
  jm_gc (pu_aload _ _) (sn_aload_n (i := 0) (jm_dc dc_290_0 14 rfl)) (
  jm_gc (pu_dup) (sn_dup (jm_dc dc_290_0 15 rfl)) (
  jm_gc (pu_getI _ _) (sn_getI (jm_dc dc_290_0 16 rfl) fl_11_231 (Or.inl rfl)) (
  jm_gc (pu_aload _ _) (sn_aload_n (i := 0) (jm_dc dc_290_0 17 rfl)) (
  jm_gc (pu_getI _ _) (sn_getI (jm_dc dc_290_0 18 rfl) fl_11_238 (Or.inr rfl)) (
  jm_gc (pu_ifeq _) (sn_ifeq (jm_dc dc_290_0 19 rfl) (by decide)) (
  jm_gc (pu_ic _ _) (sn_iconst (jm_dc dc_290_0 20 rfl) (by decide)) (
  jm_gc (pu_goto _) (sn_goto (jm_dc dc_290_0 21 rfl) (by decide)) (
  jm_gc (pu_ic _ _) (sn_iconst (jm_dc dc_290_0 22 rfl) (by decide)) (
  jm_gc (pu_ibin _) (sn_iadd (jm_dc dc_290_0 23 rfl)) (
  jm_gc (pu_putI _ _) (sn_putI (jm_dc dc_290_0 24 rfl) flw_11_231 rfl) (
  jm_gn)))))))))))))))))))))))))
theorem dc_290_1 : ([(49, .aload_n 0, 1), (50, .invokevirtual 234, 3), (53, .istore_n 2, 1), (54, .aload_n 0, 1), (55, .aload_n 0, 1), (56, .getfield 238, 3), (59, .ifCond .ne 21, 3), (62, .iload_n 2, 1), (63, .bipush 60, 2), (65, .if_icmp .eq 19, 3), (68, .iload_n 2, 1), (69, .bipush 61, 2), (71, .if_icmp .eq 13, 3), (74, .iload_n 2, 1), (75, .bipush 62, 2), (77, .if_icmp .eq 7, 3), (80, .iconst 1, 1), (81, .goto 4, 3), (84, .iconst 0, 1), (85, .putfield 238, 3), (88, .aload_n 0, 1), (89, .dup, 1), (90, .getfield 231, 3), (93, .aload_n 0, 1), (94, .getfield 238, 3)] : List (Nat × Instr × Nat)).all (fun e => decide (decode prog_14_method_122_code e.1 = .ok e.2)) = true := by decide +kernel
abbrev cl_290_1 : List (Nat × jm_O) := [(49, op_aload 0 1), (50, op_callV 11 175 1), (53, op_istore 2 1), (54, op_aload 0 1), (55, op_aload 0 1), (56, op_getI 11 41), (59, op_ifne 80), (62, op_iload 2 1), (63, op_ic 60 2), (65, op_ceq 84), (68, op_iload 2 1), (69, op_ic 61 2), (71, op_ceq 84), (74, op_iload 2 1), (75, op_ic 62 2), (77, op_ceq 84), (80, op_ic 1 1), (81, op_goto 85), (84, op_ic 0 1), (85, op_putZ 11 41), (88, op_aload 0 1), (89, op_dup), (90, op_getI 11 40), (93, op_aload 0 1), (94, op_getI 11 41)]
set_option maxRecDepth 100000 in
theorem gl_290_1 : jm_gl "FrescoWallModel" prog_14_method_122_code 5 (Option.some Jvm.ClassFile.FieldType.boolean) false cl_290_1 :=
  jm_gc (pu_aload _ _) (sn_aload_n (i := 0) (jm_dc dc_290_1 0 rfl)) (
  jm_gc (pu_callV _ _ _) (sn_callV (jm_dc dc_290_1 1 rfl) lk_11_234) (
  jm_gc (pu_istore _ _) (sn_istore_n (i := 2) (jm_dc dc_290_1 2 rfl)) (
  jm_gc (pu_aload _ _) (sn_aload_n (i := 0) (jm_dc dc_290_1 3 rfl)) (
  jm_gc (pu_aload _ _) (sn_aload_n (i := 0) (jm_dc dc_290_1 4 rfl)) (
  jm_gc (pu_getI _ _) (sn_getI (jm_dc dc_290_1 5 rfl) fl_11_238 (Or.inr rfl)) (
  jm_gc (pu_ifne _) (sn_ifne (jm_dc dc_290_1 6 rfl) (by decide)) (
  jm_gc (pu_iload _ _) (sn_iload_n (i := 2) (jm_dc dc_290_1 7 rfl)) (
  jm_gc (pu_ic _ _) (sn_bipush (jm_dc dc_290_1 8 rfl) (by decide)) (
  jm_gc (pu_ceq _) (sn_ceq (jm_dc dc_290_1 9 rfl) (by decide)) (
  jm_gc (pu_iload _ _) (sn_iload_n (i := 2) (jm_dc dc_290_1 10 rfl)) (
  jm_gc (pu_ic _ _) (sn_bipush (jm_dc dc_290_1 11 rfl) (by decide)) (
  jm_gc (pu_ceq _) (sn_ceq (jm_dc dc_290_1 12 rfl) (by decide)) (
  jm_gc (pu_iload _ _) (sn_iload_n (i := 2) (jm_dc dc_290_1 13 rfl)) (
  jm_gc (pu_ic _ _) (sn_bipush (jm_dc dc_290_1 14 rfl) (by decide)) (
  jm_gc (pu_ceq _) (sn_ceq (jm_dc dc_290_1 15 rfl) (by decide)) (
  jm_gc (pu_ic _ _) (sn_iconst (jm_dc dc_290_1 16 rfl) (by decide)) (
  jm_gc (pu_goto _) (sn_goto (jm_dc dc_290_1 17 rfl) (by decide)) (
  jm_gc (pu_ic _ _) (sn_iconst (jm_dc dc_290_1 18 rfl) (by decide)) (
  jm_gc (pu_putZ _ _) (sn_putZ (jm_dc dc_290_1 19 rfl) flw_11_238 rfl) (
  jm_gc (pu_aload _ _) (sn_aload_n (i := 0) (jm_dc dc_290_1 20 rfl)) (
  jm_gc (pu_dup) (sn_dup (jm_dc dc_290_1 21 rfl)) (
  jm_gc (pu_getI _ _) (sn_getI (jm_dc dc_290_1 22 rfl) fl_11_231 (Or.inl rfl)) (
  jm_gc (pu_aload _ _) (sn_aload_n (i := 0) (jm_dc dc_290_1 23 rfl)) (
  jm_gc (pu_getI _ _) (sn_getI (jm_dc dc_290_1 24 rfl) fl_11_238 (Or.inr rfl)) (
  jm_gn)))))))))))))))))))))))))
theorem dc_290_2 : ([(97, .ifCond .eq 7, 3), (100, .iconst 0, 1), (101, .goto 4, 3), (104, .iconst 1, 1), (105, .iadd, 1), (106, .putfield 231, 3), (109, .aload_n 0, 1), (110, .invokevirtual 246, 3), (113, .istore_n 3, 1), (114, .iconst 0, 1), (115, .istore 4, 2), (117, .iload 4, 2), (119, .iconst 2, 1), (120, .if_icmp .ge 37, 3), (123, .aload_n 0, 1), (124, .getfield 238, 3), (127, .ifCond .ne 30, 3), (130, .iload_n 3, 1), (131, .ifCond .le 26, 3), (134, .aload_n 0, 1), (135, .invokevirtual 242, 3), (138, .ifCond .eq 19, 3), (141, .bipush 10, 2), (143, .iload_n 3, 1), (144, .imul, 1)] : List (Nat × Instr × Nat)).all (fun e => decide (decode prog_14_method_122_code e.1 = .ok e.2)) = true := by decide +kernel
abbrev cl_290_2 : List (Nat × jm_O) := [(97, op_ifeq 104), (100, op_ic 0 1), (101, op_goto 105), (104, op_ic 1 1), (105, op_ibin (fun x y => x + y)), (106, op_putI 11 40), (109, op_aload 0 1), (110, op_callV 11 178 1), (113, op_istore 3 1), (114, op_ic 0 1), (115, op_istore 4 2), (117, op_iload 4 2), (119, op_ic 2 1), (120, op_cge 157), (123, op_aload 0 1), (124, op_getI 11 41), (127, op_ifne 157), (130, op_iload 3 1), (131, op_ifle 157), (134, op_aload 0 1), (135, op_callV 11 176 1), (138, op_ifeq 157), (141, op_ic 10 2), (143, op_iload 3 1), (144, op_ibin (fun x y => x * y))]
set_option maxRecDepth 100000 in
theorem gl_290_2 : jm_gl "FrescoWallModel" prog_14_method_122_code 5 (Option.some Jvm.ClassFile.FieldType.boolean) false cl_290_2 :=
  jm_gc (pu_ifeq _) (sn_ifeq (jm_dc dc_290_2 0 rfl) (by decide)) (
  jm_gc (pu_ic _ _) (sn_iconst (jm_dc dc_290_2 1 rfl) (by decide)) (
  jm_gc (pu_goto _) (sn_goto (jm_dc dc_290_2 2 rfl) (by decide)) (
  jm_gc (pu_ic _ _) (sn_iconst (jm_dc dc_290_2 3 rfl) (by decide)) (
  jm_gc (pu_ibin _) (sn_iadd (jm_dc dc_290_2 4 rfl)) (
  jm_gc (pu_putI _ _) (sn_putI (jm_dc dc_290_2 5 rfl) flw_11_231 rfl) (
  jm_gc (pu_aload _ _) (sn_aload_n (i := 0) (jm_dc dc_290_2 6 rfl)) (
  jm_gc (pu_callV _ _ _) (sn_callV (jm_dc dc_290_2 7 rfl) lk_11_246) (
  jm_gc (pu_istore _ _) (sn_istore_n (i := 3) (jm_dc dc_290_2 8 rfl)) (
  jm_gc (pu_ic _ _) (sn_iconst (jm_dc dc_290_2 9 rfl) (by decide)) (
  jm_gc (pu_istore _ _) (sn_istore (jm_dc dc_290_2 10 rfl)) (
  jm_gc (pu_iload _ _) (sn_iload (jm_dc dc_290_2 11 rfl)) (
  jm_gc (pu_ic _ _) (sn_iconst (jm_dc dc_290_2 12 rfl) (by decide)) (
  jm_gc (pu_cge _) (sn_cge (jm_dc dc_290_2 13 rfl) (by decide)) (
  jm_gc (pu_aload _ _) (sn_aload_n (i := 0) (jm_dc dc_290_2 14 rfl)) (
  jm_gc (pu_getI _ _) (sn_getI (jm_dc dc_290_2 15 rfl) fl_11_238 (Or.inr rfl)) (
  jm_gc (pu_ifne _) (sn_ifne (jm_dc dc_290_2 16 rfl) (by decide)) (
  jm_gc (pu_iload _ _) (sn_iload_n (i := 3) (jm_dc dc_290_2 17 rfl)) (
  jm_gc (pu_ifle _) (sn_ifle (jm_dc dc_290_2 18 rfl) (by decide)) (
  jm_gc (pu_aload _ _) (sn_aload_n (i := 0) (jm_dc dc_290_2 19 rfl)) (
  jm_gc (pu_callV _ _ _) (sn_callV (jm_dc dc_290_2 20 rfl) lk_11_242) (
  jm_gc (pu_ifeq _) (sn_ifeq (jm_dc dc_290_2 21 rfl) (by decide)) (
  jm_gc (pu_ic _ _) (sn_bipush (jm_dc dc_290_2 22 rfl) (by decide)) (
  jm_gc (pu_iload _ _) (sn_iload_n (i := 3) (jm_dc dc_290_2 23 rfl)) (
  jm_gc (pu_ibin _) (sn_imul (jm_dc dc_290_2 24 rfl)) (
  jm_gn)))))))))))))))))))))))))
theorem dc_290_3 : ([(145, .aload_n 0, 1), (146, .invokevirtual 246, 3), (149, .iadd, 1), (150, .istore_n 3, 1), (151, .iinc 4 1, 3), (154, .goto (-37), 3), (157, .aload_n 0, 1), (158, .getfield 238, 3), (161, .ifCond .ne 11, 3), (164, .aload_n 0, 1), (165, .getfield 582, 3), (168, .iconst (-1), 1), (169, .if_icmp .ne 5, 3), (172, .iconst 0, 1), (173, .ireturn, 1), (174, .aload_n 0, 1), (175, .iload_n 1, 1), (176, .invokevirtual 594, 3), (179, .istore 4, 2), (181, .iload_n 2, 1), (182, .bipush 60, 2), (184, .if_icmp .ne 17, 3), (187, .iload 4, 2), (189, .iload_n 3, 1), (190, .if_icmp .ge 7, 3)] : List (Nat × Instr × Nat)).all (fun e => decide (decode prog_14_method_122_code e.1 = .ok e.2)) = true := by decide +kernel
abbrev cl_290_3 : List (Nat × jm_O) := [(145, op_aload 0 1), (146, op_callV 11 178 1), (149, op_ibin (fun x y => x + y)), (150, op_istore 3 1), (151, op_iinc 4 1), (154, op_goto 117), (157, op_aload 0 1), (158, op_getI 11 41), (161, op_ifne 172), (164, op_aload 0 1), (165, op_getI 11 86), (168, op_ic (-1) 1), (169, op_cne 174), (172, op_ic 0 1), (173, op_zret), (174, op_aload 0 1), (175, op_iload 1 1), (176, op_callV 11 288 2), (179, op_istore 4 2), (181, op_iload 2 1), (182, op_ic 60 2), (184, op_cne 201), (187, op_iload 4 2), (189, op_iload 3 1), (190, op_cge 197)]
set_option maxRecDepth 100000 in
theorem gl_290_3 : jm_gl "FrescoWallModel" prog_14_method_122_code 5 (Option.some Jvm.ClassFile.FieldType.boolean) false cl_290_3 :=
  jm_gc (pu_aload _ _) (sn_aload_n (i := 0) (jm_dc dc_290_3 0 rfl)) (
  jm_gc (pu_callV _ _ _) (sn_callV (jm_dc dc_290_3 1 rfl) lk_11_246) (
  jm_gc (pu_ibin _) (sn_iadd (jm_dc dc_290_3 2 rfl)) (
  jm_gc (pu_istore _ _) (sn_istore_n (i := 3) (jm_dc dc_290_3 3 rfl)) (
  jm_gc (pu_iinc _ _) (sn_iinc (jm_dc dc_290_3 4 rfl) (by decide)) (
  jm_gc (pu_goto _) (sn_goto (jm_dc dc_290_3 5 rfl) (by decide)) (
  jm_gc (pu_aload _ _) (sn_aload_n (i := 0) (jm_dc dc_290_3 6 rfl)) (
  jm_gc (pu_getI _ _) (sn_getI (jm_dc dc_290_3 7 rfl) fl_11_238 (Or.inr rfl)) (
  jm_gc (pu_ifne _) (sn_ifne (jm_dc dc_290_3 8 rfl) (by decide)) (
  jm_gc (pu_aload _ _) (sn_aload_n (i := 0) (jm_dc dc_290_3 9 rfl)) (
  jm_gc (pu_getI _ _) (sn_getI (jm_dc dc_290_3 10 rfl) fl_11_582 (Or.inl rfl)) (
  jm_gc (pu_ic _ _) (sn_iconst (jm_dc dc_290_3 11 rfl) (by decide)) (
  jm_gc (pu_cne _) (sn_cne (jm_dc dc_290_3 12 rfl) (by decide)) (
  jm_gc (pu_ic _ _) (sn_iconst (jm_dc dc_290_3 13 rfl) (by decide)) (
  jm_gc (pu_zret) (sn_zret (jm_dc dc_290_3 14 rfl) rfl) (
  jm_gc (pu_aload _ _) (sn_aload_n (i := 0) (jm_dc dc_290_3 15 rfl)) (
  jm_gc (pu_iload _ _) (sn_iload_n (i := 1) (jm_dc dc_290_3 16 rfl)) (
  jm_gc (pu_callV _ _ _) (sn_callV (jm_dc dc_290_3 17 rfl) lk_11_594) (
  jm_gc (pu_istore _ _) (sn_istore (jm_dc dc_290_3 18 rfl)) (
  jm_gc (pu_iload _ _) (sn_iload_n (i := 2) (jm_dc dc_290_3 19 rfl)) (
  jm_gc (pu_ic _ _) (sn_bipush (jm_dc dc_290_3 20 rfl) (by decide)) (
  jm_gc (pu_cne _) (sn_cne (jm_dc dc_290_3 21 rfl) (by decide)) (
  jm_gc (pu_iload _ _) (sn_iload (jm_dc dc_290_3 22 rfl)) (
  jm_gc (pu_iload _ _) (sn_iload_n (i := 3) (jm_dc dc_290_3 23 rfl)) (
  jm_gc (pu_cge _) (sn_cge (jm_dc dc_290_3 24 rfl) (by decide)) (
  jm_gn)))))))))))))))))))))))))
theorem dc_290_4 : ([(193, .iconst 1, 1), (194, .goto 38, 3), (197, .iconst 0, 1), (198, .goto 34, 3), (201, .iload_n 2, 1), (202, .bipush 61, 2), (204, .if_icmp .ne 17, 3), (207, .iload 4, 2), (209, .iload_n 3, 1), (210, .if_icmp .ne 7, 3), (213, .iconst 1, 1), (214, .goto 18, 3), (217, .iconst 0, 1), (218, .goto 14, 3), (221, .iload 4, 2), (223, .iload_n 3, 1), (224, .if_icmp .le 7, 3), (227, .iconst 1, 1), (228, .goto 4, 3), (231, .iconst 0, 1), (232, .ireturn, 1)] : List (Nat × Instr × Nat)).all (fun e => decide (decode prog_14_method_122_code e.1 = .ok e.2)) = true := by decide +kernel
abbrev cl_290_4 : List (Nat × jm_O) := [(193, op_ic 1 1), (194, op_goto 232), (197, op_ic 0 1), (198, op_goto 232), (201, op_iload 2 1), (202, op_ic 61 2), (204, op_cne 221), (207, op_iload 4 2), (209, op_iload 3 1), (210, op_cne 217), (213, op_ic 1 1), (214, op_goto 232), (217, op_ic 0 1), (218, op_goto 232), (221, op_iload 4 2), (223, op_iload 3 1), (224, op_cle 231), (227, op_ic 1 1), (228, op_goto 232), (231, op_ic 0 1), (232, op_zret)]
set_option maxRecDepth 100000 in
theorem gl_290_4 : jm_gl "FrescoWallModel" prog_14_method_122_code 5 (Option.some Jvm.ClassFile.FieldType.boolean) false cl_290_4 :=
  jm_gc (pu_ic _ _) (sn_iconst (jm_dc dc_290_4 0 rfl) (by decide)) (
  jm_gc (pu_goto _) (sn_goto (jm_dc dc_290_4 1 rfl) (by decide)) (
  jm_gc (pu_ic _ _) (sn_iconst (jm_dc dc_290_4 2 rfl) (by decide)) (
  jm_gc (pu_goto _) (sn_goto (jm_dc dc_290_4 3 rfl) (by decide)) (
  jm_gc (pu_iload _ _) (sn_iload_n (i := 2) (jm_dc dc_290_4 4 rfl)) (
  jm_gc (pu_ic _ _) (sn_bipush (jm_dc dc_290_4 5 rfl) (by decide)) (
  jm_gc (pu_cne _) (sn_cne (jm_dc dc_290_4 6 rfl) (by decide)) (
  jm_gc (pu_iload _ _) (sn_iload (jm_dc dc_290_4 7 rfl)) (
  jm_gc (pu_iload _ _) (sn_iload_n (i := 3) (jm_dc dc_290_4 8 rfl)) (
  jm_gc (pu_cne _) (sn_cne (jm_dc dc_290_4 9 rfl) (by decide)) (
  jm_gc (pu_ic _ _) (sn_iconst (jm_dc dc_290_4 10 rfl) (by decide)) (
  jm_gc (pu_goto _) (sn_goto (jm_dc dc_290_4 11 rfl) (by decide)) (
  jm_gc (pu_ic _ _) (sn_iconst (jm_dc dc_290_4 12 rfl) (by decide)) (
  jm_gc (pu_goto _) (sn_goto (jm_dc dc_290_4 13 rfl) (by decide)) (
  jm_gc (pu_iload _ _) (sn_iload (jm_dc dc_290_4 14 rfl)) (
  jm_gc (pu_iload _ _) (sn_iload_n (i := 3) (jm_dc dc_290_4 15 rfl)) (
  jm_gc (pu_cle _) (sn_cle (jm_dc dc_290_4 16 rfl) (by decide)) (
  jm_gc (pu_ic _ _) (sn_iconst (jm_dc dc_290_4 17 rfl) (by decide)) (
  jm_gc (pu_goto _) (sn_goto (jm_dc dc_290_4 18 rfl) (by decide)) (
  jm_gc (pu_ic _ _) (sn_iconst (jm_dc dc_290_4 19 rfl) (by decide)) (
  jm_gc (pu_zret) (sn_zret (jm_dc dc_290_4 20 rfl) rfl) (
  jm_gn)))))))))))))))))))))
theorem dc_291_0 : ([(0, .aload_n 0, 1), (1, .getfield 238, 3), (4, .ifCond .ne 35, 3), (7, .aload_n 0, 1), (8, .invokevirtual 234, 3), (11, .bipush 33, 2), (13, .if_icmp .ne 26, 3), (16, .aload_n 0, 1), (17, .dup, 1), (18, .getfield 231, 3), (21, .iconst 1, 1), (22, .iadd, 1), (23, .putfield 231, 3), (26, .aload_n 0, 1), (27, .invokevirtual 597, 3), (30, .ifCond .ne 7, 3), (33, .iconst 1, 1), (34, .goto 4, 3), (37, .iconst 0, 1), (38, .ireturn, 1), (39, .aload_n 0, 1), (40, .getfield 238, 3), (43, .ifCond .ne 35, 3), (46, .aload_n 0, 1), (47, .invokevirtual 234, 3)] : List (Nat × Instr × Nat)).all (fun e => decide (decode prog_14_method_123_code e.1 = .ok e.2)) = true := by decide +kernel
abbrev cl_291_0 : List (Nat × jm_O) := [(0, op_aload 0 1), (1, op_getI 11 41), (4, op_ifne 39), (7, op_aload 0 1), (8, op_callV 11 175 1), (11, op_ic 33 2), (13, op_cne 39), (16, op_aload 0 1), (17, op_dup), (18, op_getI 11 40), (21, op_ic 1 1), (22, op_ibin (fun x y => x + y)), (23, op_putI 11 40), (26, op_aload 0 1), (27, op_callV 11 291 1), (30, op_ifne 37), (33, op_ic 1 1), (34, op_goto 38), (37, op_ic 0 1), (38, op_zret), (39, op_aload 0 1), (40, op_getI 11 41), (43, op_ifne 78), (46, op_aload 0 1), (47, op_callV 11 175 1)]
set_option maxRecDepth 100000 in
theorem gl_291_0 : jm_gl "FrescoWallModel" prog_14_method_123_code 2 (Option.some Jvm.ClassFile.FieldType.boolean) false cl_291_0 :=
  jm_gc (pu_aload _ _) (sn_aload_n (i := 0) (jm_dc dc_291_0 0 rfl)) (
  jm_gc (pu_getI _ _) (sn_getI (jm_dc dc_291_0 1 rfl) fl_11_238 (Or.inr rfl)) (
  jm_gc (pu_ifne _) (sn_ifne (jm_dc dc_291_0 2 rfl) (by decide)) (
  jm_gc (pu_aload _ _) (sn_aload_n (i := 0) (jm_dc dc_291_0 3 rfl)) (
  jm_gc (pu_callV _ _ _) (sn_callV (jm_dc dc_291_0 4 rfl) lk_11_234) (
  jm_gc (pu_ic _ _) (sn_bipush (jm_dc dc_291_0 5 rfl) (by decide)) (
  jm_gc (pu_cne _) (sn_cne (jm_dc dc_291_0 6 rfl) (by decide)) (
  jm_gc (pu_aload _ _) (sn_aload_n (i := 0) (jm_dc dc_291_0 7 rfl)) (
  jm_gc (pu_dup) (sn_dup (jm_dc dc_291_0 8 rfl)) (
  jm_gc (pu_getI _ _) (sn_getI (jm_dc dc_291_0 9 rfl) fl_11_231 (Or.inl rfl)) (
  jm_gc (pu_ic _ _) (sn_iconst (jm_dc dc_291_0 10 rfl) (by decide)) (
  jm_gc (pu_ibin _) (sn_iadd (jm_dc dc_291_0 11 rfl)) (
  jm_gc (pu_putI _ _) (sn_putI (jm_dc dc_291_0 12 rfl) flw_11_231 rfl) (
  jm_gc (pu_aload _ _) (sn_aload_n (i := 0) (jm_dc dc_291_0 13 rfl)) (
  jm_gc (pu_callV _ _ _) (sn_callV (jm_dc dc_291_0 14 rfl) lk_11_597) (
  jm_gc (pu_ifne _) (sn_ifne (jm_dc dc_291_0 15 rfl) (by decide)) (
  jm_gc (pu_ic _ _) (sn_iconst (jm_dc dc_291_0 16 rfl) (by decide)) (
  jm_gc (pu_goto _) (sn_goto (jm_dc dc_291_0 17 rfl) (by decide)) (
  jm_gc (pu_ic _ _) (sn_iconst (jm_dc dc_291_0 18 rfl) (by decide)) (
  jm_gc (pu_zret) (sn_zret (jm_dc dc_291_0 19 rfl) rfl) (
  jm_gc (pu_aload _ _) (sn_aload_n (i := 0) (jm_dc dc_291_0 20 rfl)) (
  jm_gc (pu_getI _ _) (sn_getI (jm_dc dc_291_0 21 rfl) fl_11_238 (Or.inr rfl)) (
  jm_gc (pu_ifne _) (sn_ifne (jm_dc dc_291_0 22 rfl) (by decide)) (
  jm_gc (pu_aload _ _) (sn_aload_n (i := 0) (jm_dc dc_291_0 23 rfl)) (
  jm_gc (pu_callV _ _ _) (sn_callV (jm_dc dc_291_0 24 rfl) lk_11_234) (
  jm_gn)))))))))))))))))))))))))
theorem dc_291_1 : ([(50, .bipush 40, 2), (52, .if_icmp .ne 26, 3), (55, .aload_n 0, 1), (56, .dup, 1), (57, .getfield 231, 3), (60, .iconst 1, 1), (61, .iadd, 1), (62, .putfield 231, 3), (65, .aload_n 0, 1), (66, .invokevirtual 600, 3), (69, .istore_n 1, 1), (70, .aload_n 0, 1), (71, .bipush 41, 2), (73, .invokevirtual 252, 3), (76, .iload_n 1, 1), (77, .ireturn, 1), (78, .aload_n 0, 1), (79, .invokevirtual 603, 3), (82, .ireturn, 1)] : List (Nat × Instr × Nat)).all (fun e => decide (decode prog_14_method_123_code e.1 = .ok e.2)) = true := by decide +kernel
abbrev cl_291_1 : List (Nat × jm_O) := [(50, op_ic 40 2), (52, op_cne 78), (55, op_aload 0 1), (56, op_dup), (57, op_getI 11 40), (60, op_ic 1 1), (61, op_ibin (fun x y => x + y)), (62, op_putI 11 40), (65, op_aload 0 1), (66, op_callV 11 293 1), (69, op_istore 1 1), (70, op_aload 0 1), (71, op_ic 41 2), (73, op_callV 11 177 2), (76, op_iload 1 1), (77, op_zret), (78, op_aload 0 1), (79, op_callV 11 290 1), (82, op_zret)]
set_option maxRecDepth 100000 in
theorem gl_291_1 : jm_gl "FrescoWallModel" prog_14_method_123_code 2 (Option.some Jvm.ClassFile.FieldType.boolean) false cl_291_1 :=
  jm_gc (pu_ic _ _) (sn_bipush (jm_dc dc_291_1 0 rfl) (by decide)) (
  jm_gc (pu_cne _) (sn_cne (jm_dc dc_291_1 1 rfl) (by decide)) (
  jm_gc (pu_aload _ _) (sn_aload_n (i := 0) (jm_dc dc_291_1 2 rfl)) (
  jm_gc (pu_dup) (sn_dup (jm_dc dc_291_1 3 rfl)) (
  jm_gc (pu_getI _ _) (sn_getI (jm_dc dc_291_1 4 rfl) fl_11_231 (Or.inl rfl)) (
  jm_gc (pu_ic _ _) (sn_iconst (jm_dc dc_291_1 5 rfl) (by decide)) (
  jm_gc (pu_ibin _) (sn_iadd (jm_dc dc_291_1 6 rfl)) (
  jm_gc (pu_putI _ _) (sn_putI (jm_dc dc_291_1 7 rfl) flw_11_231 rfl) (
  jm_gc (pu_aload _ _) (sn_aload_n (i := 0) (jm_dc dc_291_1 8 rfl)) (
  jm_gc (pu_callV _ _ _) (sn_callV (jm_dc dc_291_1 9 rfl) lk_11_600) (
  jm_gc (pu_istore _ _) (sn_istore_n (i := 1) (jm_dc dc_291_1 10 rfl)) (
  jm_gc (pu_aload _ _) (sn_aload_n (i := 0) (jm_dc dc_291_1 11 rfl)) (
  jm_gc (pu_ic _ _) (sn_bipush (jm_dc dc_291_1 12 rfl) (by decide)) (
  jm_gc (pu_callV _ _ _) (sn_callV (jm_dc dc_291_1 13 rfl) lk_11_252) (
  jm_gc (pu_iload _ _) (sn_iload_n (i := 1) (jm_dc dc_291_1 14 rfl)) (
  jm_gc (pu_zret) (sn_zret (jm_dc dc_291_1 15 rfl) rfl) (
  jm_gc (pu_aload _ _) (sn_aload_n (i := 0) (jm_dc dc_291_1 16 rfl)) (
  jm_gc (pu_callV _ _ _) (sn_callV (jm_dc dc_291_1 17 rfl) lk_11_603) (
  jm_gc (pu_zret) (sn_zret (jm_dc dc_291_1 18 rfl) rfl) (
  jm_gn)))))))))))))))))))
theorem dc_292_0 : ([(0, .aload_n 0, 1), (1, .invokevirtual 597, 3), (4, .istore_n 1, 1), (5, .aload_n 0, 1), (6, .getfield 238, 3), (9, .ifCond .ne 44, 3), (12, .aload_n 0, 1), (13, .invokevirtual 234, 3), (16, .bipush 38, 2), (18, .if_icmp .ne 35, 3), (21, .aload_n 0, 1), (22, .dup, 1), (23, .getfield 231, 3), (26, .iconst 1, 1), (27, .iadd, 1), (28, .putfield 231, 3), (31, .aload_n 0, 1), (32, .invokevirtual 597, 3), (35, .istore_n 2, 1), (36, .iload_n 1, 1), (37, .ifCond .eq 11, 3), (40, .iload_n 2, 1), (41, .ifCond .eq 7, 3), (44, .iconst 1, 1), (45, .goto 4, 3)] : List (Nat × Instr × Nat)).all (fun e => decide (decode prog_14_method_124_code e.1 = .ok e.2)) = true := by decide +kernel
abbrev cl_292_0 : List (Nat × jm_O) := [(0, op_aload 0 1), (1, op_callV 11 291 1), (4, op_istore 1 1), (5, op_aload 0 1), (6, op_getI 11 41), (9, op_ifne 53), (12, op_aload 0 1), (13, op_callV 11 175 1), (16, op_ic 38 2), (18, op_cne 53), (21, op_aload 0 1), (22, op_dup), (23, op_getI 11 40), (26, op_ic 1 1), (27, op_ibin (fun x y => x + y)), (28, op_putI 11 40), (31, op_aload 0 1), (32, op_callV 11 291 1), (35, op_istore 2 1), (36, op_iload 1 1), (37, op_ifeq 48), (40, op_iload 2 1), (41, op_ifeq 48), (44, op_ic 1 1), (45, op_goto 49)]
set_option maxRecDepth 100000 in
theorem gl_292_0 : jm_gl "FrescoWallModel" prog_14_method_124_code 3 (Option.some Jvm.ClassFile.FieldType.boolean) false cl_292_0 :=
  jm_gc (pu_aload _ _) (sn_aload_n (i := 0) (jm_dc dc_292_0 0 rfl)) (
  jm_gc (pu_callV _ _ _) (sn_callV (jm_dc dc_292_0 1 rfl) lk_11_597) (
  jm_gc (pu_istore _ _) (sn_istore_n (i := 1) (jm_dc dc_292_0 2 rfl)) (
  jm_gc (pu_aload _ _) (sn_aload_n (i := 0) (jm_dc dc_292_0 3 rfl)) (
  jm_gc (pu_getI _ _) (sn_getI (jm_dc dc_292_0 4 rfl) fl_11_238 (Or.inr rfl)) (
  jm_gc (pu_ifne _) (sn_ifne (jm_dc dc_292_0 5 rfl) (by decide)) (
  jm_gc (pu_aload _ _) (sn_aload_n (i := 0) (jm_dc dc_292_0 6 rfl)) (
  jm_gc (pu_callV _ _ _) (sn_callV (jm_dc dc_292_0 7 rfl) lk_11_234) (
  jm_gc (pu_ic _ _) (sn_bipush (jm_dc dc_292_0 8 rfl) (by decide)) (
  jm_gc (pu_cne _) (sn_cne (jm_dc dc_292_0 9 rfl) (by decide)) (
  jm_gc (pu_aload _ _) (sn_aload_n (i := 0) (jm_dc dc_292_0 10 rfl)) (
  jm_gc (pu_dup) (sn_dup (jm_dc dc_292_0 11 rfl)) (
  jm_gc (pu_getI _ _) (sn_getI (jm_dc dc_292_0 12 rfl) fl_11_231 (Or.inl rfl)) (
  jm_gc (pu_ic _ _) (sn_iconst (jm_dc dc_292_0 13 rfl) (by decide)) (
  jm_gc (pu_ibin _) (sn_iadd (jm_dc dc_292_0 14 rfl)) (
  jm_gc (pu_putI _ _) (sn_putI (jm_dc dc_292_0 15 rfl) flw_11_231 rfl) (
  jm_gc (pu_aload _ _) (sn_aload_n (i := 0) (jm_dc dc_292_0 16 rfl)) (
  jm_gc (pu_callV _ _ _) (sn_callV (jm_dc dc_292_0 17 rfl) lk_11_597) (
  jm_gc (pu_istore _ _) (sn_istore_n (i := 2) (jm_dc dc_292_0 18 rfl)) (
  jm_gc (pu_iload _ _) (sn_iload_n (i := 1) (jm_dc dc_292_0 19 rfl)) (
  jm_gc (pu_ifeq _) (sn_ifeq (jm_dc dc_292_0 20 rfl) (by decide)) (
  jm_gc (pu_iload _ _) (sn_iload_n (i := 2) (jm_dc dc_292_0 21 rfl)) (
  jm_gc (pu_ifeq _) (sn_ifeq (jm_dc dc_292_0 22 rfl) (by decide)) (
  jm_gc (pu_ic _ _) (sn_iconst (jm_dc dc_292_0 23 rfl) (by decide)) (
  jm_gc (pu_goto _) (sn_goto (jm_dc dc_292_0 24 rfl) (by decide)) (
  jm_gn)))))))))))))))))))))))))
theorem dc_292_1 : ([(48, .iconst 0, 1), (49, .istore_n 1, 1), (50, .goto (-45), 3), (53, .iload_n 1, 1), (54, .ireturn, 1)] : List (Nat × Instr × Nat)).all (fun e => decide (decode prog_14_method_124_code e.1 = .ok e.2)) = true := by decide +kernel
abbrev cl_292_1 : List (Nat × jm_O) := [(48, op_ic 0 1), (49, op_istore 1 1), (50, op_goto 5), (53, op_iload 1 1), (54, op_zret)]
set_option maxRecDepth 100000 in
theorem gl_292_1 : jm_gl "FrescoWallModel" prog_14_method_124_code 3 (Option.some Jvm.ClassFile.FieldType.boolean) false cl_292_1 :=
  jm_gc (pu_ic _ _) (sn_iconst (jm_dc dc_292_1 0 rfl) (by decide)) (
  jm_gc (pu_istore _ _) (sn_istore_n (i := 1) (jm_dc dc_292_1 1 rfl)) (
  jm_gc (pu_goto _) (sn_goto (jm_dc dc_292_1 2 rfl) (by decide)) (
  jm_gc (pu_iload _ _) (sn_iload_n (i := 1) (jm_dc dc_292_1 3 rfl)) (
  jm_gc (pu_zret) (sn_zret (jm_dc dc_292_1 4 rfl) rfl) (
  jm_gn)))))
theorem dc_293_0 : ([(0, .aload_n 0, 1), (1, .invokevirtual 606, 3), (4, .istore_n 1, 1), (5, .aload_n 0, 1), (6, .getfield 238, 3), (9, .ifCond .ne 44, 3), (12, .aload_n 0, 1), (13, .invokevirtual 234, 3), (16, .bipush 124, 2), (18, .if_icmp .ne 35, 3), (21, .aload_n 0, 1), (22, .dup, 1), (23, .getfield 231, 3), (26, .iconst 1, 1), (27, .iadd, 1), (28, .putfield 231, 3), (31, .aload_n 0, 1), (32, .invokevirtual 606, 3), (35, .istore_n 2, 1), (36, .iload_n 1, 1), (37, .ifCond .ne 7, 3), (40, .iload_n 2, 1), (41, .ifCond .eq 7, 3), (44, .iconst 1, 1), (45, .goto 4, 3)] : List (Nat × Instr × Nat)).all (fun e => decide (decode prog_14_method_125_code e.1 = .ok e.2)) = true := by decide +kernel
abbrev cl_293_0 : List (Nat × jm_O) := [(0, op_aload 0 1), (1, op_callV 11 292 1), (4, op_istore 1 1), (5, op_aload 0 1), (6, op_getI 11 41), (9, op_ifne 53), (12, op_aload 0 1), (13, op_callV 11 175 1), (16, op_ic 124 2), (18, op_cne 53), (21, op_aload 0 1), (22, op_dup), (23, op_getI 11 40), (26, op_ic 1 1), (27, op_ibin (fun x y => x + y)), (28, op_putI 11 40), (31, op_aload 0 1), (32, op_callV 11 292 1), (35, op_istore 2 1), (36, op_iload 1 1), (37, op_ifne 44), (40, op_iload 2 1), (41, op_ifeq 48), (44, op_ic 1 1), (45, op_goto 49)]
set_option maxRecDepth 100000 in
theorem gl_293_0 : jm_gl "FrescoWallModel" prog_14_method_125_code 3 (Option.some Jvm.ClassFile.FieldType.boolean) false cl_293_0 :=
  jm_gc (pu_aload _ _) (sn_aload_n (i := 0) (jm_dc dc_293_0 0 rfl)) (
  jm_gc (pu_callV _ _ _) (sn_callV (jm_dc dc_293_0 1 rfl) lk_11_606) (
  jm_gc (pu_istore _ _) (sn_istore_n (i := 1) (jm_dc dc_293_0 2 rfl)) (
  jm_gc (pu_aload _ _) (sn_aload_n (i := 0) (jm_dc dc_293_0 3 rfl)) (
  jm_gc (pu_getI _ _) (sn_getI (jm_dc dc_293_0 4 rfl) fl_11_238 (Or.inr rfl)) (
  jm_gc (pu_ifne _) (sn_ifne (jm_dc dc_293_0 5 rfl) (by decide)) (
  jm_gc (pu_aload _ _) (sn_aload_n (i := 0) (jm_dc dc_293_0 6 rfl)) (
  jm_gc (pu_callV _ _ _) (sn_callV (jm_dc dc_293_0 7 rfl) lk_11_234) (
  jm_gc (pu_ic _ _) (sn_bipush (jm_dc dc_293_0 8 rfl) (by decide)) (
  jm_gc (pu_cne _) (sn_cne (jm_dc dc_293_0 9 rfl) (by decide)) (
  jm_gc (pu_aload _ _) (sn_aload_n (i := 0) (jm_dc dc_293_0 10 rfl)) (
  jm_gc (pu_dup) (sn_dup (jm_dc dc_293_0 11 rfl)) (
  jm_gc (pu_getI _ _) (sn_getI (jm_dc dc_293_0 12 rfl) fl_11_231 (Or.inl rfl)) (
  jm_gc (pu_ic _ _) (sn_iconst (jm_dc dc_293_0 13 rfl) (by decide)) (
  jm_gc (pu_ibin _) (sn_iadd (jm_dc dc_293_0 14 rfl)) (
  jm_gc (pu_putI _ _) (sn_putI (jm_dc dc_293_0 15 rfl) flw_11_231 rfl) (
  jm_gc (pu_aload _ _) (sn_aload_n (i := 0) (jm_dc dc_293_0 16 rfl)) (
  jm_gc (pu_callV _ _ _) (sn_callV (jm_dc dc_293_0 17 rfl) lk_11_606) (
  jm_gc (pu_istore _ _) (sn_istore_n (i := 2) (jm_dc dc_293_0 18 rfl)) (
  jm_gc (pu_iload _ _) (sn_iload_n (i := 1) (jm_dc dc_293_0 19 rfl)) (
  jm_gc (pu_ifne _) (sn_ifne (jm_dc dc_293_0 20 rfl) (by decide)) (
  jm_gc (pu_iload _ _) (sn_iload_n (i := 2) (jm_dc dc_293_0 21 rfl)) (
  jm_gc (pu_ifeq _) (sn_ifeq (jm_dc dc_293_0 22 rfl) (by decide)) (
  jm_gc (pu_ic _ _) (sn_iconst (jm_dc dc_293_0 23 rfl) (by decide)) (
  jm_gc (pu_goto _) (sn_goto (jm_dc dc_293_0 24 rfl) (by decide)) (
  jm_gn)))))))))))))))))))))))))
theorem dc_293_1 : ([(48, .iconst 0, 1), (49, .istore_n 1, 1), (50, .goto (-45), 3), (53, .iload_n 1, 1), (54, .ireturn, 1)] : List (Nat × Instr × Nat)).all (fun e => decide (decode prog_14_method_125_code e.1 = .ok e.2)) = true := by decide +kernel
abbrev cl_293_1 : List (Nat × jm_O) := [(48, op_ic 0 1), (49, op_istore 1 1), (50, op_goto 5), (53, op_iload 1 1), (54, op_zret)]
set_option maxRecDepth 100000 in
theorem gl_293_1 : jm_gl "FrescoWallModel" prog_14_method_125_code 3 (Option.some Jvm.ClassFile.FieldType.boolean) false cl_293_1 :=
  jm_gc (pu_ic _ _) (sn_iconst (jm_dc dc_293_1 0 rfl) (by decide)) (
  jm_gc (pu_istore _ _) (sn_istore_n (i := 1) (jm_dc dc_293_1 1 rfl)) (
  jm_gc (pu_goto _) (sn_goto (jm_dc dc_293_1 2 rfl) (by decide)) (
  jm_gc (pu_iload _ _) (sn_iload_n (i := 1) (jm_dc dc_293_1 3 rfl)) (
  jm_gc (pu_zret) (sn_zret (jm_dc dc_293_1 4 rfl) rfl) (
  jm_gn)))))
theorem dc_294_0 : ([(0, .aload_n 0, 1), (1, .iload_n 1, 1), (2, .putfield 582, 3), (5, .aload_n 0, 1), (6, .iconst 0, 1), (7, .putfield 231, 3), (10, .aload_n 0, 1), (11, .iconst 0, 1), (12, .putfield 238, 3), (15, .aload_n 0, 1), (16, .invokevirtual 600, 3), (19, .ireturn, 1)] : List (Nat × Instr × Nat)).all (fun e => decide (decode prog_14_method_126_code e.1 = .ok e.2)) = true := by decide +kernel
abbrev cl_294_0 : List (Nat × jm_O) := [(0, op_aload 0 1), (1, op_iload 1 1), (2, op_putI 11 86), (5, op_aload 0 1), (6, op_ic 0 1), (7, op_putI 11 40), (10, op_aload 0 1), (11, op_ic 0 1), (12, op_putZ 11 41), (15, op_aload 0 1), (16, op_callV 11 293 1), (19, op_zret)]
set_option maxRecDepth 100000 in
theorem gl_294_0 : jm_gl "FrescoWallModel" prog_14_method_126_code 2 (Option.some Jvm.ClassFile.FieldType.boolean) false cl_294_0 :=
  jm_gc (pu_aload _ _) (sn_aload_n (i := 0) (jm_dc dc_294_0 0 rfl)) (
  jm_gc (pu_iload _ _) (sn_iload_n (i := 1) (jm_dc dc_294_0 1 rfl)) (
  jm_gc (pu_putI _ _) (sn_putI (jm_dc dc_294_0 2 rfl) flw_11_582 rfl) (
  jm_gc (pu_aload _ _) (sn_aload_n (i := 0) (jm_dc dc_294_0 3 rfl)) (
  jm_gc (pu_ic _ _) (sn_iconst (jm_dc dc_294_0 4 rfl) (by decide)) (
  jm_gc (pu_putI _ _) (sn_putI (jm_dc dc_294_0 5 rfl) flw_11_231 rfl) (
  jm_gc (pu_aload _ _) (sn_aload_n (i := 0) (jm_dc dc_294_0 6 rfl)) (
  jm_gc (pu_ic _ _) (sn_iconst (jm_dc dc_294_0 7 rfl) (by decide)) (
  jm_gc (pu_putZ _ _) (sn_putZ (jm_dc dc_294_0 8 rfl) flw_11_238 rfl) (
  jm_gc (pu_aload _ _) (sn_aload_n (i := 0) (jm_dc dc_294_0 9 rfl)) (
  jm_gc (pu_callV _ _ _) (sn_callV (jm_dc dc_294_0 10 rfl) lk_11_600) (
  jm_gc (pu_zret) (sn_zret (jm_dc dc_294_0 11 rfl) rfl) (
  jm_gn))))))))))))
theorem dc_295_0 : ([(0, .aload_n 0, 1), (1, .iconst (-1), 1), (2, .invokevirtual 609, 3), (5, .istore_n 1, 1), (6, .aload_n 0, 1), (7, .aload_n 0, 1), (8, .getfield 238, 3), (11, .ifCond .ne 14, 3), (14, .aload_n 0, 1), (15, .getfield 231, 3), (18, .aload_n 0, 1), (19, .getfield 226, 3), (22, .if_icmp .eq 7, 3), (25, .iconst 1, 1), (26, .goto 4, 3), (29, .iconst 0, 1), (30, .putfield 238, 3), (33, .aload_n 0, 1), (34, .getfield 238, 3), (37, .ifCond .eq 16, 3), (40, .aload_n 0, 1), (41, .iconst 0, 1), (42, .putfield 226, 3), (45, .bipush (-10), 2), (47, .aload_n 0, 1)] : List (Nat × Instr × Nat)).all (fun e => decide (decode prog_14_method_127_code e.1 = .ok e.2)) = true := by decide +kernel
abbrev cl_295_0 : List (Nat × jm_O) := [(0, op_aload 0 1), (1, op_ic (-1) 1), (2, op_callV 11 294 2), (5, op_istore 1 1), (6, op_aload 0 1), (7, op_aload 0 1), (8, op_getI 11 41), (11, op_ifne 25), (14, op_aload 0 1), (15, op_getI 11 40), (18, op_aload 0 1), (19, op_getI 11 2), (22, op_ceq 29), (25, op_ic 1 1), (26, op_goto 30), (29, op_ic 0 1), (30, op_putZ 11 41), (33, op_aload 0 1), (34, op_getI 11 41), (37, op_ifeq 53), (40, op_aload 0 1), (41, op_ic 0 1), (42, op_putI 11 2), (45, op_ic (-10) 2), (47, op_aload 0 1)]
set_option maxRecDepth 100000 in
theorem gl_295_0 : jm_gl "FrescoWallModel" prog_14_method_127_code 3 (Option.some Jvm.ClassFile.FieldType.int) false cl_295_0 :=
  jm_gc (pu_aload _ _) (sn_aload_n (i := 0) (jm_dc dc_295_0 0 rfl)) (
  jm_gc (pu_ic _ _) (sn_iconst (jm_dc dc_295_0 1 rfl) (by decide)) (
  jm_gc (pu_callV _ _ _) (sn_callV (jm_dc dc_295_0 2 rfl) lk_11_609) (
  jm_gc (pu_istore _ _) (sn_istore_n (i := 1) (jm_dc dc_295_0 3 rfl)) (
  jm_gc (pu_aload _ _) (sn_aload_n (i := 0) (jm_dc dc_295_0 4 rfl)) (
  jm_gc (pu_aload _ _) (sn_aload_n (i := 0) (jm_dc dc_295_0 5 rfl)) (
  jm_gc (pu_getI _ _) (sn_getI (jm_dc dc_295_0 6 rfl) fl_11_238 (Or.inr rfl)) (
  jm_gc (pu_ifne _) (sn_ifne (jm_dc dc_295_0 7 rfl) (by decide)) (
  jm_gc (pu_aload _ _) (sn_aload_n (i := 0) (jm_dc dc_295_0 8 rfl)) (
  jm_gc (pu_getI _ _) (sn_getI (jm_dc dc_295_0 9 rfl) fl_11_231 (Or.inl rfl)) (
  jm_gc (pu_aload _ _) (sn_aload_n (i := 0) (jm_dc dc_295_0 10 rfl)) (
  jm_gc (pu_getI _ _) (sn_getI (jm_dc dc_295_0 11 rfl) fl_11_226 (Or.inl rfl)) (
  jm_gc (pu_ceq _) (sn_ceq (jm_dc dc_295_0 12 rfl) (by decide)) (
  jm_gc (pu_ic _ _) (sn_iconst (jm_dc dc_295_0 13 rfl) (by decide)) (
  jm_gc (pu_goto _) (sn_goto (jm_dc dc_295_0 14 rfl) (by decide)) (
  jm_gc (pu_ic _ _) (sn_iconst (jm_dc dc_295_0 15 rfl) (by decide)) (
  jm_gc (pu_putZ _ _) (sn_putZ (jm_dc dc_295_0 16 rfl) flw_11_238 rfl) (
  jm_gc (pu_aload _ _) (sn_aload_n (i := 0) (jm_dc dc_295_0 17 rfl)) (
  jm_gc (pu_getI _ _) (sn_getI (jm_dc dc_295_0 18 rfl) fl_11_238 (Or.inr rfl)) (
  jm_gc (pu_ifeq _) (sn_ifeq (jm_dc dc_295_0 19 rfl) (by decide)) (
  jm_gc (pu_aload _ _) (sn_aload_n (i := 0) (jm_dc dc_295_0 20 rfl)) (
  jm_gc (pu_ic _ _) (sn_iconst (jm_dc dc_295_0 21 rfl) (by decide)) (
  jm_gc (pu_putI _ _) (sn_putI (jm_dc dc_295_0 22 rfl) flw_11_226 rfl) (
  jm_gc (pu_ic _ _) (sn_bipush (jm_dc dc_295_0 23 rfl) (by decide)) (
  jm_gc (pu_aload _ _) (sn_aload_n (i := 0) (jm_dc dc_295_0 24 rfl)) (
  jm_gn)))))))))))))))))))))))))
theorem dc_295_1 : ([(48, .getfield 231, 3), (51, .isub, 1), (52, .ireturn, 1), (53, .aload_n 0, 1), (54, .invokevirtual 476, 3), (57, .aload_n 0, 1), (58, .invokevirtual 518, 3), (61, .iconst 0, 1), (62, .istore_n 2, 1), (63, .iload_n 2, 1), (64, .aload_n 0, 1), (65, .getfield 215, 3), (68, .if_icmp .ge 40, 3), (71, .aload_n 0, 1), (72, .getfield 184, 3), (75, .iload_n 2, 1), (76, .aload_n 0, 1), (77, .iload_n 2, 1), (78, .invokevirtual 435, 3), (81, .bastore, 1), (82, .aload_n 0, 1), (83, .getfield 181, 3), (86, .iload_n 2, 1), (87, .aload_n 0, 1), (88, .iload_n 2, 1)] : List (Nat × Instr × Nat)).all (fun e => decide (decode prog_14_method_127_code e.1 = .ok e.2)) = true := by decide +kernel
abbrev cl_295_1 : List (Nat × jm_O) := [(48, op_getI 11 40), (51, op_ibin (fun x y => x - y)), (52, op_iret), (53, op_aload 0 1), (54, op_callV 11 231 1), (57, op_aload 0 1), (58, op_callV 11 270 1), (61, op_ic 0 1), (62, op_istore 2 1), (63, op_iload 2 1), (64, op_aload 0 1), (65, op_getI 11 3), (68, op_cge 108), (71, op_aload 0 1), (72, op_getA 11 83), (75, op_iload 2 1), (76, op_aload 0 1), (77, op_iload 2 1), (78, op_callV 11 241 2), (81, op_zast), (82, op_aload 0 1), (83, op_getA 11 82), (86, op_iload 2 1), (87, op_aload 0 1), (88, op_iload 2 1)]
set_option maxRecDepth 100000 in
theorem gl_295_1 : jm_gl "FrescoWallModel" prog_14_method_127_code 3 (Option.some Jvm.ClassFile.FieldType.int) false cl_295_1 :=
  jm_gc (pu_getI _ _) (sn_getI (jm_dc dc_295_1 0 rfl) fl_11_231 (Or.inl rfl)) (
  jm_gc (pu_ibin _) (sn_isub (jm_dc dc_295_1 1 rfl)) (
  jm_gc (pu_iret) (sn_iret (jm_dc dc_295_1 2 rfl) rfl) (
  jm_gc (pu_aload _ _) (sn_aload_n (i := 0) (jm_dc dc_295_1 3 rfl)) (
  jm_gc (pu_callV _ _ _) (sn_callV (jm_dc dc_295_1 4 rfl) lk_11_476) (
  jm_gc (pu_aload _ _) (sn_aload_n (i := 0) (jm_dc dc_295_1 5 rfl)) (
  jm_gc (pu_callV _ _ _) (sn_callV (jm_dc dc_295_1 6 rfl) lk_11_518) (
  jm_gc (pu_ic _ _) (sn_iconst (jm_dc dc_295_1 7 rfl) (by decide)) (
  jm_gc (pu_istore _ _) (sn_istore_n (i := 2) (jm_dc dc_295_1 8 rfl)) (
  jm_gc (pu_iload _ _) (sn_iload_n (i := 2) (jm_dc dc_295_1 9 rfl)) (
  jm_gc (pu_aload _ _) (sn_aload_n (i := 0) (jm_dc dc_295_1 10 rfl)) (
  jm_gc (pu_getI _ _) (sn_getI (jm_dc dc_295_1 11 rfl) fl_11_215 (Or.inl rfl)) (
  jm_gc (pu_cge _) (sn_cge (jm_dc dc_295_1 12 rfl) (by decide)) (
  jm_gc (pu_aload _ _) (sn_aload_n (i := 0) (jm_dc dc_295_1 13 rfl)) (
  jm_gc (pu_getA _ _) (sn_getA (jm_dc dc_295_1 14 rfl) fl_11_184 rfl) (
  jm_gc (pu_iload _ _) (sn_iload_n (i := 2) (jm_dc dc_295_1 15 rfl)) (
  jm_gc (pu_aload _ _) (sn_aload_n (i := 0) (jm_dc dc_295_1 16 rfl)) (
  jm_gc (pu_iload _ _) (sn_iload_n (i := 2) (jm_dc dc_295_1 17 rfl)) (
  jm_gc (pu_callV _ _ _) (sn_callV (jm_dc dc_295_1 18 rfl) lk_11_435) (
  jm_gc (pu_zast) (sn_zast (jm_dc dc_295_1 19 rfl)) (
  jm_gc (pu_aload _ _) (sn_aload_n (i := 0) (jm_dc dc_295_1 20 rfl)) (
  jm_gc (pu_getA _ _) (sn_getA (jm_dc dc_295_1 21 rfl) fl_11_181 rfl) (
  jm_gc (pu_iload _ _) (sn_iload_n (i := 2) (jm_dc dc_295_1 22 rfl)) (
  jm_gc (pu_aload _ _) (sn_aload_n (i := 0) (jm_dc dc_295_1 23 rfl)) (
  jm_gc (pu_iload _ _) (sn_iload_n (i := 2) (jm_dc dc_295_1 24 rfl)) (
  jm_gn)))))))))))))))))))))))))
theorem dc_295_2 : ([(89, .invokevirtual 521, 3), (92, .iconst (-1), 1), (93, .if_icmp .eq 7, 3), (96, .iconst 1, 1), (97, .goto 4, 3), (100, .iconst 0, 1), (101, .bastore, 1), (102, .iinc 2 1, 3), (105, .goto (-42), 3), (108, .aload_n 0, 1), (109, .iconst 0, 1), (110, .putfield 612, 3), (113, .iconst 0, 1), (114, .istore_n 2, 1), (115, .iload_n 2, 1), (116, .aload_n 0, 1), (117, .getfield 215, 3), (120, .if_icmp .ge 37, 3), (123, .aload_n 0, 1), (124, .iload_n 2, 1), (125, .invokevirtual 609, 3), (128, .ifCond .eq 23, 3), (131, .aload_n 0, 1), (132, .getfield 187, 3), (135, .aload_n 0, 1)] : List (Nat × Instr × Nat)).all (fun e => decide (decode prog_14_method_127_code e.1 = .ok e.2)) = true := by decide +kernel
abbrev cl_295_2 : List (Nat × jm_O) := [(89, op_callV 11 271 2), (92, op_ic (-1) 1), (93, op_ceq 100), (96, op_ic 1 1), (97, op_goto 101), (100, op_ic 0 1), (101, op_zast), (102, op_iinc 2 1), (105, op_goto 63), (108, op_aload 0 1), (109, op_ic 0 1), (110, op_putI 11 84), (113, op_ic 0 1), (114, op_istore 2 1), (115, op_iload 2 1), (116, op_aload 0 1), (117, op_getI 11 3), (120, op_cge 157), (123, op_aload 0 1), (124, op_iload 2 1), (125, op_callV 11 294 2), (128, op_ifeq 151), (131, op_aload 0 1), (132, op_getA 11 85), (135, op_aload 0 1)]
set_option maxRecDepth 100000 in
theorem gl_295_2 : jm_gl "FrescoWallModel" prog_14_method_127_code 3 (Option.some Jvm.ClassFile.FieldType.int) false cl_295_2 :=
  jm_gc (pu_callV _ _ _) (sn_callV (jm_dc dc_295_2 0 rfl) lk_11_521) (
  jm_gc (pu_ic _ _) (sn_iconst (jm_dc dc_295_2 1 rfl) (by decide)) (
  jm_gc (pu_ceq _) (sn_ceq (jm_dc dc_295_2 2 rfl) (by decide)) (
  jm_gc (pu_ic _ _) (sn_iconst (jm_dc dc_295_2 3 rfl) (by decide)) (
  jm_gc (pu_goto _) (sn_goto (jm_dc dc_295_2 4 rfl) (by decide)) (
  jm_gc (pu_ic _ _) (sn_iconst (jm_dc dc_295_2 5 rfl) (by decide)) (
  jm_gc (pu_zast) (sn_zast (jm_dc dc_295_2 6 rfl)) (
  jm_gc (pu_iinc _ _) (sn_iinc (jm_dc dc_295_2 7 rfl) (by decide)) (
  jm_gc (pu_goto _) (sn_goto (jm_dc dc_295_2 8 rfl) (by decide)) (
  jm_gc (pu_aload _ _) (sn_aload_n (i := 0) (jm_dc dc_295_2 9 rfl)) (
  jm_gc (pu_ic _ _) (sn_iconst (jm_dc dc_295_2 10 rfl) (by decide)) (
  jm_gc (pu_putI _ _) (sn_putI (jm_dc dc_295_2 11 rfl) flw_11_612 rfl) (
  jm_gc (pu_ic _ _) (sn_iconst (jm_dc dc_295_2 12 rfl) (by decide)) (
  jm_gc (pu_istore _ _) (sn_istore_n (i := 2) (jm_dc dc_295_2 13 rfl)) (
  jm_gc (pu_iload _ _) (sn_iload_n (i := 2) (jm_dc dc_295_2 14 rfl)) (
  jm_gc (pu_aload _ _) (sn_aload_n (i := 0) (jm_dc dc_295_2 15 rfl)) (
  jm_gc (pu_getI _ _) (sn_getI (jm_dc dc_295_2 16 rfl) fl_11_215 (Or.inl rfl)) (
  jm_gc (pu_cge _) (sn_cge (jm_dc dc_295_2 17 rfl) (by decide)) (
  jm_gc (pu_aload _ _) (sn_aload_n (i := 0) (jm_dc dc_295_2 18 rfl)) (
  jm_gc (pu_iload _ _) (sn_iload_n (i := 2) (jm_dc dc_295_2 19 rfl)) (
  jm_gc (pu_callV _ _ _) (sn_callV (jm_dc dc_295_2 20 rfl) lk_11_609) (
  jm_gc (pu_ifeq _) (sn_ifeq (jm_dc dc_295_2 21 rfl) (by decide)) (
  jm_gc (pu_aload _ _) (sn_aload_n (i := 0) (jm_dc dc_295_2 22 rfl)) (
  jm_gc (pu_getA _ _) (sn_getA (jm_dc dc_295_2 23 rfl) fl_11_187 rfl) (
  jm_gc (pu_aload _ _) (sn_aload_n (i := 0) (jm_dc dc_295_2 24 rfl)) (
  jm_gn)))))))))))))))))))))))))
theorem dc_295_3 : ([(136, .getfield 612, 3), (139, .iload_n 2, 1), (140, .iastore, 1), (141, .aload_n 0, 1), (142, .dup, 1), (143, .getfield 612, 3), (146, .iconst 1, 1), (147, .iadd, 1), (148, .putfield 612, 3), (151, .iinc 2 1, 3), (154, .goto (-39), 3), (157, .aload_n 0, 1), (158, .iconst 0, 1), (159, .putfield 226, 3), (162, .aload_n 0, 1), (163, .getfield 612, 3), (166, .ireturn, 1)] : List (Nat × Instr × Nat)).all (fun e => decide (decode prog_14_method_127_code e.1 = .ok e.2)) = true := by decide +kernel
abbrev cl_295_3 : List (Nat × jm_O) := [(136, op_getI 11 84), (139, op_iload 2 1), (140, op_iast), (141, op_aload 0 1), (142, op_dup), (143, op_getI 11 84), (146, op_ic 1 1), (147, op_ibin (fun x y => x + y)), (148, op_putI 11 84), (151, op_iinc 2 1), (154, op_goto 115), (157, op_aload 0 1), (158, op_ic 0 1), (159, op_putI 11 2), (162, op_aload 0 1), (163, op_getI 11 84), (166, op_iret)]
set_option maxRecDepth 100000 in
theorem gl_295_3 : jm_gl "FrescoWallModel" prog_14_method_127_code 3 (Option.some Jvm.ClassFile.FieldType.int) false cl_295_3 :=
  jm_gc (pu_getI _ _) (sn_getI (jm_dc dc_295_3 0 rfl) fl_11_612 (Or.inl rfl)) (
  jm_gc (pu_iload _ _) (sn_iload_n (i := 2) (jm_dc dc_295_3 1 rfl)) (
  jm_gc (pu_iast) (sn_iast (jm_dc dc_295_3 2 rfl)) (
  jm_gc (pu_aload _ _) (sn_aload_n (i := 0) (jm_dc dc_295_3 3 rfl)) (
  jm_gc (pu_dup) (sn_dup (jm_dc dc_295_3 4 rfl)) (
  jm_gc (pu_getI _ _) (sn_getI (jm_dc dc_295_3 5 rfl) fl_11_612 (Or.inl rfl)) (
  jm_gc (pu_ic _ _) (sn_iconst (jm_dc dc_295_3 6 rfl) (by decide)) (
  jm_gc (pu_ibin _) (sn_iadd (jm_dc dc_295_3 7 rfl)) (
  jm_gc (pu_putI _ _) (sn_putI (jm_dc dc_295_3 8 rfl) flw_11_612 rfl) (
  jm_gc (pu_iinc _ _) (sn_iinc (jm_dc dc_295_3 9 rfl) (by decide)) (
  jm_gc (pu_goto _) (sn_goto (jm_dc dc_295_3 10 rfl) (by decide)) (
  jm_gc (pu_aload _ _) (sn_aload_n (i := 0) (jm_dc dc_295_3 11 rfl)) (
  jm_gc (pu_ic _ _) (sn_iconst (jm_dc dc_295_3 12 rfl) (by decide)) (
  jm_gc (pu_putI _ _) (sn_putI (jm_dc dc_295_3 13 rfl) flw_11_226 rfl) (
  jm_gc (pu_aload _ _) (sn_aload_n (i := 0) (jm_dc dc_295_3 14 rfl)) (
  jm_gc (pu_getI _ _) (sn_getI (jm_dc dc_295_3 15 rfl) fl_11_612 (Or.inl rfl)) (
  jm_gc (pu_iret) (sn_iret (jm_dc dc_295_3 16 rfl) rfl) (
  jm_gn)))))))))))))))))
theorem dc_296_0 : ([(0, .iload_n 1, 1), (1, .iconst 0, 1), (2, .aload_n 0, 1), (3, .getfield 612, 3), (6, .iconst 1, 1), (7, .isub, 1), (8, .invokestatic 218, 3), (11, .ifCond .eq 12, 3), (14, .aload_n 0, 1), (15, .getfield 187, 3), (18, .iload_n 1, 1), (19, .iaload, 1), (20, .goto 4, 3), (23, .iconst (-1), 1), (24, .ireturn, 1)] : List (Nat × Instr × Nat)).all (fun e => decide (decode prog_14_method_128_code e.1 = .ok e.2)) = true := by decide +kernel
abbrev cl_296_0 : List (Nat × jm_O) := [(0, op_iload 1 1), (1, op_ic 0 1), (2, op_aload 0 1), (3, op_getI 11 84), (6, op_ic 1 1), (7, op_ibin (fun x y => x - y)), (8, op_callS 171 3), (11, op_ifeq 23), (14, op_aload 0 1), (15, op_getA 11 85), (18, op_iload 1 1), (19, op_iald 13), (20, op_goto 24), (23, op_ic (-1) 1), (24, op_iret)]
set_option maxRecDepth 100000 in
theorem gl_296_0 : jm_gl "FrescoWallModel" prog_14_method_128_code 2 (Option.some Jvm.ClassFile.FieldType.int) false cl_296_0 :=
  jm_gc (pu_iload _ _) (sn_iload_n (i := 1) (jm_dc dc_296_0 0 rfl)) (
  jm_gc (pu_ic _ _) (sn_iconst (jm_dc dc_296_0 1 rfl) (by decide)) (
  jm_gc (pu_aload _ _) (sn_aload_n (i := 0) (jm_dc dc_296_0 2 rfl)) (
  jm_gc (pu_getI _ _) (sn_getI (jm_dc dc_296_0 3 rfl) fl_11_612 (Or.inl rfl)) (
  jm_gc (pu_ic _ _) (sn_iconst (jm_dc dc_296_0 4 rfl) (by decide)) (
  jm_gc (pu_ibin _) (sn_isub (jm_dc dc_296_0 5 rfl)) (
  jm_gc (pu_callS _ _) (sn_callS (jm_dc dc_296_0 6 rfl) lk_11_218) (
  jm_gc (pu_ifeq _) (sn_ifeq (jm_dc dc_296_0 7 rfl) (by decide)) (
  jm_gc (pu_aload _ _) (sn_aload_n (i := 0) (jm_dc dc_296_0 8 rfl)) (
  jm_gc (pu_getA _ _) (sn_getA (jm_dc dc_296_0 9 rfl) fl_11_187 rfl) (
  jm_gc (pu_iload _ _) (sn_iload_n (i := 1) (jm_dc dc_296_0 10 rfl)) (
  jm_gc (pu_iald _) (sn_iald (jm_dc dc_296_0 11 rfl)) (
  jm_gc (pu_goto _) (sn_goto (jm_dc dc_296_0 12 rfl) (by decide)) (
  jm_gc (pu_ic _ _) (sn_iconst (jm_dc dc_296_0 13 rfl) (by decide)) (
  jm_gc (pu_iret) (sn_iret (jm_dc dc_296_0 14 rfl) rfl) (
  jm_gn)))))))))))))))
theorem dc_297_0 : ([(0, .aload_n 0, 1), (1, .iload_n 1, 1), (2, .invokevirtual 222, 3), (5, .ifCond .eq 13, 3), (8, .iload_n 2, 1), (9, .iconst (-1), 1), (10, .bipush 9, 2), (12, .invokestatic 218, 3), (15, .ifCond .ne 5, 3), (18, .iconst (-1), 1), (19, .ireturn, 1), (20, .iload_n 3, 1), (21, .iconst 0, 1), (22, .sipush 999, 3), (25, .invokestatic 218, 3), (28, .ifCond .ne 6, 3), (31, .bipush (-2), 2), (33, .ireturn, 1), (34, .aload_n 0, 1), (35, .getfield 585, 3), (38, .bipush 100, 2), (40, .if_icmp .ne 6, 3), (43, .bipush (-4), 2), (45, .ireturn, 1), (46, .aload_n 0, 1)] : List (Nat × Instr × Nat)).all (fun e => decide (decode prog_14_method_129_code e.1 = .ok e.2)) = true := by decide +kernel
abbrev cl_297_0 : List (Nat × jm_O) := [(0, op_aload 0 1), (1, op_iload 1 1), (2, op_callV 11 172 2), (5, op_ifeq 18), (8, op_iload 2 1), (9, op_ic (-1) 1), (10, op_ic 9 2), (12, op_callS 171 3), (15, op_ifne 20), (18, op_ic (-1) 1), (19, op_iret), (20, op_iload 3 1), (21, op_ic 0 1), (22, op_ic 999 3), (25, op_callS 171 3), (28, op_ifne 34), (31, op_ic (-2) 2), (33, op_iret), (34, op_aload 0 1), (35, op_getI 11 87), (38, op_ic 100 2), (40, op_cne 46), (43, op_ic (-4) 2), (45, op_iret), (46, op_aload 0 1)]
set_option maxRecDepth 100000 in
theorem gl_297_0 : jm_gl "FrescoWallModel" prog_14_method_129_code 4 (Option.some Jvm.ClassFile.FieldType.int) false cl_297_0 :=
  jm_gc (pu_aload _ _) (sn_aload_n (i := 0) (jm_dc dc_297_0 0 rfl)) (
  jm_gc (pu_iload _ _) (sn_iload_n (i := 1) (jm_dc dc_297_0 1 rfl)) (
  jm_gc (pu_callV _ _ _) (sn_callV (jm_dc dc_297_0 2 rfl) lk_11_222) (
  jm_gc (pu_ifeq _) (sn_ifeq (jm_dc dc_297_0 3 rfl) (by decide)) (
  jm_gc (pu_iload _ _) (sn_iload_n (i := 2) (jm_dc dc_297_0 4 rfl)) (
  jm_gc (pu_ic _ _) (sn_iconst (jm_dc dc_297_0 5 rfl) (by decide)) (
  jm_gc (pu_ic _ _) (sn_bipush (jm_dc dc_297_0 6 rfl) (by decide)) (
  jm_gc (pu_callS _ _) (sn_callS (jm_dc dc_297_0 7 rfl) lk_11_218) (
  jm_gc (pu_ifne _) (sn_ifne (jm_dc dc_297_0 8 rfl) (by decide)) (
  jm_gc (pu_ic _ _) (sn_iconst (jm_dc dc_297_0 9 rfl) (by decide)) (
  jm_gc (pu_iret) (sn_iret (jm_dc dc_297_0 10 rfl) rfl) (
  jm_gc (pu_iload _ _) (sn_iload_n (i := 3) (jm_dc dc_297_0 11 rfl)) (
  jm_gc (pu_ic _ _) (sn_iconst (jm_dc dc_297_0 12 rfl) (by decide)) (
  jm_gc (pu_ic _ _) (sn_sipush (jm_dc dc_297_0 13 rfl) (by decide)) (
  jm_gc (pu_callS _ _) (sn_callS (jm_dc dc_297_0 14 rfl) lk_11_218) (
  jm_gc (pu_ifne _) (sn_ifne (jm_dc dc_297_0 15 rfl) (by decide)) (
  jm_gc (pu_ic _ _) (sn_bipush (jm_dc dc_297_0 16 rfl) (by decide)) (
  jm_gc (pu_iret) (sn_iret (jm_dc dc_297_0 17 rfl) rfl) (
  jm_gc (pu_aload _ _) (sn_aload_n (i := 0) (jm_dc dc_297_0 18 rfl)) (
  jm_gc (pu_getI _ _) (sn_getI (jm_dc dc_297_0 19 rfl) fl_11_585 (Or.inl rfl)) (
  jm_gc (pu_ic _ _) (sn_bipush (jm_dc dc_297_0 20 rfl) (by decide)) (
  jm_gc (pu_cne _) (sn_cne (jm_dc dc_297_0 21 rfl) (by decide)) (
  jm_gc (pu_ic _ _) (sn_bipush (jm_dc dc_297_0 22 rfl) (by decide)) (
  jm_gc (pu_iret) (sn_iret (jm_dc dc_297_0 23 rfl) rfl) (
  jm_gc (pu_aload _ _) (sn_aload_n (i := 0) (jm_dc dc_297_0 24 rfl)) (
  jm_gn)))))))))))))))))))))))))
theorem dc_297_1 : ([(47, .getfield 190, 3), (50, .aload_n 0, 1), (51, .getfield 585, 3), (54, .iload_n 1, 1), (55, .iastore, 1), (56, .aload_n 0, 1), (57, .getfield 193, 3), (60, .aload_n 0, 1), (61, .getfield 585, 3), (64, .iload_n 2, 1), (65, .iastore, 1), (66, .aload_n 0, 1), (67, .getfield 196, 3), (70, .aload_n 0, 1), (71, .getfield 585, 3), (74, .iload_n 3, 1), (75, .iastore, 1), (76, .aload_n 0, 1), (77, .dup, 1), (78, .getfield 585, 3), (81, .iconst 1, 1), (82, .iadd, 1), (83, .putfield 585, 3), (86, .aload_n 0, 1), (87, .getfield 585, 3)] : List (Nat × Instr × Nat)).all (fun e => decide (decode prog_14_method_129_code e.1 = .ok e.2)) = true := by decide +kernel
abbrev cl_297_1 : List (Nat × jm_O) := [(47, op_getA 11 88), (50, op_aload 0 1), (51, op_getI 11 87), (54, op_iload 1 1), (55, op_iast), (56, op_aload 0 1), (57, op_getA 11 89), (60, op_aload 0 1), (61, op_getI 11 87), (64, op_iload 2 1), (65, op_iast), (66, op_aload 0 1), (67, op_getA 11 90), (70, op_aload 0 1), (71, op_getI 11 87), (74, op_iload 3 1), (75, op_iast), (76, op_aload 0 1), (77, op_dup), (78, op_getI 11 87), (81, op_ic 1 1), (82, op_ibin (fun x y => x + y)), (83, op_putI 11 87), (86, op_aload 0 1), (87, op_getI 11 87)]
set_option maxRecDepth 100000 in
theorem gl_297_1 : jm_gl "FrescoWallModel" prog_14_method_129_code 4 (Option.some Jvm.ClassFile.FieldType.int) false cl_297_1 :=
  jm_gc (pu_getA _ _) (sn_getA (jm_dc dc_297_1 0 rfl) fl_11_190 rfl) (
  jm_gc (pu_aload _ _) (sn_aload_n (i := 0) (jm_dc dc_297_1 1 rfl)) (
  jm_gc (pu_getI _ _) (sn_getI (jm_dc dc_297_1 2 rfl) fl_11_585 (Or.inl rfl)) (
  jm_gc (pu_iload _ _) (sn_iload_n (i := 1) (jm_dc dc_297_1 3 rfl)) (
  jm_gc (pu_iast) (sn_iast (jm_dc dc_297_1 4 rfl)) (
  jm_gc (pu_aload _ _) (sn_aload_n (i := 0) (jm_dc dc_297_1 5 rfl)) (
  jm_gc (pu_getA _ _) (sn_getA (jm_dc dc_297_1 6 rfl) fl_11_193 rfl) (
  jm_gc (pu_aload _ _) (sn_aload_n (i := 0) (jm_dc dc_297_1 7 rfl)) (
  jm_gc (pu_getI _ _) (sn_getI (jm_dc dc_297_1 8 rfl) fl_11_585 (Or.inl rfl)) (
  jm_gc (pu_iload _ _) (sn_iload_n (i := 2) (jm_dc dc_297_1 9 rfl)) (
  jm_gc (pu_iast) (sn_iast (jm_dc dc_297_1 10 rfl)) (
  jm_gc (pu_aload _ _) (sn_aload_n (i := 0) (jm_dc dc_297_1 11 rfl)) (
  jm_gc (pu_getA _ _) (sn_getA (jm_dc dc_297_1 12 rfl) fl_11_196 rfl) (
  jm_gc (pu_aload _ _) (sn_aload_n (i := 0) (jm_dc dc_297_1 13 rfl)) (
  jm_gc (pu_getI _ _) (sn_getI (jm_dc dc_297_1 14 rfl) fl_11_585 (Or.inl rfl)) (
  jm_gc (pu_iload _ _) (sn_iload_n (i := 3) (jm_dc dc_297_1 15 rfl)) (
  jm_gc (pu_iast) (sn_iast (jm_dc dc_297_1 16 rfl)) (
  jm_gc (pu_aload _ _) (sn_aload_n (i := 0) (jm_dc dc_297_1 17 rfl)) (
  jm_gc (pu_dup) (sn_dup (jm_dc dc_297_1 18 rfl)) (
  jm_gc (pu_getI _ _) (sn_getI (jm_dc dc_297_1 19 rfl) fl_11_585 (Or.inl rfl)) (
  jm_gc (pu_ic _ _) (sn_iconst (jm_dc dc_297_1 20 rfl) (by decide)) (
  jm_gc (pu_ibin _) (sn_iadd (jm_dc dc_297_1 21 rfl)) (
  jm_gc (pu_putI _ _) (sn_putI (jm_dc dc_297_1 22 rfl) flw_11_585 rfl) (
  jm_gc (pu_aload _ _) (sn_aload_n (i := 0) (jm_dc dc_297_1 23 rfl)) (
  jm_gc (pu_getI _ _) (sn_getI (jm_dc dc_297_1 24 rfl) fl_11_585 (Or.inl rfl)) (
  jm_gn)))))))))))))))))))))))))
theorem dc_297_2 : ([(90, .ireturn, 1)] : List (Nat × Instr × Nat)).all (fun e => decide (decode prog_14_method_129_code e.1 = .ok e.2)) = true := by decide +kernel
abbrev cl_297_2 : List (Nat × jm_O) := [(90, op_iret)]
set_option maxRecDepth 100000 in
theorem gl_297_2 : jm_gl "FrescoWallModel" prog_14_method_129_code 4 (Option.some Jvm.ClassFile.FieldType.int) false cl_297_2 :=
  jm_gc (pu_iret) (sn_iret (jm_dc dc_297_2 0 rfl) rfl) (
  jm_gn)
theorem dc_298_0 : ([(0, .iconst (-1), 1), (1, .istore 4, 2), (3, .iconst 0, 1), (4, .istore 5, 2), (6, .iload 5, 2), (8, .iload_n 3, 1), (9, .if_icmp .ge 75, 3), (12, .aload_n 0, 1), (13, .getfield 190, 3), (16, .iload 5, 2), (18, .iaload, 1), (19, .iload_n 1, 1), (20, .if_icmp .ne 18, 3), (23, .aload_n 0, 1), (24, .getfield 196, 3), (27, .iload 5, 2), (29, .iaload, 1), (30, .iload_n 2, 1), (31, .if_icmp .gt 7, 3), (34, .iconst 1, 1), (35, .goto 4, 3), (38, .iconst 0, 1), (39, .istore 6, 2), (41, .iload 6, 2), (43, .ifCond .eq 31, 3)] : List (Nat × Instr × Nat)).all (fun e => decide (decode prog_14_method_130_code e.1 = .ok e.2)) = true := by decide +kernel
abbrev cl_298_0 : List (Nat × jm_O) := [(0, op_ic (-1) 1), (1, op_istore 4 2), (3, op_ic 0 1), (4, op_istore 5 2), (6, op_iload 5 2), (8, op_iload 3 1), (9, op_cge 84), (12, op_aload 0 1), (13, op_getA 11 88), (16, op_iload 5 2), (18, op_iald 13), (19, op_iload 1 1), (20, op_cne 38), (23, op_aload 0 1), (24, op_getA 11 90), (27, op_iload 5 2), (29, op_iald 13), (30, op_iload 2 1), (31, op_cgt 38), (34, op_ic 1 1), (35, op_goto 39), (38, op_ic 0 1), (39, op_istore 6 2), (41, op_iload 6 2), (43, op_ifeq 74)]
set_option maxRecDepth 100000 in
theorem gl_298_0 : jm_gl "FrescoWallModel" prog_14_method_130_code 7 (Option.some Jvm.ClassFile.FieldType.int) false cl_298_0 :=
  jm_gc (pu_ic _ _) (sn_iconst (jm_dc dc_298_0 0 rfl) (by decide)) (
  jm_gc (pu_istore _ _) (sn_istore (jm_dc dc_298_0 1 rfl)) (
  jm_gc (pu_ic _ _) (sn_iconst (jm_dc dc_298_0 2 rfl) (by decide)) (
  jm_gc (pu_istore _ _) (sn_istore (jm_dc dc_298_0 3 rfl)) (
  jm_gc (pu_iload _ _) (sn_iload (jm_dc dc_298_0 4 rfl)) (
  jm_gc (pu_iload _ _) (sn_iload_n (i := 3) (jm_dc dc_298_0 5 rfl)) (
  jm_gc (pu_cge _) (sn_cge (jm_dc dc_298_0 6 rfl) (by decide)) (
  jm_gc (pu_aload _ _) (sn_aload_n (i := 0) (jm_dc dc_298_0 7 rfl)) (
  jm_gc (pu_getA _ _) (sn_getA (jm_dc dc_298_0 8 rfl) fl_11_190 rfl) (
  jm_gc (pu_iload _ _) (sn_iload (jm_dc dc_298_0 9 rfl)) (
  jm_gc (pu_iald _) (sn_iald (jm_dc dc_298_0 10 rfl)) (
  jm_gc (pu_iload _ _) (sn_iload_n (i := 1) (jm_dc dc_298_0 11 rfl)) (
  jm_gc (pu_cne _) (sn_cne (jm_dc dc_298_0 12 rfl) (by decide)) (
  jm_gc (pu_aload _ _) (sn_aload_n (i := 0) (jm_dc dc_298_0 13 rfl)) (
  jm_gc (pu_getA _ _) (sn_getA (jm_dc dc_298_0 14 rfl) fl_11_196 rfl) (
  jm_gc (pu_iload _ _) (sn_iload (jm_dc dc_298_0 15 rfl)) (
  jm_gc (pu_iald _) (sn_iald (jm_dc dc_298_0 16 rfl)) (
  jm_gc (pu_iload _ _) (sn_iload_n (i := 2) (jm_dc dc_298_0 17 rfl)) (
  jm_gc (pu_cgt _) (sn_cgt (jm_dc dc_298_0 18 rfl) (by decide)) (
  jm_gc (pu_ic _ _) (sn_iconst (jm_dc dc_298_0 19 rfl) (by decide)) (
  jm_gc (pu_goto _) (sn_goto (jm_dc dc_298_0 20 rfl) (by decide)) (
  jm_gc (pu_ic _ _) (sn_iconst (jm_dc dc_298_0 21 rfl) (by decide)) (
  jm_gc (pu_istore _ _) (sn_istore (jm_dc dc_298_0 22 rfl)) (
  jm_gc (pu_iload _ _) (sn_iload (jm_dc dc_298_0 23 rfl)) (
  jm_gc (pu_ifeq _) (sn_ifeq (jm_dc dc_298_0 24 rfl) (by decide)) (
  jm_gn)))))))))))))))))))))))))
theorem dc_298_1 : ([(46, .iload 4, 2), (48, .iconst (-1), 1), (49, .if_icmp .eq 20, 3), (52, .aload_n 0, 1), (53, .getfield 196, 3), (56, .iload 5, 2), (58, .iaload, 1), (59, .aload_n 0, 1), (60, .getfield 196, 3), (63, .iload 4, 2), (65, .iaload, 1), (66, .if_icmp .lt 8, 3), (69, .iload 5, 2), (71, .goto 5, 3), (74, .iload 4, 2), (76, .istore 4, 2), (78, .iinc 5 1, 3), (81, .goto (-75), 3), (84, .iload 4, 2), (86, .iconst (-1), 1), (87, .if_icmp .ne 7, 3), (90, .iconst (-1), 1), (91, .goto 10, 3), (94, .aload_n 0, 1), (95, .getfield 193, 3)] : List (Nat × Instr × Nat)).all (fun e => decide (decode prog_14_method_130_code e.1 = .ok e.2)) = true := by decide +kernel
abbrev cl_298_1 : List (Nat × jm_O) := [(46, op_iload 4 2), (48, op_ic (-1) 1), (49, op_ceq 69), (52, op_aload 0 1), (53, op_getA 11 90), (56, op_iload 5 2), (58, op_iald 13), (59, op_aload 0 1), (60, op_getA 11 90), (63, op_iload 4 2), (65, op_iald 13), (66, op_clt 74), (69, op_iload 5 2), (71, op_goto 76), (74, op_iload 4 2), (76, op_istore 4 2), (78, op_iinc 5 1), (81, op_goto 6), (84, op_iload 4 2), (86, op_ic (-1) 1), (87, op_cne 94), (90, op_ic (-1) 1), (91, op_goto 101), (94, op_aload 0 1), (95, op_getA 11 89)]
set_option maxRecDepth 100000 in
theorem gl_298_1 : jm_gl "FrescoWallModel" prog_14_method_130_code 7 (Option.some Jvm.ClassFile.FieldType.int) false cl_298_1 :=
  jm_gc (pu_iload _ _) (sn_iload (jm_dc dc_298_1 0 rfl)) (
  jm_gc (pu_ic _ _) (sn_iconst (jm_dc dc_298_1 1 rfl) (by decide)) (
  jm_gc (pu_ceq _) (sn_ceq (jm_dc dc_298_1 2 rfl) (by decide)) (
  jm_gc (pu_aload _ _) (sn_aload_n (i := 0) (jm_dc dc_298_1 3 rfl)) (
  jm_gc (pu_getA _ _) (sn_getA (jm_dc dc_298_1 4 rfl) fl_11_196 rfl) (
  jm_gc (pu_iload _ _) (sn_iload (jm_dc dc_298_1 5 rfl)) (
  jm_gc (pu_iald _) (sn_iald (jm_dc dc_298_1 6 rfl)) (
  jm_gc (pu_aload _ _) (sn_aload_n (i := 0) (jm_dc dc_298_1 7 rfl)) (
  jm_gc (pu_getA _ _) (sn_getA (jm_dc dc_298_1 8 rfl) fl_11_196 rfl) (
  jm_gc (pu_iload _ _) (sn_iload (jm_dc dc_298_1 9 rfl)) (
  jm_gc (pu_iald _) (sn_iald (jm_dc dc_298_1 10 rfl)) (
  jm_gc (pu_clt _) (sn_clt (jm_dc dc_298_1 11 rfl) (by decide)) (
  jm_gc (pu_iload _ _) (sn_iload (jm_dc dc_298_1 12 rfl)) (
  jm_gc (pu_goto _) (sn_goto (jm_dc dc_298_1 13 rfl) (by decide)) (
  jm_gc (pu_iload _ _) (sn_iload (jm_dc dc_298_1 14 rfl)) (
  jm_gc (pu_istore _ _) (sn_istore (jm_dc dc_298_1 15 rfl)) (
  jm_gc (pu_iinc _ _) (sn_iinc (jm_dc dc_298_1 16 rfl) (by decide)) (
  jm_gc (pu_goto _) (sn_goto (jm_dc dc_298_1 17 rfl) (by decide)) (
  jm_gc (pu_iload _ _) (sn_iload (jm_dc dc_298_1 18 rfl)) (
  jm_gc (pu_ic _ _) (sn_iconst (jm_dc dc_298_1 19 rfl) (by decide)) (
  jm_gc (pu_cne _) (sn_cne (jm_dc dc_298_1 20 rfl) (by decide)) (
  jm_gc (pu_ic _ _) (sn_iconst (jm_dc dc_298_1 21 rfl) (by decide)) (
  jm_gc (pu_goto _) (sn_goto (jm_dc dc_298_1 22 rfl) (by decide)) (
  jm_gc (pu_aload _ _) (sn_aload_n (i := 0) (jm_dc dc_298_1 23 rfl)) (
  jm_gc (pu_getA _ _) (sn_getA (jm_dc dc_298_1 24 rfl) fl_11_193 rfl) (
  jm_gn)))))))))))))))))))))))))
theorem dc_298_2 : ([(98, .iload 4, 2), (100, .iaload, 1), (101, .ireturn, 1)] : List (Nat × Instr × Nat)).all (fun e => decide (decode prog_14_method_130_code e.1 = .ok e.2)) = true := by decide +kernel
abbrev cl_298_2 : List (Nat × jm_O) := [(98, op_iload 4 2), (100, op_iald 13), (101, op_iret)]
set_option maxRecDepth 100000 in
theorem gl_298_2 : jm_gl "FrescoWallModel" prog_14_method_130_code 7 (Option.some Jvm.ClassFile.FieldType.int) false cl_298_2 :=
  jm_gc (pu_iload _ _) (sn_iload (jm_dc dc_298_2 0 rfl)) (
  jm_gc (pu_iald _) (sn_iald (jm_dc dc_298_2 1 rfl)) (
  jm_gc (pu_iret) (sn_iret (jm_dc dc_298_2 2 rfl) rfl) (
  jm_gn)))
theorem dc_299_0 : ([(0, .aload_n 0, 1), (1, .iload_n 1, 1), (2, .invokevirtual 222, 3), (5, .ifCond .eq 15, 3), (8, .iload_n 3, 1), (9, .iconst 0, 1), (10, .aload_n 0, 1), (11, .getfield 585, 3), (14, .invokestatic 218, 3), (17, .ifCond .ne 5, 3), (20, .iconst (-1), 1), (21, .ireturn, 1), (22, .iload_n 2, 1), (23, .iconst 0, 1), (24, .sipush 999, 3), (27, .invokestatic 218, 3), (30, .ifCond .ne 6, 3), (33, .bipush (-2), 2), (35, .ireturn, 1), (36, .aload_n 0, 1), (37, .iload_n 1, 1), (38, .iload_n 2, 1), (39, .iload_n 3, 1), (40, .invokevirtual 588, 3), (43, .istore 4, 2)] : List (Nat × Instr × Nat)).all (fun e => decide (decode prog_14_method_131_code e.1 = .ok e.2)) = true := by decide +kernel
abbrev cl_299_0 : List (Nat × jm_O) := [(0, op_aload 0 1), (1, op_iload 1 1), (2, op_callV 11 172 2), (5, op_ifeq 20), (8, op_iload 3 1), (9, op_ic 0 1), (10, op_aload 0 1), (11, op_getI 11 87), (14, op_callS 171 3), (17, op_ifne 22), (20, op_ic (-1) 1), (21, op_iret), (22, op_iload 2 1), (23, op_ic 0 1), (24, op_ic 999 3), (27, op_callS 171 3), (30, op_ifne 36), (33, op_ic (-2) 2), (35, op_iret), (36, op_aload 0 1), (37, op_iload 1 1), (38, op_iload 2 1), (39, op_iload 3 1), (40, op_callV 11 298 4), (43, op_istore 4 2)]
set_option maxRecDepth 100000 in
theorem gl_299_0 : jm_gl "FrescoWallModel" prog_14_method_131_code 5 (Option.some Jvm.ClassFile.FieldType.int) false cl_299_0 :=
  jm_gc (pu_aload _ _) (sn_aload_n (i := 0) (jm_dc dc_299_0 0 rfl)) (
  jm_gc (pu_iload _ _) (sn_iload_n (i := 1) (jm_dc dc_299_0 1 rfl)) (
  jm_gc (pu_callV _ _ _) (sn_callV (jm_dc dc_299_0 2 rfl) lk_11_222) (
  jm_gc (pu_ifeq _) (sn_ifeq (jm_dc dc_299_0 3 rfl) (by decide)) (
  jm_gc (pu_iload _ _) (sn_iload_n (i := 3) (jm_dc dc_299_0 4 rfl)) (
  jm_gc (pu_ic _ _) (sn_iconst (jm_dc dc_299_0 5 rfl) (by decide)) (
  jm_gc (pu_aload _ _) (sn_aload_n (i := 0) (jm_dc dc_299_0 6 rfl)) (
  jm_gc (pu_getI _ _) (sn_getI (jm_dc dc_299_0 7 rfl) fl_11_585 (Or.inl rfl)) (
  jm_gc (pu_callS _ _) (sn_callS (jm_dc dc_299_0 8 rfl) lk_11_218) (
  jm_gc (pu_ifne _) (sn_ifne (jm_dc dc_299_0 9 rfl) (by decide)) (
  jm_gc (pu_ic _ _) (sn_iconst (jm_dc dc_299_0 10 rfl) (by decide)) (
  jm_gc (pu_iret) (sn_iret (jm_dc dc_299_0 11 rfl) rfl) (
  jm_gc (pu_iload _ _) (sn_iload_n (i := 2) (jm_dc dc_299_0 12 rfl)) (
  jm_gc (pu_ic _ _) (sn_iconst (jm_dc dc_299_0 13 rfl) (by decide)) (
  jm_gc (pu_ic _ _) (sn_sipush (jm_dc dc_299_0 14 rfl) (by decide)) (
  jm_gc (pu_callS _ _) (sn_callS (jm_dc dc_299_0 15 rfl) lk_11_218) (
  jm_gc (pu_ifne _) (sn_ifne (jm_dc dc_299_0 16 rfl) (by decide)) (
  jm_gc (pu_ic _ _) (sn_bipush (jm_dc dc_299_0 17 rfl) (by decide)) (
  jm_gc (pu_iret) (sn_iret (jm_dc dc_299_0 18 rfl) rfl) (
  jm_gc (pu_aload _ _) (sn_aload_n (i := 0) (jm_dc dc_299_0 19 rfl)) (
  jm_gc (pu_iload _ _) (sn_iload_n (i := 1) (jm_dc dc_299_0 20 rfl)) (
  jm_gc (pu_iload _ _) (sn_iload_n (i := 2) (jm_dc dc_299_0 21 rfl)) (
  jm_gc (pu_iload _ _) (sn_iload_n (i := 3) (jm_dc dc_299_0 22 rfl)) (
  jm_gc (pu_callV _ _ _) (sn_callV (jm_dc dc_299_0 23 rfl) lk_11_588) (
  jm_gc (pu_istore _ _) (sn_istore (jm_dc dc_299_0 24 rfl)) (
  jm_gn)))))))))))))))))))))))))
theorem dc_299_1 : ([(45, .iload 4, 2), (47, .iconst (-1), 1), (48, .if_icmp .ne 8, 3), (51, .bipush (-5), 2), (53, .goto 5, 3), (56, .iload 4, 2), (58, .ireturn, 1)] : List (Nat × Instr × Nat)).all (fun e => decide (decode prog_14_method_131_code e.1 = .ok e.2)) = true := by decide +kernel
abbrev cl_299_1 : List (Nat × jm_O) := [(45, op_iload 4 2), (47, op_ic (-1) 1), (48, op_cne 56), (51, op_ic (-5) 2), (53, op_goto 58), (56, op_iload 4 2), (58, op_iret)]
set_option maxRecDepth 100000 in
theorem gl_299_1 : jm_gl "FrescoWallModel" prog_14_method_131_code 5 (Option.some Jvm.ClassFile.FieldType.int) false cl_299_1 :=
  jm_gc (pu_iload _ _) (sn_iload (jm_dc dc_299_1 0 rfl)) (
  jm_gc (pu_ic _ _) (sn_iconst (jm_dc dc_299_1 1 rfl) (by decide)) (
  jm_gc (pu_cne _) (sn_cne (jm_dc dc_299_1 2 rfl) (by decide)) (
  jm_gc (pu_ic _ _) (sn_bipush (jm_dc dc_299_1 3 rfl) (by decide)) (
  jm_gc (pu_goto _) (sn_goto (jm_dc dc_299_1 4 rfl) (by decide)) (
  jm_gc (pu_iload _ _) (sn_iload (jm_dc dc_299_1 5 rfl)) (
  jm_gc (pu_iret) (sn_iret (jm_dc dc_299_1 6 rfl) rfl) (
  jm_gn)))))))
theorem dc_300_0 : ([(0, .iload_n 1, 1), (1, .iconst 0, 1), (2, .iconst 5, 1), (3, .invokestatic 218, 3), (6, .ifCond .eq 13, 3), (9, .iload_n 2, 1), (10, .iconst 0, 1), (11, .bipush 9, 2), (13, .invokestatic 218, 3), (16, .ifCond .ne 5, 3), (19, .iconst (-1), 1), (20, .ireturn, 1), (21, .iload_n 3, 1), (22, .iconst 0, 1), (23, .bipush 9, 2), (25, .invokestatic 218, 3), (28, .ifCond .ne 6, 3), (31, .bipush (-2), 2), (33, .ireturn, 1), (34, .aload_n 0, 1), (35, .getfield 199, 3), (38, .bipush 10, 2), (40, .iload_n 1, 1), (41, .imul, 1), (42, .iload_n 2, 1)] : List (Nat × Instr × Nat)).all (fun e => decide (decode prog_14_method_132_code e.1 = .ok e.2)) = true := by decide +kernel
abbrev cl_300_0 : List (Nat × jm_O) := [(0, op_iload 1 1), (1, op_ic 0 1), (2, op_ic 5 1), (3, op_callS 171 3), (6, op_ifeq 19), (9, op_iload 2 1), (10, op_ic 0 1), (11, op_ic 9 2), (13, op_callS 171 3), (16, op_ifne 21), (19, op_ic (-1) 1), (20, op_iret), (21, op_iload 3 1), (22, op_ic 0 1), (23, op_ic 9 2), (25, op_callS 171 3), (28, op_ifne 34), (31, op_ic (-2) 2), (33, op_iret), (34, op_aload 0 1), (35, op_getA 11 91), (38, op_ic 10 2), (40, op_iload 1 1), (41, op_ibin (fun x y => x * y)), (42, op_iload 2 1)]
set_option maxRecDepth 100000 in
theorem gl_300_0 : jm_gl "FrescoWallModel" prog_14_method_132_code 5 (Option.some Jvm.ClassFile.FieldType.int) false cl_300_0 :=
  jm_gc (pu_iload _ _) (sn_iload_n (i := 1) (jm_dc dc_300_0 0 rfl)) (
  jm_gc (pu_ic _ _) (sn_iconst (jm_dc dc_300_0 1 rfl) (by decide)) (
  jm_gc (pu_ic _ _) (sn_iconst (jm_dc dc_300_0 2 rfl) (by decide)) (
  jm_gc (pu_callS _ _) (sn_callS (jm_dc dc_300_0 3 rfl) lk_11_218) (
  jm_gc (pu_ifeq _) (sn_ifeq (jm_dc dc_300_0 4 rfl) (by decide)) (
  jm_gc (pu_iload _ _) (sn_iload_n (i := 2) (jm_dc dc_300_0 5 rfl)) (
  jm_gc (pu_ic _ _) (sn_iconst (jm_dc dc_300_0 6 rfl) (by decide)) (
  jm_gc (pu_ic _ _) (sn_bipush (jm_dc dc_300_0 7 rfl) (by decide)) (
  jm_gc (pu_callS _ _) (sn_callS (jm_dc dc_300_0 8 rfl) lk_11_218) (
  jm_gc (pu_ifne _) (sn_ifne (jm_dc dc_300_0 9 rfl) (by decide)) (
  jm_gc (pu_ic _ _) (sn_iconst (jm_dc dc_300_0 10 rfl) (by decide)) (
  jm_gc (pu_iret) (sn_iret (jm_dc dc_300_0 11 rfl) rfl) (
  jm_gc (pu_iload _ _) (sn_iload_n (i := 3) (jm_dc dc_300_0 12 rfl)) (
  jm_gc (pu_ic _ _) (sn_iconst (jm_dc dc_300_0 13 rfl) (by decide)) (
  jm_gc (pu_ic _ _) (sn_bipush (jm_dc dc_300_0 14 rfl) (by decide)) (
  jm_gc (pu_callS _ _) (sn_callS (jm_dc dc_300_0 15 rfl) lk_11_218) (
  jm_gc (pu_ifne _) (sn_ifne (jm_dc dc_300_0 16 rfl) (by decide)) (
  jm_gc (pu_ic _ _) (sn_bipush (jm_dc dc_300_0 17 rfl) (by decide)) (
  jm_gc (pu_iret) (sn_iret (jm_dc dc_300_0 18 rfl) rfl) (
  jm_gc (pu_aload _ _) (sn_aload_n (i := 0) (jm_dc dc_300_0 19 rfl)) (
  jm_gc (pu_getA _ _) (sn_getA (jm_dc dc_300_0 20 rfl) fl_11_199 rfl) (
  jm_gc (pu_ic _ _) (sn_bipush (jm_dc dc_300_0 21 rfl) (by decide)) (
  jm_gc (pu_iload _ _) (sn_iload_n (i := 1) (jm_dc dc_300_0 22 rfl)) (
  jm_gc (pu_ibin _) (sn_imul (jm_dc dc_300_0 23 rfl)) (
  jm_gc (pu_iload _ _) (sn_iload_n (i := 2) (jm_dc dc_300_0 24 rfl)) (
  jm_gn)))))))))))))))))))))))))
theorem dc_300_1 : ([(43, .iadd, 1), (44, .iaload, 1), (45, .istore 4, 2), (47, .aload_n 0, 1), (48, .getfield 199, 3), (51, .bipush 10, 2), (53, .iload_n 1, 1), (54, .imul, 1), (55, .iload_n 2, 1), (56, .iadd, 1), (57, .iload_n 3, 1), (58, .iastore, 1), (59, .iload 4, 2), (61, .ireturn, 1)] : List (Nat × Instr × Nat)).all (fun e => decide (decode prog_14_method_132_code e.1 = .ok e.2)) = true := by decide +kernel
abbrev cl_300_1 : List (Nat × jm_O) := [(43, op_ibin (fun x y => x + y)), (44, op_iald 13), (45, op_istore 4 2), (47, op_aload 0 1), (48, op_getA 11 91), (51, op_ic 10 2), (53, op_iload 1 1), (54, op_ibin (fun x y => x * y)), (55, op_iload 2 1), (56, op_ibin (fun x y => x + y)), (57, op_iload 3 1), (58, op_iast), (59, op_iload 4 2), (61, op_iret)]
set_option maxRecDepth 100000 in
theorem gl_300_1 : jm_gl "FrescoWallModel" prog_14_method_132_code 5 (Option.some Jvm.ClassFile.FieldType.int) false cl_300_1 :=
  jm_gc (pu_ibin _) (sn_iadd (jm_dc dc_300_1 0 rfl)) (
  jm_gc (pu_iald _) (sn_iald (jm_dc dc_300_1 1 rfl)) (
  jm_gc (pu_istore _ _) (sn_istore (jm_dc dc_300_1 2 rfl)) (
  jm_gc (pu_aload _ _) (sn_aload_n (i := 0) (jm_dc dc_300_1 3 rfl)) (
  jm_gc (pu_getA _ _) (sn_getA (jm_dc dc_300_1 4 rfl) fl_11_199 rfl) (
  jm_gc (pu_ic _ _) (sn_bipush (jm_dc dc_300_1 5 rfl) (by decide)) (
  jm_gc (pu_iload _ _) (sn_iload_n (i := 1) (jm_dc dc_300_1 6 rfl)) (
  jm_gc (pu_ibin _) (sn_imul (jm_dc dc_300_1 7 rfl)) (
  jm_gc (pu_iload _ _) (sn_iload_n (i := 2) (jm_dc dc_300_1 8 rfl)) (
  jm_gc (pu_ibin _) (sn_iadd (jm_dc dc_300_1 9 rfl)) (
  jm_gc (pu_iload _ _) (sn_iload_n (i := 3) (jm_dc dc_300_1 10 rfl)) (
  jm_gc (pu_iast) (sn_iast (jm_dc dc_300_1 11 rfl)) (
  jm_gc (pu_iload _ _) (sn_iload (jm_dc dc_300_1 12 rfl)) (
  jm_gc (pu_iret) (sn_iret (jm_dc dc_300_1 13 rfl) rfl) (
  jm_gn))))))))))))))
theorem dc_301_0 : ([(0, .iload_n 3, 1), (1, .bipush 10, 2), (3, .if_icmp .ne 20, 3), (6, .aload_n 0, 1), (7, .getfield 205, 3), (10, .sipush 1024, 3), (13, .iload_n 1, 1), (14, .imul, 1), (15, .sipush 1024, 3), (18, .iadd, 1), (19, .iload_n 2, 1), (20, .iadd, 1), (21, .iaload, 1), (22, .ireturn, 1), (23, .iload_n 2, 1), (24, .iload_n 3, 1), (25, .ishr, 1), (26, .iconst 1, 1), (27, .iand, 1), (28, .ifCond .ne 7, 3), (31, .iconst (-1), 1), (32, .goto 37, 3), (35, .aload_n 0, 1), (36, .getfield 202, 3), (39, .bipush 10, 2)] : List (Nat × Instr × Nat)).all (fun e => decide (decode prog_14_method_133_code e.1 = .ok e.2)) = true := by decide +kernel
abbrev cl_301_0 : List (Nat × jm_O) := [(0, op_iload 3 1), (1, op_ic 10 2), (3, op_cne 23), (6, op_aload 0 1), (7, op_getA 11 93), (10, op_ic 1024 3), (13, op_iload 1 1), (14, op_ibin (fun x y => x * y)), (15, op_ic 1024 3), (18, op_ibin (fun x y => x + y)), (19, op_iload 2 1), (20, op_ibin (fun x y => x + y)), (21, op_iald 13), (22, op_iret), (23, op_iload 2 1), (24, op_iload 3 1), (25, op_ibin (fun x y => x >>> (y &&& 31))), (26, op_ic 1 1), (27, op_ibin (fun x y => x &&& y)), (28, op_ifne 35), (31, op_ic (-1) 1), (32, op_goto 69), (35, op_aload 0 1), (36, op_getA 11 92), (39, op_ic 10 2)]
set_option maxRecDepth 100000 in
theorem gl_301_0 : jm_gl "FrescoWallModel" prog_14_method_133_code 4 (Option.some Jvm.ClassFile.FieldType.int) false cl_301_0 :=
  jm_gc (pu_iload _ _) (sn_iload_n (i := 3) (jm_dc dc_301_0 0 rfl)) (
  jm_gc (pu_ic _ _) (sn_bipush (jm_dc dc_301_0 1 rfl) (by decide)) (
  jm_gc (pu_cne _) (sn_cne (jm_dc dc_301_0 2 rfl) (by decide)) (
  jm_gc (pu_aload _ _) (sn_aload_n (i := 0) (jm_dc dc_301_0 3 rfl)) (
  jm_gc (pu_getA _ _) (sn_getA (jm_dc dc_301_0 4 rfl) fl_11_205 rfl) (
  jm_gc (pu_ic _ _) (sn_sipush (jm_dc dc_301_0 5 rfl) (by decide)) (
  jm_gc (pu_iload _ _) (sn_iload_n (i := 1) (jm_dc dc_301_0 6 rfl)) (
  jm_gc (pu_ibin _) (sn_imul (jm_dc dc_301_0 7 rfl)) (
  jm_gc (pu_ic _ _) (sn_sipush (jm_dc dc_301_0 8 rfl) (by decide)) (
  jm_gc (pu_ibin _) (sn_iadd (jm_dc dc_301_0 9 rfl)) (
  jm_gc (pu_iload _ _) (sn_iload_n (i := 2) (jm_dc dc_301_0 10 rfl)) (
  jm_gc (pu_ibin _) (sn_iadd (jm_dc dc_301_0 11 rfl)) (
  jm_gc (pu_iald _) (sn_iald (jm_dc dc_301_0 12 rfl)) (
  jm_gc (pu_iret) (sn_iret (jm_dc dc_301_0 13 rfl) rfl) (
  jm_gc (pu_iload _ _) (sn_iload_n (i := 2) (jm_dc dc_301_0 14 rfl)) (
  jm_gc (pu_iload _ _) (sn_iload_n (i := 3) (jm_dc dc_301_0 15 rfl)) (
  jm_gc (pu_ibin _) (sn_ishr (jm_dc dc_301_0 16 rfl)) (
  jm_gc (pu_ic _ _) (sn_iconst (jm_dc dc_301_0 17 rfl) (by decide)) (
  jm_gc (pu_ibin _) (sn_iand (jm_dc dc_301_0 18 rfl)) (
  jm_gc (pu_ifne _) (sn_ifne (jm_dc dc_301_0 19 rfl) (by decide)) (
  jm_gc (pu_ic _ _) (sn_iconst (jm_dc dc_301_0 20 rfl) (by decide)) (
  jm_gc (pu_goto _) (sn_goto (jm_dc dc_301_0 21 rfl) (by decide)) (
  jm_gc (pu_aload _ _) (sn_aload_n (i := 0) (jm_dc dc_301_0 22 rfl)) (
  jm_gc (pu_getA _ _) (sn_getA (jm_dc dc_301_0 23 rfl) fl_11_202 rfl) (
  jm_gc (pu_ic _ _) (sn_bipush (jm_dc dc_301_0 24 rfl) (by decide)) (
  jm_gn)))))))))))))))))))))))))
theorem dc_301_1 : ([(41, .iload_n 1, 1), (42, .imul, 1), (43, .iload_n 3, 1), (44, .iadd, 1), (45, .iaload, 1), (46, .aload_n 0, 1), (47, .getfield 205, 3), (50, .sipush 1024, 3), (53, .iload_n 1, 1), (54, .imul, 1), (55, .sipush 1024, 3), (58, .iadd, 1), (59, .iload_n 2, 1), (60, .iconst 1, 1), (61, .iload_n 3, 1), (62, .ishl, 1), (63, .iconst (-1), 1), (64, .ixor, 1), (65, .iand, 1), (66, .iadd, 1), (67, .iaload, 1), (68, .iadd, 1), (69, .ireturn, 1)] : List (Nat × Instr × Nat)).all (fun e => decide (decode prog_14_method_133_code e.1 = .ok e.2)) = true := by decide +kernel
abbrev cl_301_1 : List (Nat × jm_O) := [(41, op_iload 1 1), (42, op_ibin (fun x y => x * y)), (43, op_iload 3 1), (44, op_ibin (fun x y => x + y)), (45, op_iald 13), (46, op_aload 0 1), (47, op_getA 11 93), (50, op_ic 1024 3), (53, op_iload 1 1), (54, op_ibin (fun x y => x * y)), (55, op_ic 1024 3), (58, op_ibin (fun x y => x + y)), (59, op_iload 2 1), (60, op_ic 1 1), (61, op_iload 3 1), (62, op_ibin (fun x y => x <<< (y &&& 31))), (63, op_ic (-1) 1), (64, op_ibin (fun x y => x ^^^ y)), (65, op_ibin (fun x y => x &&& y)), (66, op_ibin (fun x y => x + y)), (67, op_iald 13), (68, op_ibin (fun x y => x + y)), (69, op_iret)]
set_option maxRecDepth 100000 in
theorem gl_301_1 : jm_gl "FrescoWallModel" prog_14_method_133_code 4 (Option.some Jvm.ClassFile.FieldType.int) false cl_301_1 :=
  jm_gc (pu_iload _ _) (sn_iload_n (i := 1) (jm_dc dc_301_1 0 rfl)) (
  jm_gc (pu_ibin _) (sn_imul (jm_dc dc_301_1 1 rfl)) (
  jm_gc (pu_iload _ _) (sn_iload_n (i := 3) (jm_dc dc_301_1 2 rfl)) (
  jm_gc (pu_ibin _) (sn_iadd (jm_dc dc_301_1 3 rfl)) (
  jm_gc (pu_iald _) (sn_iald (jm_dc dc_301_1 4 rfl)) (
  jm_gc (pu_aload _ _) (sn_aload_n (i := 0) (jm_dc dc_301_1 5 rfl)) (
  jm_gc (pu_getA _ _) (sn_getA (jm_dc dc_301_1 6 rfl) fl_11_205 rfl) (
  jm_gc (pu_ic _ _) (sn_sipush (jm_dc dc_301_1 7 rfl) (by decide)) (
  jm_gc (pu_iload _ _) (sn_iload_n (i := 1) (jm_dc dc_301_1 8 rfl)) (
  jm_gc (pu_ibin _) (sn_imul (jm_dc dc_301_1 9 rfl)) (
  jm_gc (pu_ic _ _) (sn_sipush (jm_dc dc_301_1 10 rfl) (by decide)) (
  jm_gc (pu_ibin _) (sn_iadd (jm_dc dc_301_1 11 rfl)) (
  jm_gc (pu_iload _ _) (sn_iload_n (i := 2) (jm_dc dc_301_1 12 rfl)) (
  jm_gc (pu_ic _ _) (sn_iconst (jm_dc dc_301_1 13 rfl) (by decide)) (
  jm_gc (pu_iload _ _) (sn_iload_n (i := 3) (jm_dc dc_301_1 14 rfl)) (
  jm_gc (pu_ibin _) (sn_ishl (jm_dc dc_301_1 15 rfl)) (
  jm_gc (pu_ic _ _) (sn_iconst (jm_dc dc_301_1 16 rfl) (by decide)) (
  jm_gc (pu_ibin _) (sn_ixor (jm_dc dc_301_1 17 rfl)) (
  jm_gc (pu_ibin _) (sn_iand (jm_dc dc_301_1 18 rfl)) (
  jm_gc (pu_ibin _) (sn_iadd (jm_dc dc_301_1 19 rfl)) (
  jm_gc (pu_iald _) (sn_iald (jm_dc dc_301_1 20 rfl)) (
  jm_gc (pu_ibin _) (sn_iadd (jm_dc dc_301_1 21 rfl)) (
  jm_gc (pu_iret) (sn_iret (jm_dc dc_301_1 22 rfl) rfl) (
  jm_gn)))))))))))))))))))))))
theorem dc_302_0 : ([(0, .iconst 0, 1), (1, .istore_n 1, 1), (2, .iload_n 1, 1), (3, .bipush 60, 2), (5, .if_icmp .ge 16, 3), (8, .aload_n 0, 1), (9, .getfield 202, 3), (12, .iload_n 1, 1), (13, .iconst 0, 1), (14, .iastore, 1), (15, .iinc 1 1, 3), (18, .goto (-16), 3), (21, .iconst 0, 1), (22, .istore_n 1, 1), (23, .iload_n 1, 1), (24, .aload_n 0, 1), (25, .getfield 215, 3), (28, .if_icmp .ge 71, 3), (31, .aload_n 0, 1), (32, .iload_n 1, 1), (33, .sipush 999, 3), (36, .aload_n 0, 1), (37, .getfield 585, 3), (40, .invokevirtual 588, 3), (43, .istore_n 2, 1)] : List (Nat × Instr × Nat)).all (fun e => decide (decode prog_14_method_134_code e.1 = .ok e.2)) = true := by decide +kernel
abbrev cl_302_0 : List (Nat × jm_O) := [(0, op_ic 0 1), (1, op_istore 1 1), (2, op_iload 1 1), (3, op_ic 60 2), (5, op_cge 21), (8, op_aload 0 1), (9, op_getA 11 92), (12, op_iload 1 1), (13, op_ic 0 1), (14, op_iast), (15, op_iinc 1 1), (18, op_goto 2), (21, op_ic 0 1), (22, op_istore 1 1), (23, op_iload 1 1), (24, op_aload 0 1), (25, op_getI 11 3), (28, op_cge 99), (31, op_aload 0 1), (32, op_iload 1 1), (33, op_ic 999 3), (36, op_aload 0 1), (37, op_getI 11 87), (40, op_callV 11 298 4), (43, op_istore 2 1)]
set_option maxRecDepth 100000 in
theorem gl_302_0 : jm_gl "FrescoWallModel" prog_14_method_134_code 6 (Option.some Jvm.ClassFile.FieldType.int) false cl_302_0 :=
  jm_gc (pu_ic _ _) (sn_iconst (jm_dc dc_302_0 0 rfl) (by decide)) (
  jm_gc (pu_istore _ _) (sn_istore_n (i := 1) (jm_dc dc_302_0 1 rfl)) (
  jm_gc (pu_iload _ _) (sn_iload_n (i := 1) (jm_dc dc_302_0 2 rfl)) (
  jm_gc (pu_ic _ _) (sn_bipush (jm_dc dc_302_0 3 rfl) (by decide)) (
  jm_gc (pu_cge _) (sn_cge (jm_dc dc_302_0 4 rfl) (by decide)) (
  jm_gc (pu_aload _ _) (sn_aload_n (i := 0) (jm_dc dc_302_0 5 rfl)) (
  jm_gc (pu_getA _ _) (sn_getA (jm_dc dc_302_0 6 rfl) fl_11_202 rfl) (
  jm_gc (pu_iload _ _) (sn_iload_n (i := 1) (jm_dc dc_302_0 7 rfl)) (
  jm_gc (pu_ic _ _) (sn_iconst (jm_dc dc_302_0 8 rfl) (by decide)) (
  jm_gc (pu_iast) (sn_iast (jm_dc dc_302_0 9 rfl)) (
  jm_gc (pu_iinc _ _) (sn_iinc (jm_dc dc_302_0 10 rfl) (by decide)) (
  jm_gc (pu_goto _) (sn_goto (jm_dc dc_302_0 11 rfl) (by decide)) (
  jm_gc (pu_ic _ _) (sn_iconst (jm_dc dc_302_0 12 rfl) (by decide)) (
  jm_gc (pu_istore _ _) (sn_istore_n (i := 1) (jm_dc dc_302_0 13 rfl)) (
  jm_gc (pu_iload _ _) (sn_iload_n (i := 1) (jm_dc dc_302_0 14 rfl)) (
  jm_gc (pu_aload _ _) (sn_aload_n (i := 0) (jm_dc dc_302_0 15 rfl)) (
  jm_gc (pu_getI _ _) (sn_getI (jm_dc dc_302_0 16 rfl) fl_11_215 (Or.inl rfl)) (
  jm_gc (pu_cge _) (sn_cge (jm_dc dc_302_0 17 rfl) (by decide)) (
  jm_gc (pu_aload _ _) (sn_aload_n (i := 0) (jm_dc dc_302_0 18 rfl)) (
  jm_gc (pu_iload _ _) (sn_iload_n (i := 1) (jm_dc dc_302_0 19 rfl)) (
  jm_gc (pu_ic _ _) (sn_sipush (jm_dc dc_302_0 20 rfl) (by decide)) (
  jm_gc (pu_aload _ _) (sn_aload_n (i := 0) (jm_dc dc_302_0 21 rfl)) (
  jm_gc (pu_getI _ _) (sn_getI (jm_dc dc_302_0 22 rfl) fl_11_585 (Or.inl rfl)) (
  jm_gc (pu_callV _ _ _) (sn_callV (jm_dc dc_302_0 23 rfl) lk_11_588) (
  jm_gc (pu_istore _ _) (sn_istore_n (i := 2) (jm_dc dc_302_0 24 rfl)) (
  jm_gn)))))))))))))))))))))))))
theorem dc_302_1 : ([(44, .iconst 0, 1), (45, .istore_n 3, 1), (46, .iload_n 3, 1), (47, .bipush 6, 2), (49, .if_icmp .ge 44, 3), (52, .iload_n 2, 1), (53, .iconst (-1), 1), (54, .if_icmp .eq 39, 3), (57, .aload_n 0, 1), (58, .getfield 202, 3), (61, .bipush 10, 2), (63, .iload_n 3, 1), (64, .imul, 1), (65, .iload_n 2, 1), (66, .iadd, 1), (67, .dup2, 1), (68, .iaload, 1), (69, .aload_n 0, 1), (70, .getfield 199, 3), (73, .bipush 10, 2), (75, .iload_n 3, 1), (76, .imul, 1), (77, .aload_n 0, 1), (78, .getfield 43, 3), (81, .iload_n 1, 1)] : List (Nat × Instr × Nat)).all (fun e => decide (decode prog_14_method_134_code e.1 = .ok e.2)) = true := by decide +kernel
abbrev cl_302_1 : List (Nat × jm_O) := [(44, op_ic 0 1), (45, op_istore 3 1), (46, op_iload 3 1), (47, op_ic 6 2), (49, op_cge 93), (52, op_iload 2 1), (53, op_ic (-1) 1), (54, op_ceq 93), (57, op_aload 0 1), (58, op_getA 11 92), (61, op_ic 10 2), (63, op_iload 3 1), (64, op_ibin (fun x y => x * y)), (65, op_iload 2 1), (66, op_ibin (fun x y => x + y)), (67, op_dup2), (68, op_iald 13), (69, op_aload 0 1), (70, op_getA 11 91), (73, op_ic 10 2), (75, op_iload 3 1), (76, op_ibin (fun x y => x * y)), (77, op_aload 0 1), (78, op_getA 11 14), (81, op_iload 1 1)]
set_option maxRecDepth 100000 in
theorem gl_302_1 : jm_gl "FrescoWallModel" prog_14_method_134_code 6 (Option.some Jvm.ClassFile.FieldType.int) false cl_302_1 :=
  jm_gc (pu_ic _ _) (sn_iconst (jm_dc dc_302_1 0 rfl) (by decide)) (
  jm_gc (pu_istore _ _) (sn_istore_n (i := 3) (jm_dc dc_302_1 1 rfl)) (
  jm_gc (pu_iload _ _) (sn_iload_n (i := 3) (jm_dc dc_302_1 2 rfl)) (
  jm_gc (pu_ic _ _) (sn_bipush (jm_dc dc_302_1 3 rfl) (by decide)) (
  jm_gc (pu_cge _) (sn_cge (jm_dc dc_302_1 4 rfl) (by decide)) (
  jm_gc (pu_iload _ _) (sn_iload_n (i := 2) (jm_dc dc_302_1 5 rfl)) (
  jm_gc (pu_ic _ _) (sn_iconst (jm_dc dc_302_1 6 rfl) (by decide)) (
  jm_gc (pu_ceq _) (sn_ceq (jm_dc dc_302_1 7 rfl) (by decide)) (
  jm_gc (pu_aload _ _) (sn_aload_n (i := 0) (jm_dc dc_302_1 8 rfl)) (
  jm_gc (pu_getA _ _) (sn_getA (jm_dc dc_302_1 9 rfl) fl_11_202 rfl) (
  jm_gc (pu_ic _ _) (sn_bipush (jm_dc dc_302_1 10 rfl) (by decide)) (
  jm_gc (pu_iload _ _) (sn_iload_n (i := 3) (jm_dc dc_302_1 11 rfl)) (
  jm_gc (pu_ibin _) (sn_imul (jm_dc dc_302_1 12 rfl)) (
  jm_gc (pu_iload _ _) (sn_iload_n (i := 2) (jm_dc dc_302_1 13 rfl)) (
  jm_gc (pu_ibin _) (sn_iadd (jm_dc dc_302_1 14 rfl)) (
  jm_gc (pu_dup2) (sn_dup2 (jm_dc dc_302_1 15 rfl)) (
  jm_gc (pu_iald _) (sn_iald (jm_dc dc_302_1 16 rfl)) (
  jm_gc (pu_aload _ _) (sn_aload_n (i := 0) (jm_dc dc_302_1 17 rfl)) (
  jm_gc (pu_getA _ _) (sn_getA (jm_dc dc_302_1 18 rfl) fl_11_199 rfl) (
  jm_gc (pu_ic _ _) (sn_bipush (jm_dc dc_302_1 19 rfl) (by decide)) (
  jm_gc (pu_iload _ _) (sn_iload_n (i := 3) (jm_dc dc_302_1 20 rfl)) (
  jm_gc (pu_ibin _) (sn_imul (jm_dc dc_302_1 21 rfl)) (
  jm_gc (pu_aload _ _) (sn_aload_n (i := 0) (jm_dc dc_302_1 22 rfl)) (
  jm_gc (pu_getA _ _) (sn_getA (jm_dc dc_302_1 23 rfl) fl_11_43 rfl) (
  jm_gc (pu_iload _ _) (sn_iload_n (i := 1) (jm_dc dc_302_1 24 rfl)) (
  jm_gn)))))))))))))))))))))))))
theorem dc_302_2 : ([(82, .iaload, 1), (83, .iadd, 1), (84, .iaload, 1), (85, .iadd, 1), (86, .iastore, 1), (87, .iinc 3 1, 3), (90, .goto (-44), 3), (93, .iinc 1 1, 3), (96, .goto (-73), 3), (99, .iconst 0, 1), (100, .istore_n 1, 1), (101, .iload_n 1, 1), (102, .sipush 1024, 3), (105, .if_icmp .ge 20, 3), (108, .aload_n 0, 1), (109, .getfield 205, 3), (112, .sipush 6144, 3), (115, .iload_n 1, 1), (116, .iadd, 1), (117, .iconst 0, 1), (118, .iastore, 1), (119, .iinc 1 1, 3), (122, .goto (-21), 3), (125, .iconst 5, 1), (126, .istore_n 1, 1)] : List (Nat × Instr × Nat)).all (fun e => decide (decode prog_14_method_134_code e.1 = .ok e.2)) = true := by decide +kernel
abbrev cl_302_2 : List (Nat × jm_O) := [(82, op_iald 13), (83, op_ibin (fun x y => x + y)), (84, op_iald 13), (85, op_ibin (fun x y => x + y)), (86, op_iast), (87, op_iinc 3 1), (90, op_goto 46), (93, op_iinc 1 1), (96, op_goto 23), (99, op_ic 0 1), (100, op_istore 1 1), (101, op_iload 1 1), (102, op_ic 1024 3), (105, op_cge 125), (108, op_aload 0 1), (109, op_getA 11 93), (112, op_ic 6144 3), (115, op_iload 1 1), (116, op_ibin (fun x y => x + y)), (117, op_ic 0 1), (118, op_iast), (119, op_iinc 1 1), (122, op_goto 101), (125, op_ic 5 1), (126, op_istore 1 1)]
set_option maxRecDepth 100000 in
theorem gl_302_2 : jm_gl "FrescoWallModel" prog_14_method_134_code 6 (Option.some Jvm.ClassFile.FieldType.int) false cl_302_2 :=
  jm_gc (pu_iald _) (sn_iald (jm_dc dc_302_2 0 rfl)) (
  jm_gc (pu_ibin _) (sn_iadd (jm_dc dc_302_2 1 rfl)) (
  jm_gc (pu_iald _) (sn_iald (jm_dc dc_302_2 2 rfl)) (
  jm_gc (pu_ibin _) (sn_iadd (jm_dc dc_302_2 3 rfl)) (
  jm_gc (pu_iast) (sn_iast (jm_dc dc_302_2 4 rfl)) (
  jm_gc (pu_iinc _ _) (sn_iinc (jm_dc dc_302_2 5 rfl) (by decide)) (
  jm_gc (pu_goto _) (sn_goto (jm_dc dc_302_2 6 rfl) (by decide)) (
  jm_gc (pu_iinc _ _) (sn_iinc (jm_dc dc_302_2 7 rfl) (by decide)) (
  jm_gc (pu_goto _) (sn_goto (jm_dc dc_302_2 8 rfl) (by decide)) (
  jm_gc (pu_ic _ _) (sn_iconst (jm_dc dc_302_2 9 rfl) (by decide)) (
  jm_gc (pu_istore _ _) (sn_istore_n (i := 1) (jm_dc dc_302_2 10 rfl)) (
  jm_gc (pu_iload _ _) (sn_iload_n (i := 1) (jm_dc dc_302_2 11 rfl)) (
  jm_gc (pu_ic _ _) (sn_sipush (jm_dc dc_302_2 12 rfl) (by decide)) (
  jm_gc (pu_cge _) (sn_cge (jm_dc dc_302_2 13 rfl) (by decide)) (
  jm_gc (pu_aload _ _) (sn_aload_n (i := 0) (jm_dc dc_302_2 14 rfl)) (
  jm_gc (pu_getA _ _) (sn_getA (jm_dc dc_302_2 15 rfl) fl_11_205 rfl) (
  jm_gc (pu_ic _ _) (sn_sipush (jm_dc dc_302_2 16 rfl) (by decide)) (
  jm_gc (pu_iload _ _) (sn_iload_n (i := 1) (jm_dc dc_302_2 17 rfl)) (
  jm_gc (pu_ibin _) (sn_iadd (jm_dc dc_302_2 18 rfl)) (
  jm_gc (pu_ic _ _) (sn_iconst (jm_dc dc_302_2 19 rfl) (by decide)) (
  jm_gc (pu_iast) (sn_iast (jm_dc dc_302_2 20 rfl)) (
  jm_gc (pu_iinc _ _) (sn_iinc (jm_dc dc_302_2 21 rfl) (by decide)) (
  jm_gc (pu_goto _) (sn_goto (jm_dc dc_302_2 22 rfl) (by decide)) (
  jm_gc (pu_ic _ _) (sn_iconst (jm_dc dc_302_2 23 rfl) (by decide)) (
  jm_gc (pu_istore _ _) (sn_istore_n (i := 1) (jm_dc dc_302_2 24 rfl)) (
  jm_gn)))))))))))))))))))))))))
theorem dc_302_3 : ([(127, .iload_n 1, 1), (128, .ifCond .lt 78, 3), (131, .iconst 0, 1), (132, .istore_n 2, 1), (133, .iload_n 2, 1), (134, .sipush 1024, 3), (137, .if_icmp .ge 63, 3), (140, .iconst (-1), 1), (141, .istore_n 3, 1), (142, .iconst 0, 1), (143, .istore 4, 2), (145, .iload 4, 2), (147, .bipush 10, 2), (149, .if_icmp .gt 32, 3), (152, .aload_n 0, 1), (153, .iload_n 1, 1), (154, .iload_n 2, 1), (155, .iload 4, 2), (157, .invokevirtual 615, 3), (160, .istore 5, 2), (162, .iload 5, 2), (164, .iload_n 3, 1), (165, .if_icmp .le 8, 3), (168, .iload 5, 2), (170, .goto 4, 3)] : List (Nat × Instr × Nat)).all (fun e => decide (decode prog_14_method_134_code e.1 = .ok e.2)) = true := by decide +kernel
abbrev cl_302_3 : List (Nat × jm_O) := [(127, op_iload 1 1), (128, op_iflt 206), (131, op_ic 0 1), (132, op_istore 2 1), (133, op_iload 2 1), (134, op_ic 1024 3), (137, op_cge 200), (140, op_ic (-1) 1), (141, op_istore 3 1), (142, op_ic 0 1), (143, op_istore 4 2), (145, op_iload 4 2), (147, op_ic 10 2), (149, op_cgt 181), (152, op_aload 0 1), (153, op_iload 1 1), (154, op_iload 2 1), (155, op_iload 4 2), (157, op_callV 11 301 4), (160, op_istore 5 2), (162, op_iload 5 2), (164, op_iload 3 1), (165, op_cle 173), (168, op_iload 5 2), (170, op_goto 174)]
set_option maxRecDepth 100000 in
theorem gl_302_3 : jm_gl "FrescoWallModel" prog_14_method_134_code 6 (Option.some Jvm.ClassFile.FieldType.int) false cl_302_3 :=
  jm_gc (pu_iload _ _) (sn_iload_n (i := 1) (jm_dc dc_302_3 0 rfl)) (
  jm_gc (pu_iflt _) (sn_iflt (jm_dc dc_302_3 1 rfl) (by decide)) (
  jm_gc (pu_ic _ _) (sn_iconst (jm_dc dc_302_3 2 rfl) (by decide)) (
  jm_gc (pu_istore _ _) (sn_istore_n (i := 2) (jm_dc dc_302_3 3 rfl)) (
  jm_gc (pu_iload _ _) (sn_iload_n (i := 2) (jm_dc dc_302_3 4 rfl)) (
  jm_gc (pu_ic _ _) (sn_sipush (jm_dc dc_302_3 5 rfl) (by decide)) (
  jm_gc (pu_cge _) (sn_cge (jm_dc dc_302_3 6 rfl) (by decide)) (
  jm_gc (pu_ic _ _) (sn_iconst (jm_dc dc_302_3 7 rfl) (by decide)) (
  jm_gc (pu_istore _ _) (sn_istore_n (i := 3) (jm_dc dc_302_3 8 rfl)) (
  jm_gc (pu_ic _ _) (sn_iconst (jm_dc dc_302_3 9 rfl) (by decide)) (
  jm_gc (pu_istore _ _) (sn_istore (jm_dc dc_302_3 10 rfl)) (
  jm_gc (pu_iload _ _) (sn_iload (jm_dc dc_302_3 11 rfl)) (
  jm_gc (pu_ic _ _) (sn_bipush (jm_dc dc_302_3 12 rfl) (by decide)) (
  jm_gc (pu_cgt _) (sn_cgt (jm_dc dc_302_3 13 rfl) (by decide)) (
  jm_gc (pu_aload _ _) (sn_aload_n (i := 0) (jm_dc dc_302_3 14 rfl)) (
  jm_gc (pu_iload _ _) (sn_iload_n (i := 1) (jm_dc dc_302_3 15 rfl)) (
  jm_gc (pu_iload _ _) (sn_iload_n (i := 2) (jm_dc dc_302_3 16 rfl)) (
  jm_gc (pu_iload _ _) (sn_iload (jm_dc dc_302_3 17 rfl)) (
  jm_gc (pu_callV _ _ _) (sn_callV (jm_dc dc_302_3 18 rfl) lk_11_615) (
  jm_gc (pu_istore _ _) (sn_istore (jm_dc dc_302_3 19 rfl)) (
  jm_gc (pu_iload _ _) (sn_iload (jm_dc dc_302_3 20 rfl)) (
  jm_gc (pu_iload _ _) (sn_iload_n (i := 3) (jm_dc dc_302_3 21 rfl)) (
  jm_gc (pu_cle _) (sn_cle (jm_dc dc_302_3 22 rfl) (by decide)) (
  jm_gc (pu_iload _ _) (sn_iload (jm_dc dc_302_3 23 rfl)) (
  jm_gc (pu_goto _) (sn_goto (jm_dc dc_302_3 24 rfl) (by decide)) (
  jm_gn)))))))))))))))))))))))))
theorem dc_302_4 : ([(173, .iload_n 3, 1), (174, .istore_n 3, 1), (175, .iinc 4 1, 3), (178, .goto (-33), 3), (181, .aload_n 0, 1), (182, .getfield 205, 3), (185, .sipush 1024, 3), (188, .iload_n 1, 1), (189, .imul, 1), (190, .iload_n 2, 1), (191, .iadd, 1), (192, .iload_n 3, 1), (193, .iastore, 1), (194, .iinc 2 1, 3), (197, .goto (-64), 3), (200, .iinc 1 (-1), 3), (203, .goto (-76), 3), (206, .sipush 1023, 3), (209, .istore_n 1, 1), (210, .iconst 0, 1), (211, .istore_n 2, 1), (212, .iload_n 2, 1), (213, .bipush 6, 2), (215, .if_icmp .ge 75, 3), (218, .iconst 0, 1)] : List (Nat × Instr × Nat)).all (fun e => decide (decode prog_14_method_134_code e.1 = .ok e.2)) = true := by decide +kernel
abbrev cl_302_4 : List (Nat × jm_O) := [(173, op_iload 3 1), (174, op_istore 3 1), (175, op_iinc 4 1), (178, op_goto 145), (181, op_aload 0 1), (182, op_getA 11 93), (185, op_ic 1024 3), (188, op_iload 1 1), (189, op_ibin (fun x y => x * y)), (190, op_iload 2 1), (191, op_ibin (fun x y => x + y)), (192, op_iload 3 1), (193, op_iast), (194, op_iinc 2 1), (197, op_goto 133), (200, op_iinc 1 (-1)), (203, op_goto 127), (206, op_ic 1023 3), (209, op_istore 1 1), (210, op_ic 0 1), (211, op_istore 2 1), (212, op_iload 2 1), (213, op_ic 6 2), (215, op_cge 290), (218, op_ic 0 1)]
set_option maxRecDepth 100000 in
theorem gl_302_4 : jm_gl "FrescoWallModel" prog_14_method_134_code 6 (Option.some Jvm.ClassFile.FieldType.int) false cl_302_4 :=
  jm_gc (pu_iload _ _) (sn_iload_n (i := 3) (jm_dc dc_302_4 0 rfl)) (
  jm_gc (pu_istore _ _) (sn_istore_n (i := 3) (jm_dc dc_302_4 1 rfl)) (
  jm_gc (pu_iinc _ _) (sn_iinc (jm_dc dc_302_4 2 rfl) (by decide)) (
  jm_gc (pu_goto _) (sn_goto (jm_dc dc_302_4 3 rfl) (by decide)) (
  jm_gc (pu_aload _ _) (sn_aload_n (i := 0) (jm_dc dc_302_4 4 rfl)) (
  jm_gc (pu_getA _ _) (sn_getA (jm_dc dc_302_4 5 rfl) fl_11_205 rfl) (
  jm_gc (pu_ic _ _) (sn_sipush (jm_dc dc_302_4 6 rfl) (by decide)) (
  jm_gc (pu_iload _ _) (sn_iload_n (i := 1) (jm_dc dc_302_4 7 rfl)) (
  jm_gc (pu_ibin _) (sn_imul (jm_dc dc_302_4 8 rfl)) (
  jm_gc (pu_iload _ _) (sn_iload_n (i := 2) (jm_dc dc_302_4 9 rfl)) (
  jm_gc (pu_ibin _) (sn_iadd (jm_dc dc_302_4 10 rfl)) (
  jm_gc (pu_iload _ _) (sn_iload_n (i := 3) (jm_dc dc_302_4 11 rfl)) (
  jm_gc (pu_iast) (sn_iast (jm_dc dc_302_4 12 rfl)) (
  jm_gc (pu_iinc _ _) (sn_iinc (jm_dc dc_302_4 13 rfl) (by decide)) (
  jm_gc (pu_goto _) (sn_goto (jm_dc dc_302_4 14 rfl) (by decide)) (
  jm_gc (pu_iinc _ _) (sn_iinc (jm_dc dc_302_4 15 rfl) (by decide)) (
  jm_gc (pu_goto _) (sn_goto (jm_dc dc_302_4 16 rfl) (by decide)) (
  jm_gc (pu_ic _ _) (sn_sipush (jm_dc dc_302_4 17 rfl) (by decide)) (
  jm_gc (pu_istore _ _) (sn_istore_n (i := 1) (jm_dc dc_302_4 18 rfl)) (
  jm_gc (pu_ic _ _) (sn_iconst (jm_dc dc_302_4 19 rfl) (by decide)) (
  jm_gc (pu_istore _ _) (sn_istore_n (i := 2) (jm_dc dc_302_4 20 rfl)) (
  jm_gc (pu_iload _ _) (sn_iload_n (i := 2) (jm_dc dc_302_4 21 rfl)) (
  jm_gc (pu_ic _ _) (sn_bipush (jm_dc dc_302_4 22 rfl) (by decide)) (
  jm_gc (pu_cge _) (sn_cge (jm_dc dc_302_4 23 rfl) (by decide)) (
  jm_gc (pu_ic _ _) (sn_iconst (jm_dc dc_302_4 24 rfl) (by decide)) (
  jm_gn)))))))))))))))))))))))))
theorem dc_302_5 : ([(219, .istore_n 3, 1), (220, .aload_n 0, 1), (221, .iload_n 2, 1), (222, .iload_n 1, 1), (223, .iload_n 3, 1), (224, .invokevirtual 615, 3), (227, .aload_n 0, 1), (228, .getfield 205, 3), (231, .sipush 1024, 3), (234, .iload_n 2, 1), (235, .imul, 1), (236, .iload_n 1, 1), (237, .iadd, 1), (238, .iaload, 1), (239, .if_icmp .eq 9, 3), (242, .iinc 3 1, 3), (245, .goto (-25), 3), (248, .aload_n 0, 1), (249, .getfield 208, 3), (252, .iload_n 2, 1), (253, .iload_n 3, 1), (254, .bipush 10, 2), (256, .if_icmp .ne 8, 3), (259, .bipush (-5), 2), (261, .goto 4, 3)] : List (Nat × Instr × Nat)).all (fun e => decide (decode prog_14_method_134_code e.1 = .ok e.2)) = true := by decide +kernel
abbrev cl_302_5 : List (Nat × jm_O) := [(219, op_istore 3 1), (220, op_aload 0 1), (221, op_iload 2 1), (222, op_iload 1 1), (223, op_iload 3 1), (224, op_callV 11 301 4), (227, op_aload 0 1), (228, op_getA 11 93), (231, op_ic 1024 3), (234, op_iload 2 1), (235, op_ibin (fun x y => x * y)), (236, op_iload 1 1), (237, op_ibin (fun x y => x + y)), (238, op_iald 13), (239, op_ceq 248), (242, op_iinc 3 1), (245, op_goto 220), (248, op_aload 0 1), (249, op_getA 11 94), (252, op_iload 2 1), (253, op_iload 3 1), (254, op_ic 10 2), (256, op_cne 264), (259, op_ic (-5) 2), (261, op_goto 265)]
set_option maxRecDepth 100000 in
theorem gl_302_5 : jm_gl "FrescoWallModel" prog_14_method_134_code 6 (Option.some Jvm.ClassFile.FieldType.int) false cl_302_5 :=
  jm_gc (pu_istore _ _) (sn_istore_n (i := 3) (jm_dc dc_302_5 0 rfl)) (
  jm_gc (pu_aload _ _) (sn_aload_n (i := 0) (jm_dc dc_302_5 1 rfl)) (
  jm_gc (pu_iload _ _) (sn_iload_n (i := 2) (jm_dc dc_302_5 2 rfl)) (
  jm_gc (pu_iload _ _) (sn_iload_n (i := 1) (jm_dc dc_302_5 3 rfl)) (
  jm_gc (pu_iload _ _) (sn_iload_n (i := 3) (jm_dc dc_302_5 4 rfl)) (
  jm_gc (pu_callV _ _ _) (sn_callV (jm_dc dc_302_5 5 rfl) lk_11_615) (
  jm_gc (pu_aload _ _) (sn_aload_n (i := 0) (jm_dc dc_302_5 6 rfl)) (
  jm_gc (pu_getA _ _) (sn_getA (jm_dc dc_302_5 7 rfl) fl_11_205 rfl) (
  jm_gc (pu_ic _ _) (sn_sipush (jm_dc dc_302_5 8 rfl) (by decide)) (
  jm_gc (pu_iload _ _) (sn_iload_n (i := 2) (jm_dc dc_302_5 9 rfl)) (
  jm_gc (pu_ibin _) (sn_imul (jm_dc dc_302_5 10 rfl)) (
  jm_gc (pu_iload _ _) (sn_iload_n (i := 1) (jm_dc dc_302_5 11 rfl)) (
  jm_gc (pu_ibin _) (sn_iadd (jm_dc dc_302_5 12 rfl)) (
  jm_gc (pu_iald _) (sn_iald (jm_dc dc_302_5 13 rfl)) (
  jm_gc (pu_ceq _) (sn_ceq (jm_dc dc_302_5 14 rfl) (by decide)) (
  jm_gc (pu_iinc _ _) (sn_iinc (jm_dc dc_302_5 15 rfl) (by decide)) (
  jm_gc (pu_goto _) (sn_goto (jm_dc dc_302_5 16 rfl) (by decide)) (
  jm_gc (pu_aload _ _) (sn_aload_n (i := 0) (jm_dc dc_302_5 17 rfl)) (
  jm_gc (pu_getA _ _) (sn_getA (jm_dc dc_302_5 18 rfl) fl_11_208 rfl) (
  jm_gc (pu_iload _ _) (sn_iload_n (i := 2) (jm_dc dc_302_5 19 rfl)) (
  jm_gc (pu_iload _ _) (sn_iload_n (i := 3) (jm_dc dc_302_5 20 rfl)) (
  jm_gc (pu_ic _ _) (sn_bipush (jm_dc dc_302_5 21 rfl) (by decide)) (
  jm_gc (pu_cne _) (sn_cne (jm_dc dc_302_5 22 rfl) (by decide)) (
  jm_gc (pu_ic _ _) (sn_bipush (jm_dc dc_302_5 23 rfl) (by decide)) (
  jm_gc (pu_goto _) (sn_goto (jm_dc dc_302_5 24 rfl) (by decide)) (
  jm_gn)))))))))))))))))))))))))
theorem dc_302_6 : ([(264, .iload_n 3, 1), (265, .iastore, 1), (266, .iload_n 3, 1), (267, .bipush 10, 2), (269, .if_icmp .ne 7, 3), (272, .iload_n 1, 1), (273, .goto 10, 3), (276, .iload_n 1, 1), (277, .iconst 1, 1), (278, .iload_n 3, 1), (279, .ishl, 1), (280, .iconst (-1), 1), (281, .ixor, 1), (282, .iand, 1), (283, .istore_n 1, 1), (284, .iinc 2 1, 3), (287, .goto (-75), 3), (290, .aload_n 0, 1), (291, .getfield 205, 3), (294, .sipush 1023, 3), (297, .iaload, 1), (298, .ireturn, 1)] : List (Nat × Instr × Nat)).all (fun e => decide (decode prog_14_method_134_code e.1 = .ok e.2)) = true := by decide +kernel
abbrev cl_302_6 : List (Nat × jm_O) := [(264, op_iload 3 1), (265, op_iast), (266, op_iload 3 1), (267, op_ic 10 2), (269, op_cne 276), (272, op_iload 1 1), (273, op_goto 283), (276, op_iload 1 1), (277, op_ic 1 1), (278, op_iload 3 1), (279, op_ibin (fun x y => x <<< (y &&& 31))), (280, op_ic (-1) 1), (281, op_ibin (fun x y => x ^^^ y)), (282, op_ibin (fun x y => x &&& y)), (283, op_istore 1 1), (284, op_iinc 2 1), (287, op_goto 212), (290, op_aload 0 1), (291, op_getA 11 93), (294, op_ic 1023 3), (297, op_iald 13), (298, op_iret)]
set_option maxRecDepth 100000 in
theorem gl_302_6 : jm_gl "FrescoWallModel" prog_14_method_134_code 6 (Option.some Jvm.ClassFile.FieldType.int) false cl_302_6 :=
  jm_gc (pu_iload _ _) (sn_iload_n (i := 3) (jm_dc dc_302_6 0 rfl)) (
  jm_gc (pu_iast) (sn_iast (jm_dc dc_302_6 1 rfl)) (
  jm_gc (pu_iload _ _) (sn_iload_n (i := 3) (jm_dc dc_302_6 2 rfl)) (
  jm_gc (pu_ic _ _) (sn_bipush (jm_dc dc_302_6 3 rfl) (by decide)) (
  jm_gc (pu_cne _) (sn_cne (jm_dc dc_302_6 4 rfl) (by decide)) (
  jm_gc (pu_iload _ _) (sn_iload_n (i := 1) (jm_dc dc_302_6 5 rfl)) (
  jm_gc (pu_goto _) (sn_goto (jm_dc dc_302_6 6 rfl) (by decide)) (
  jm_gc (pu_iload _ _) (sn_iload_n (i := 1) (jm_dc dc_302_6 7 rfl)) (
  jm_gc (pu_ic _ _) (sn_iconst (jm_dc dc_302_6 8 rfl) (by decide)) (
  jm_gc (pu_iload _ _) (sn_iload_n (i := 3) (jm_dc dc_302_6 9 rfl)) (
  jm_gc (pu_ibin _) (sn_ishl (jm_dc dc_302_6 10 rfl)) (
  jm_gc (pu_ic _ _) (sn_iconst (jm_dc dc_302_6 11 rfl) (by decide)) (
  jm_gc (pu_ibin _) (sn_ixor (jm_dc dc_302_6 12 rfl)) (
  jm_gc (pu_ibin _) (sn_iand (jm_dc dc_302_6 13 rfl)) (
  jm_gc (pu_istore _ _) (sn_istore_n (i := 1) (jm_dc dc_302_6 14 rfl)) (
  jm_gc (pu_iinc _ _) (sn_iinc (jm_dc dc_302_6 15 rfl) (by decide)) (
  jm_gc (pu_goto _) (sn_goto (jm_dc dc_302_6 16 rfl) (by decide)) (
  jm_gc (pu_aload _ _) (sn_aload_n (i := 0) (jm_dc dc_302_6 17 rfl)) (
  jm_gc (pu_getA _ _) (sn_getA (jm_dc dc_302_6 18 rfl) fl_11_205 rfl) (
  jm_gc (pu_ic _ _) (sn_sipush (jm_dc dc_302_6 19 rfl) (by decide)) (
  jm_gc (pu_iald _) (sn_iald (jm_dc dc_302_6 20 rfl)) (
  jm_gc (pu_iret) (sn_iret (jm_dc dc_302_6 21 rfl) rfl) (
  jm_gn))))))))))))))))))))))
theorem dc_303_0 : ([(0, .iload_n 1, 1), (1, .iconst (-1), 1), (2, .iconst 5, 1), (3, .invokestatic 218, 3), (6, .ifCond .ne 7, 3), (9, .ldc_w 334, 3), (12, .ireturn, 1), (13, .aload_n 0, 1), (14, .invokevirtual 618, 3), (17, .istore_n 2, 1), (18, .iload_n 1, 1), (19, .iconst (-1), 1), (20, .if_icmp .ne 7, 3), (23, .iload_n 2, 1), (24, .goto 9, 3), (27, .aload_n 0, 1), (28, .getfield 208, 3), (31, .iload_n 1, 1), (32, .iaload, 1), (33, .ireturn, 1)] : List (Nat × Instr × Nat)).all (fun e => decide (decode prog_14_method_135_code e.1 = .ok e.2)) = true := by decide +kernel
abbrev cl_303_0 : List (Nat × jm_O) := [(0, op_iload 1 1), (1, op_ic (-1) 1), (2, op_ic 5 1), (3, op_callS 171 3), (6, op_ifne 13), (9, op_ic (-100000) 3), (12, op_iret), (13, op_aload 0 1), (14, op_callV 11 302 1), (17, op_istore 2 1), (18, op_iload 1 1), (19, op_ic (-1) 1), (20, op_cne 27), (23, op_iload 2 1), (24, op_goto 33), (27, op_aload 0 1), (28, op_getA 11 94), (31, op_iload 1 1), (32, op_iald 13), (33, op_iret)]
set_option maxRecDepth 100000 in
theorem gl_303_0 : jm_gl "FrescoWallModel" prog_14_method_135_code 3 (Option.some Jvm.ClassFile.FieldType.int) false cl_303_0 :=
  jm_gc (pu_iload _ _) (sn_iload_n (i := 1) (jm_dc dc_303_0 0 rfl)) (
  jm_gc (pu_ic _ _) (sn_iconst (jm_dc dc_303_0 1 rfl) (by decide)) (
  jm_gc (pu_ic _ _) (sn_iconst (jm_dc dc_303_0 2 rfl) (by decide)) (
  jm_gc (pu_callS _ _) (sn_callS (jm_dc dc_303_0 3 rfl) lk_11_218) (
  jm_gc (pu_ifne _) (sn_ifne (jm_dc dc_303_0 4 rfl) (by decide)) (
  jm_gc (pu_ic _ _) (sn_ldcw (jm_dc dc_303_0 5 rfl) (kc_tb 1700 (by decide +kernel))) (
  jm_gc (pu_iret) (sn_iret (jm_dc dc_303_0 6 rfl) rfl) (
  jm_gc (pu_aload _ _) (sn_aload_n (i := 0) (jm_dc dc_303_0 7 rfl)) (
  jm_gc (pu_callV _ _ _) (sn_callV (jm_dc dc_303_0 8 rfl) lk_11_618) (
  jm_gc (pu_istore _ _) (sn_istore_n (i := 2) (jm_dc dc_303_0 9 rfl)) (
  jm_gc (pu_iload _ _) (sn_iload_n (i := 1) (jm_dc dc_303_0 10 rfl)) (
  jm_gc (pu_ic _ _) (sn_iconst (jm_dc dc_303_0 11 rfl) (by decide)) (
  jm_gc (pu_cne _) (sn_cne (jm_dc dc_303_0 12 rfl) (by decide)) (
  jm_gc (pu_iload _ _) (sn_iload_n (i := 2) (jm_dc dc_303_0 13 rfl)) (
  jm_gc (pu_goto _) (sn_goto (jm_dc dc_303_0 14 rfl) (by decide)) (
  jm_gc (pu_aload _ _) (sn_aload_n (i := 0) (jm_dc dc_303_0 15 rfl)) (
  jm_gc (pu_getA _ _) (sn_getA (jm_dc dc_303_0 16 rfl) fl_11_208 rfl) (
  jm_gc (pu_iload _ _) (sn_iload_n (i := 1) (jm_dc dc_303_0 17 rfl)) (
  jm_gc (pu_iald _) (sn_iald (jm_dc dc_303_0 18 rfl)) (
  jm_gc (pu_iret) (sn_iret (jm_dc dc_303_0 19 rfl) rfl) (
  jm_gn))))))))))))))))))))
theorem dc_304_0 : ([(0, .iconst 0, 1), (1, .istore_n 2, 1), (2, .aload_n 0, 1), (3, .invokevirtual 476, 3), (6, .iload_n 1, 1), (7, .tableswitch 254 0 8 #[49, 54, 89, 125, 165, 200, 239, 244, 249], 49), (56, .aload_n 0, 1), (57, .getfield 215, 3), (60, .ireturn, 1), (61, .iconst 0, 1), (62, .istore_n 3, 1), (63, .iload_n 3, 1), (64, .aload_n 0, 1), (65, .getfield 403, 3), (68, .if_icmp .ge 26, 3), (71, .iload_n 2, 1), (72, .aload_n 0, 1), (73, .getfield 85, 3), (76, .iload_n 3, 1), (77, .baload, 1), (78, .ifCond .eq 7, 3), (81, .iconst 1, 1), (82, .goto 4, 3), (85, .iconst 0, 1), (86, .iadd, 1)] : List (Nat × Instr × Nat)).all (fun e => decide (decode prog_14_method_136_code e.1 = .ok e.2)) = true := by decide +kernel
abbrev cl_304_0 : List (Nat × jm_O) := [(0, op_ic 0 1), (1, op_istore 2 1), (2, op_aload 0 1), (3, op_callV 11 231 1), (6, op_iload 1 1), (7, op_sw 261 [(0, 56), (1, 61), (2, 96), (3, 132), (4, 172), (5, 207), (6, 246), (7, 251), (8, 256)]), (56, op_aload 0 1), (57, op_getI 11 3), (60, op_iret), (61, op_ic 0 1), (62, op_istore 3 1), (63, op_iload 3 1), (64, op_aload 0 1), (65, op_getI 11 24), (68, op_cge 94), (71, op_iload 2 1), (72, op_aload 0 1), (73, op_getA 11 29), (76, op_iload 3 1), (77, op_iald 15), (78, op_ifeq 85), (81, op_ic 1 1), (82, op_goto 86), (85, op_ic 0 1), (86, op_ibin (fun x y => x + y))]
set_option maxRecDepth 100000 in
theorem gl_304_0 : jm_gl "FrescoWallModel" prog_14_method_136_code 4 (Option.some Jvm.ClassFile.FieldType.int) false cl_304_0 :=
  jm_gc (pu_ic _ _) (sn_iconst (jm_dc dc_304_0 0 rfl) (by decide)) (
  jm_gc (pu_istore _ _) (sn_istore_n (i := 2) (jm_dc dc_304_0 1 rfl)) (
  jm_gc (pu_aload _ _) (sn_aload_n (i := 0) (jm_dc dc_304_0 2 rfl)) (
  jm_gc (pu_callV _ _ _) (sn_callV (jm_dc dc_304_0 3 rfl) lk_11_476) (
  jm_gc (pu_iload _ _) (sn_iload_n (i := 1) (jm_dc dc_304_0 4 rfl)) (
  jm_gc (pu_sw _ _) (sn_tsw (jm_dc dc_304_0 5 rfl) (by decide) (by decide) (by decide)) (
  jm_gc (pu_aload _ _) (sn_aload_n (i := 0) (jm_dc dc_304_0 6 rfl)) (
  jm_gc (pu_getI _ _) (sn_getI (jm_dc dc_304_0 7 rfl) fl_11_215 (Or.inl rfl)) (
  jm_gc (pu_iret) (sn_iret (jm_dc dc_304_0 8 rfl) rfl) (
  jm_gc (pu_ic _ _) (sn_iconst (jm_dc dc_304_0 9 rfl) (by decide)) (
  jm_gc (pu_istore _ _) (sn_istore_n (i := 3) (jm_dc dc_304_0 10 rfl)) (
  jm_gc (pu_iload _ _) (sn_iload_n (i := 3) (jm_dc dc_304_0 11 rfl)) (
  jm_gc (pu_aload _ _) (sn_aload_n (i := 0) (jm_dc dc_304_0 12 rfl)) (
  jm_gc (pu_getI _ _) (sn_getI (jm_dc dc_304_0 13 rfl) fl_11_403 (Or.inl rfl)) (
  jm_gc (pu_cge _) (sn_cge (jm_dc dc_304_0 14 rfl) (by decide)) (
  jm_gc (pu_iload _ _) (sn_iload_n (i := 2) (jm_dc dc_304_0 15 rfl)) (
  jm_gc (pu_aload _ _) (sn_aload_n (i := 0) (jm_dc dc_304_0 16 rfl)) (
  jm_gc (pu_getA _ _) (sn_getA (jm_dc dc_304_0 17 rfl) fl_11_85 rfl) (
  jm_gc (pu_iload _ _) (sn_iload_n (i := 3) (jm_dc dc_304_0 18 rfl)) (
  jm_gc (pu_iald _) (sn_zald (jm_dc dc_304_0 19 rfl)) (
  jm_gc (pu_ifeq _) (sn_ifeq (jm_dc dc_304_0 20 rfl) (by decide)) (
  jm_gc (pu_ic _ _) (sn_iconst (jm_dc dc_304_0 21 rfl) (by decide)) (
  jm_gc (pu_goto _) (sn_goto (jm_dc dc_304_0 22 rfl) (by decide)) (
  jm_gc (pu_ic _ _) (sn_iconst (jm_dc dc_304_0 23 rfl) (by decide)) (
  jm_gc (pu_ibin _) (sn_iadd (jm_dc dc_304_0 24 rfl)) (
  jm_gn)))))))))))))))))))))))))
theorem dc_304_1 : ([(87, .istore_n 2, 1), (88, .iinc 3 1, 3), (91, .goto (-28), 3), (94, .iload_n 2, 1), (95, .ireturn, 1), (96, .iconst 0, 1), (97, .istore_n 3, 1), (98, .iload_n 3, 1), (99, .aload_n 0, 1), (100, .getfield 215, 3), (103, .if_icmp .ge 27, 3), (106, .iload_n 2, 1), (107, .aload_n 0, 1), (108, .getfield 112, 3), (111, .iload_n 3, 1), (112, .iaload, 1), (113, .iload_n 3, 1), (114, .if_icmp .ne 7, 3), (117, .iconst 1, 1), (118, .goto 4, 3), (121, .iconst 0, 1), (122, .iadd, 1), (123, .istore_n 2, 1), (124, .iinc 3 1, 3), (127, .goto (-29), 3)] : List (Nat × Instr × Nat)).all (fun e => decide (decode prog_14_method_136_code e.1 = .ok e.2)) = true := by decide +kernel
abbrev cl_304_1 : List (Nat × jm_O) := [(87, op_istore 2 1), (88, op_iinc 3 1), (91, op_goto 63), (94, op_iload 2 1), (95, op_iret), (96, op_ic 0 1), (97, op_istore 3 1), (98, op_iload 3 1), (99, op_aload 0 1), (100, op_getI 11 3), (103, op_cge 130), (106, op_iload 2 1), (107, op_aload 0 1), (108, op_getA 11 45), (111, op_iload 3 1), (112, op_iald 13), (113, op_iload 3 1), (114, op_cne 121), (117, op_ic 1 1), (118, op_goto 122), (121, op_ic 0 1), (122, op_ibin (fun x y => x + y)), (123, op_istore 2 1), (124, op_iinc 3 1), (127, op_goto 98)]
set_option maxRecDepth 100000 in
theorem gl_304_1 : jm_gl "FrescoWallModel" prog_14_method_136_code 4 (Option.some Jvm.ClassFile.FieldType.int) false cl_304_1 :=
  jm_gc (pu_istore _ _) (sn_istore_n (i := 2) (jm_dc dc_304_1 0 rfl)) (
  jm_gc (pu_iinc _ _) (sn_iinc (jm_dc dc_304_1 1 rfl) (by decide)) (
  jm_gc (pu_goto _) (sn_goto (jm_dc dc_304_1 2 rfl) (by decide)) (
  jm_gc (pu_iload _ _) (sn_iload_n (i := 2) (jm_dc dc_304_1 3 rfl)) (
  jm_gc (pu_iret) (sn_iret (jm_dc dc_304_1 4 rfl) rfl) (
  jm_gc (pu_ic _ _) (sn_iconst (jm_dc dc_304_1 5 rfl) (by decide)) (
  jm_gc (pu_istore _ _) (sn_istore_n (i := 3) (jm_dc dc_304_1 6 rfl)) (
  jm_gc (pu_iload _ _) (sn_iload_n (i := 3) (jm_dc dc_304_1 7 rfl)) (
  jm_gc (pu_aload _ _) (sn_aload_n (i := 0) (jm_dc dc_304_1 8 rfl)) (
  jm_gc (pu_getI _ _) (sn_getI (jm_dc dc_304_1 9 rfl) fl_11_215 (Or.inl rfl)) (
  jm_gc (pu_cge _) (sn_cge (jm_dc dc_304_1 10 rfl) (by decide)) (
  jm_gc (pu_iload _ _) (sn_iload_n (i := 2) (jm_dc dc_304_1 11 rfl)) (
  jm_gc (pu_aload _ _) (sn_aload_n (i := 0) (jm_dc dc_304_1 12 rfl)) (
  jm_gc (pu_getA _ _) (sn_getA (jm_dc dc_304_1 13 rfl) fl_11_112 rfl) (
  jm_gc (pu_iload _ _) (sn_iload_n (i := 3) (jm_dc dc_304_1 14 rfl)) (
  jm_gc (pu_iald _) (sn_iald (jm_dc dc_304_1 15 rfl)) (
  jm_gc (pu_iload _ _) (sn_iload_n (i := 3) (jm_dc dc_304_1 16 rfl)) (
  jm_gc (pu_cne _) (sn_cne (jm_dc dc_304_1 17 rfl) (by decide)) (
  jm_gc (pu_ic _ _) (sn_iconst (jm_dc dc_304_1 18 rfl) (by decide)) (
  jm_gc (pu_goto _) (sn_goto (jm_dc dc_304_1 19 rfl) (by decide)) (
  jm_gc (pu_ic _ _) (sn_iconst (jm_dc dc_304_1 20 rfl) (by decide)) (
  jm_gc (pu_ibin _) (sn_iadd (jm_dc dc_304_1 21 rfl)) (
  jm_gc (pu_istore _ _) (sn_istore_n (i := 2) (jm_dc dc_304_1 22 rfl)) (
  jm_gc (pu_iinc _ _) (sn_iinc (jm_dc dc_304_1 23 rfl) (by decide)) (
  jm_gc (pu_goto _) (sn_goto (jm_dc dc_304_1 24 rfl) (by decide)) (
  jm_gn)))))))))))))))))))))))))
theorem dc_304_2 : ([(130, .iload_n 2, 1), (131, .ireturn, 1), (132, .iconst 0, 1), (133, .istore_n 3, 1), (134, .iload_n 3, 1), (135, .aload_n 0, 1), (136, .getfield 215, 3), (139, .if_icmp .ge 31, 3), (142, .iload_n 2, 1), (143, .aload_n 0, 1), (144, .aload_n 0, 1), (145, .getfield 112, 3), (148, .iload_n 3, 1), (149, .iaload, 1), (150, .invokevirtual 429, 3), (153, .iconst (-1), 1), (154, .if_icmp .eq 7, 3), (157, .iconst 1, 1), (158, .goto 4, 3), (161, .iconst 0, 1), (162, .iadd, 1), (163, .istore_n 2, 1), (164, .iinc 3 1, 3), (167, .goto (-33), 3), (170, .iload_n 2, 1)] : List (Nat × Instr × Nat)).all (fun e => decide (decode prog_14_method_136_code e.1 = .ok e.2)) = true := by decide +kernel
abbrev cl_304_2 : List (Nat × jm_O) := [(130, op_iload 2 1), (131, op_iret), (132, op_ic 0 1), (133, op_istore 3 1), (134, op_iload 3 1), (135, op_aload 0 1), (136, op_getI 11 3), (139, op_cge 170), (142, op_iload 2 1), (143, op_aload 0 1), (144, op_aload 0 1), (145, op_getA 11 45), (148, op_iload 3 1), (149, op_iald 13), (150, op_callV 11 239 2), (153, op_ic (-1) 1), (154, op_ceq 161), (157, op_ic 1 1), (158, op_goto 162), (161, op_ic 0 1), (162, op_ibin (fun x y => x + y)), (163, op_istore 2 1), (164, op_iinc 3 1), (167, op_goto 134), (170, op_iload 2 1)]
set_option maxRecDepth 100000 in
theorem gl_304_2 : jm_gl "FrescoWallModel" prog_14_method_136_code 4 (Option.some Jvm.ClassFile.FieldType.int) false cl_304_2 :=
  jm_gc (pu_iload _ _) (sn_iload_n (i := 2) (jm_dc dc_304_2 0 rfl)) (
  jm_gc (pu_iret) (sn_iret (jm_dc dc_304_2 1 rfl) rfl) (
  jm_gc (pu_ic _ _) (sn_iconst (jm_dc dc_304_2 2 rfl) (by decide)) (
  jm_gc (pu_istore _ _) (sn_istore_n (i := 3) (jm_dc dc_304_2 3 rfl)) (
  jm_gc (pu_iload _ _) (sn_iload_n (i := 3) (jm_dc dc_304_2 4 rfl)) (
  jm_gc (pu_aload _ _) (sn_aload_n (i := 0) (jm_dc dc_304_2 5 rfl)) (
  jm_gc (pu_getI _ _) (sn_getI (jm_dc dc_304_2 6 rfl) fl_11_215 (Or.inl rfl)) (
  jm_gc (pu_cge _) (sn_cge (jm_dc dc_304_2 7 rfl) (by decide)) (
  jm_gc (pu_iload _ _) (sn_iload_n (i := 2) (jm_dc dc_304_2 8 rfl)) (
  jm_gc (pu_aload _ _) (sn_aload_n (i := 0) (jm_dc dc_304_2 9 rfl)) (
  jm_gc (pu_aload _ _) (sn_aload_n (i := 0) (jm_dc dc_304_2 10 rfl)) (
  jm_gc (pu_getA _ _) (sn_getA (jm_dc dc_304_2 11 rfl) fl_11_112 rfl) (
  jm_gc (pu_iload _ _) (sn_iload_n (i := 3) (jm_dc dc_304_2 12 rfl)) (
  jm_gc (pu_iald _) (sn_iald (jm_dc dc_304_2 13 rfl)) (
  jm_gc (pu_callV _ _ _) (sn_callV (jm_dc dc_304_2 14 rfl) lk_11_429) (
  jm_gc (pu_ic _ _) (sn_iconst (jm_dc dc_304_2 15 rfl) (by decide)) (
  jm_gc (pu_ceq _) (sn_ceq (jm_dc dc_304_2 16 rfl) (by decide)) (
  jm_gc (pu_ic _ _) (sn_iconst (jm_dc dc_304_2 17 rfl) (by decide)) (
  jm_gc (pu_goto _) (sn_goto (jm_dc dc_304_2 18 rfl) (by decide)) (
  jm_gc (pu_ic _ _) (sn_iconst (jm_dc dc_304_2 19 rfl) (by decide)) (
  jm_gc (pu_ibin _) (sn_iadd (jm_dc dc_304_2 20 rfl)) (
  jm_gc (pu_istore _ _) (sn_istore_n (i := 2) (jm_dc dc_304_2 21 rfl)) (
  jm_gc (pu_iinc _ _) (sn_iinc (jm_dc dc_304_2 22 rfl) (by decide)) (
  jm_gc (pu_goto _) (sn_goto (jm_dc dc_304_2 23 rfl) (by decide)) (
  jm_gc (pu_iload _ _) (sn_iload_n (i := 2) (jm_dc dc_304_2 24 rfl)) (
  jm_gn)))))))))))))))))))))))))
theorem dc_304_3 : ([(171, .ireturn, 1), (172, .iconst 0, 1), (173, .istore_n 3, 1), (174, .iload_n 3, 1), (175, .aload_n 0, 1), (176, .getfield 215, 3), (179, .if_icmp .ge 26, 3), (182, .iload_n 2, 1), (183, .aload_n 0, 1), (184, .getfield 88, 3), (187, .iload_n 3, 1), (188, .baload, 1), (189, .ifCond .eq 7, 3), (192, .iconst 1, 1), (193, .goto 4, 3), (196, .iconst 0, 1), (197, .iadd, 1), (198, .istore_n 2, 1), (199, .iinc 3 1, 3), (202, .goto (-28), 3), (205, .iload_n 2, 1), (206, .ireturn, 1), (207, .aload_n 0, 1), (208, .invokevirtual 518, 3), (211, .iconst 0, 1)] : List (Nat × Instr × Nat)).all (fun e => decide (decode prog_14_method_136_code e.1 = .ok e.2)) = true := by decide +kernel
abbrev cl_304_3 : List (Nat × jm_O) := [(171, op_iret), (172, op_ic 0 1), (173, op_istore 3 1), (174, op_iload 3 1), (175, op_aload 0 1), (176, op_getI 11 3), (179, op_cge 205), (182, op_iload 2 1), (183, op_aload 0 1), (184, op_getA 11 30), (187, op_iload 3 1), (188, op_iald 15), (189, op_ifeq 196), (192, op_ic 1 1), (193, op_goto 197), (196, op_ic 0 1), (197, op_ibin (fun x y => x + y)), (198, op_istore 2 1), (199, op_iinc 3 1), (202, op_goto 174), (205, op_iload 2 1), (206, op_iret), (207, op_aload 0 1), (208, op_callV 11 270 1), (211, op_ic 0 1)]
set_option maxRecDepth 100000 in
theorem gl_304_3 : jm_gl "FrescoWallModel" prog_14_method_136_code 4 (Option.some Jvm.ClassFile.FieldType.int) false cl_304_3 :=
  jm_gc (pu_iret) (sn_iret (jm_dc dc_304_3 0 rfl) rfl) (
  jm_gc (pu_ic _ _) (sn_iconst (jm_dc dc_304_3 1 rfl) (by decide)) (
  jm_gc (pu_istore _ _) (sn_istore_n (i := 3) (jm_dc dc_304_3 2 rfl)) (
  jm_gc (pu_iload _ _) (sn_iload_n (i := 3) (jm_dc dc_304_3 3 rfl)) (
  jm_gc (pu_aload _ _) (sn_aload_n (i := 0) (jm_dc dc_304_3 4 rfl)) (
  jm_gc (pu_getI _ _) (sn_getI (jm_dc dc_304_3 5 rfl) fl_11_215 (Or.inl rfl)) (
  jm_gc (pu_cge _) (sn_cge (jm_dc dc_304_3 6 rfl) (by decide)) (
  jm_gc (pu_iload _ _) (sn_iload_n (i := 2) (jm_dc dc_304_3 7 rfl)) (
  jm_gc (pu_aload _ _) (sn_aload_n (i := 0) (jm_dc dc_304_3 8 rfl)) (
  jm_gc (pu_getA _ _) (sn_getA (jm_dc dc_304_3 9 rfl) fl_11_88 rfl) (
  jm_gc (pu_iload _ _) (sn_iload_n (i := 3) (jm_dc dc_304_3 10 rfl)) (
  jm_gc (pu_iald _) (sn_zald (jm_dc dc_304_3 11 rfl)) (
  jm_gc (pu_ifeq _) (sn_ifeq (jm_dc dc_304_3 12 rfl) (by decide)) (
  jm_gc (pu_ic _ _) (sn_iconst (jm_dc dc_304_3 13 rfl) (by decide)) (
  jm_gc (pu_goto _) (sn_goto (jm_dc dc_304_3 14 rfl) (by decide)) (
  jm_gc (pu_ic _ _) (sn_iconst (jm_dc dc_304_3 15 rfl) (by decide)) (
  jm_gc (pu_ibin _) (sn_iadd (jm_dc dc_304_3 16 rfl)) (
  jm_gc (pu_istore _ _) (sn_istore_n (i := 2) (jm_dc dc_304_3 17 rfl)) (
  jm_gc (pu_iinc _ _) (sn_iinc (jm_dc dc_304_3 18 rfl) (by decide)) (
  jm_gc (pu_goto _) (sn_goto (jm_dc dc_304_3 19 rfl) (by decide)) (
  jm_gc (pu_iload _ _) (sn_iload_n (i := 2) (jm_dc dc_304_3 20 rfl)) (
  jm_gc (pu_iret) (sn_iret (jm_dc dc_304_3 21 rfl) rfl) (
  jm_gc (pu_aload _ _) (sn_aload_n (i := 0) (jm_dc dc_304_3 22 rfl)) (
  jm_gc (pu_callV _ _ _) (sn_callV (jm_dc dc_304_3 23 rfl) lk_11_518) (
  jm_gc (pu_ic _ _) (sn_iconst (jm_dc dc_304_3 24 rfl) (by decide)) (
  jm_gn)))))))))))))))))))))))))
theorem dc_304_4 : ([(212, .istore_n 3, 1), (213, .iload_n 3, 1), (214, .aload_n 0, 1), (215, .getfield 215, 3), (218, .if_icmp .ge 26, 3), (221, .iload_n 2, 1), (222, .aload_n 0, 1), (223, .iload_n 3, 1), (224, .invokevirtual 521, 3), (227, .iconst (-1), 1), (228, .if_icmp .eq 7, 3), (231, .iconst 1, 1), (232, .goto 4, 3), (235, .iconst 0, 1), (236, .iadd, 1), (237, .istore_n 2, 1), (238, .iinc 3 1, 3), (241, .goto (-28), 3), (244, .iload_n 2, 1), (245, .ireturn, 1), (246, .aload_n 0, 1), (247, .getfield 585, 3), (250, .ireturn, 1), (251, .aload_n 0, 1), (252, .getfield 226, 3)] : List (Nat × Instr × Nat)).all (fun e => decide (decode prog_14_method_136_code e.1 = .ok e.2)) = true := by decide +kernel
abbrev cl_304_4 : List (Nat × jm_O) := [(212, op_istore 3 1), (213, op_iload 3 1), (214, op_aload 0 1), (215, op_getI 11 3), (218, op_cge 244), (221, op_iload 2 1), (222, op_aload 0 1), (223, op_iload 3 1), (224, op_callV 11 271 2), (227, op_ic (-1) 1), (228, op_ceq 235), (231, op_ic 1 1), (232, op_goto 236), (235, op_ic 0 1), (236, op_ibin (fun x y => x + y)), (237, op_istore 2 1), (238, op_iinc 3 1), (241, op_goto 213), (244, op_iload 2 1), (245, op_iret), (246, op_aload 0 1), (247, op_getI 11 87), (250, op_iret), (251, op_aload 0 1), (252, op_getI 11 2)]
set_option maxRecDepth 100000 in
theorem gl_304_4 : jm_gl "FrescoWallModel" prog_14_method_136_code 4 (Option.some Jvm.ClassFile.FieldType.int) false cl_304_4 :=
  jm_gc (pu_istore _ _) (sn_istore_n (i := 3) (jm_dc dc_304_4 0 rfl)) (
  jm_gc (pu_iload _ _) (sn_iload_n (i := 3) (jm_dc dc_304_4 1 rfl)) (
  jm_gc (pu_aload _ _) (sn_aload_n (i := 0) (jm_dc dc_304_4 2 rfl)) (
  jm_gc (pu_getI _ _) (sn_getI (jm_dc dc_304_4 3 rfl) fl_11_215 (Or.inl rfl)) (
  jm_gc (pu_cge _) (sn_cge (jm_dc dc_304_4 4 rfl) (by decide)) (
  jm_gc (pu_iload _ _) (sn_iload_n (i := 2) (jm_dc dc_304_4 5 rfl)) (
  jm_gc (pu_aload _ _) (sn_aload_n (i := 0) (jm_dc dc_304_4 6 rfl)) (
  jm_gc (pu_iload _ _) (sn_iload_n (i := 3) (jm_dc dc_304_4 7 rfl)) (
  jm_gc (pu_callV _ _ _) (sn_callV (jm_dc dc_304_4 8 rfl) lk_11_521) (
  jm_gc (pu_ic _ _) (sn_iconst (jm_dc dc_304_4 9 rfl) (by decide)) (
  jm_gc (pu_ceq _) (sn_ceq (jm_dc dc_304_4 10 rfl) (by decide)) (
  jm_gc (pu_ic _ _) (sn_iconst (jm_dc dc_304_4 11 rfl) (by decide)) (
  jm_gc (pu_goto _) (sn_goto (jm_dc dc_304_4 12 rfl) (by decide)) (
  jm_gc (pu_ic _ _) (sn_iconst (jm_dc dc_304_4 13 rfl) (by decide)) (
  jm_gc (pu_ibin _) (sn_iadd (jm_dc dc_304_4 14 rfl)) (
  jm_gc (pu_istore _ _) (sn_istore_n (i := 2) (jm_dc dc_304_4 15 rfl)) (
  jm_gc (pu_iinc _ _) (sn_iinc (jm_dc dc_304_4 16 rfl) (by decide)) (
  jm_gc (pu_goto _) (sn_goto (jm_dc dc_304_4 17 rfl) (by decide)) (
  jm_gc (pu_iload _ _) (sn_iload_n (i := 2) (jm_dc dc_304_4 18 rfl)) (
  jm_gc (pu_iret) (sn_iret (jm_dc dc_304_4 19 rfl) rfl) (
  jm_gc (pu_aload _ _) (sn_aload_n (i := 0) (jm_dc dc_304_4 20 rfl)) (
  jm_gc (pu_getI _ _) (sn_getI (jm_dc dc_304_4 21 rfl) fl_11_585 (Or.inl rfl)) (
  jm_gc (pu_iret) (sn_iret (jm_dc dc_304_4 22 rfl) rfl) (
  jm_gc (pu_aload _ _) (sn_aload_n (i := 0) (jm_dc dc_304_4 23 rfl)) (
  jm_gc (pu_getI _ _) (sn_getI (jm_dc dc_304_4 24 rfl) fl_11_226 (Or.inl rfl)) (
  jm_gn)))))))))))))))))))))))))
theorem dc_304_5 : ([(255, .ireturn, 1), (256, .aload_n 0, 1), (257, .getfield 403, 3), (260, .ireturn, 1), (261, .iconst (-1), 1), (262, .ireturn, 1)] : List (Nat × Instr × Nat)).all (fun e => decide (decode prog_14_method_136_code e.1 = .ok e.2)) = true := by decide +kernel
abbrev cl_304_5 : List (Nat × jm_O) := [(255, op_iret), (256, op_aload 0 1), (257, op_getI 11 24), (260, op_iret), (261, op_ic (-1) 1), (262, op_iret)]
set_option maxRecDepth 100000 in
theorem gl_304_5 : jm_gl "FrescoWallModel" prog_14_method_136_code 4 (Option.some Jvm.ClassFile.FieldType.int) false cl_304_5 :=
  jm_gc (pu_iret) (sn_iret (jm_dc dc_304_5 0 rfl) rfl) (
  jm_gc (pu_aload _ _) (sn_aload_n (i := 0) (jm_dc dc_304_5 1 rfl)) (
  jm_gc (pu_getI _ _) (sn_getI (jm_dc dc_304_5 2 rfl) fl_11_403 (Or.inl rfl)) (
  jm_gc (pu_iret) (sn_iret (jm_dc dc_304_5 3 rfl) rfl) (
  jm_gc (pu_ic _ _) (sn_iconst (jm_dc dc_304_5 4 rfl) (by decide)) (
  jm_gc (pu_iret) (sn_iret (jm_dc dc_304_5 5 rfl) rfl) (
  jm_gn))))))
def cd_270 (pc : Nat) : jm_O := jm_lu cl_270_0 pc
theorem ok_270 (pc : Nat) : jm_pu (cd_270 pc) ∧ jm_snd "FrescoWallModel" prog_14_method_102_code 2 (Option.none : Option Jvm.ClassFile.FieldType) false pc (cd_270 pc) := jm_lu_ok _ gl_270_0 pc
def cd_271 (pc : Nat) : jm_O := if pc < 39 then jm_lu cl_271_0 pc else jm_lu cl_271_1 pc
theorem ok_271 (pc : Nat) : jm_pu (cd_271 pc) ∧ jm_snd "FrescoWallModel" prog_14_method_103_code 4 (Option.some Jvm.ClassFile.FieldType.int) false pc (cd_271 pc) := jm_if2 (jm_lu_ok _ gl_271_0 pc) (jm_lu_ok _ gl_271_1 pc)
def cd_272 (pc : Nat) : jm_O := jm_lu cl_272_0 pc
theorem ok_272 (pc : Nat) : jm_pu (cd_272 pc) ∧ jm_snd "FrescoWallModel" prog_14_method_104_code 3 (Option.some Jvm.ClassFile.FieldType.int) false pc (cd_272 pc) := jm_lu_ok _ gl_272_0 pc
def cd_273 (pc : Nat) : jm_O := if pc < 39 then jm_lu cl_273_0 pc else jm_lu cl_273_1 pc
theorem ok_273 (pc : Nat) : jm_pu (cd_273 pc) ∧ jm_snd "FrescoWallModel" prog_14_method_105_code 4 (Option.some Jvm.ClassFile.FieldType.int) false pc (cd_273 pc) := jm_if2 (jm_lu_ok _ gl_273_0 pc) (jm_lu_ok _ gl_273_1 pc)
def cd_274 (pc : Nat) : jm_O := if pc < 44 then jm_lu cl_274_0 pc else if pc < 94 then jm_lu cl_274_1 pc else if pc < 140 then jm_lu cl_274_2 pc else if pc < 193 then jm_lu cl_274_3 pc else if pc < 240 then jm_lu cl_274_4 pc else jm_lu cl_274_5 pc
theorem ok_274 (pc : Nat) : jm_pu (cd_274 pc) ∧ jm_snd "FrescoWallModel" prog_14_method_106_code 3 (Option.none : Option Jvm.ClassFile.FieldType) false pc (cd_274 pc) := jm_if2 (jm_lu_ok _ gl_274_0 pc) (jm_if2 (jm_lu_ok _ gl_274_1 pc) (jm_if2 (jm_lu_ok _ gl_274_2 pc) (jm_if2 (jm_lu_ok _ gl_274_3 pc) (jm_if2 (jm_lu_ok _ gl_274_4 pc) (jm_lu_ok _ gl_274_5 pc)))))
def cd_275 (pc : Nat) : jm_O := if pc < 54 then jm_lu cl_275_0 pc else if pc < 97 then jm_lu cl_275_1 pc else if pc < 142 then jm_lu cl_275_2 pc else if pc < 184 then jm_lu cl_275_3 pc else jm_lu cl_275_4 pc
theorem ok_275 (pc : Nat) : jm_pu (cd_275 pc) ∧ jm_snd "FrescoWallModel" prog_14_method_107_code 9 (Option.some Jvm.ClassFile.FieldType.int) false pc (cd_275 pc) := jm_if2 (jm_lu_ok _ gl_275_0 pc) (jm_if2 (jm_lu_ok _ gl_275_1 pc) (jm_if2 (jm_lu_ok _ gl_275_2 pc) (jm_if2 (jm_lu_ok _ gl_275_3 pc) (jm_lu_ok _ gl_275_4 pc))))
def cd_276 (pc : Nat) : jm_O := if pc < 44 then jm_lu cl_276_0 pc else if pc < 90 then jm_lu cl_276_1 pc else jm_lu cl_276_2 pc
theorem ok_276 (pc : Nat) : jm_pu (cd_276 pc) ∧ jm_snd "FrescoWallModel" prog_14_method_108_code 7 (Option.some Jvm.ClassFile.FieldType.boolean) false pc (cd_276 pc) := jm_if2 (jm_lu_ok _ gl_276_0 pc) (jm_if2 (jm_lu_ok _ gl_276_1 pc) (jm_lu_ok _ gl_276_2 pc))
def cd_277 (pc : Nat) : jm_O := if pc < 38 then jm_lu cl_277_0 pc else if pc < 84 then jm_lu cl_277_1 pc else jm_lu cl_277_2 pc
theorem ok_277 (pc : Nat) : jm_pu (cd_277 pc) ∧ jm_snd "FrescoWallModel" prog_14_method_109_code 7 (Option.some Jvm.ClassFile.FieldType.int) false pc (cd_277 pc) := jm_if2 (jm_lu_ok _ gl_277_0 pc) (jm_if2 (jm_lu_ok _ gl_277_1 pc) (jm_lu_ok _ gl_277_2 pc))
def cd_278 (pc : Nat) : jm_O := jm_lu cl_278_0 pc
theorem ok_278 (pc : Nat) : jm_pu (cd_278 pc) ∧ jm_snd "FrescoWallModel" prog_14_method_110_code 5 (Option.some Jvm.ClassFile.FieldType.int) false pc (cd_278 pc) := jm_lu_ok _ gl_278_0 pc
def cd_279 (pc : Nat) : jm_O := if pc < 40 then jm_lu cl_279_0 pc else if pc < 84 then jm_lu cl_279_1 pc else jm_lu cl_279_2 pc
theorem ok_279 (pc : Nat) : jm_pu (cd_279 pc) ∧ jm_snd "FrescoWallModel" prog_14_method_111_code 7 (Option.some Jvm.ClassFile.FieldType.boolean) false pc (cd_279 pc) := jm_if2 (jm_lu_ok _ gl_279_0 pc) (jm_if2 (jm_lu_ok _ gl_279_1 pc) (jm_lu_ok _ gl_279_2 pc))
def cd_280 (pc : Nat) : jm_O := if pc < 46 then jm_lu cl_280_0 pc else if pc < 87 then jm_lu cl_280_1 pc else if pc < 135 then jm_lu cl_280_2 pc else if pc < 181 then jm_lu cl_280_3 pc else if pc < 233 then jm_lu cl_280_4 pc else if pc < 289 then jm_lu cl_280_5 pc else jm_lu cl_280_6 pc
theorem ok_280 (pc : Nat) : jm_pu (cd_280 pc) ∧ jm_snd "FrescoWallModel" prog_14_method_112_code 15 (Option.some Jvm.ClassFile.FieldType.int) false pc (cd_280 pc) := jm_if2 (jm_lu_ok _ gl_280_0 pc) (jm_if2 (jm_lu_ok _ gl_280_1 pc) (jm_if2 (jm_lu_ok _ gl_280_2 pc) (jm_if2 (jm_lu_ok _ gl_280_3 pc) (jm_if2 (jm_lu_ok _ gl_280_4 pc) (jm_if2 (jm_lu_ok _ gl_280_5 pc) (jm_lu_ok _ gl_280_6 pc))))))
def cd_281 (pc : Nat) : jm_O := if pc < 37 then jm_lu cl_281_0 pc else jm_lu cl_281_1 pc
theorem ok_281 (pc : Nat) : jm_pu (cd_281 pc) ∧ jm_snd "FrescoWallModel" prog_14_method_113_code 3 (Option.none : Option Jvm.ClassFile.FieldType) false pc (cd_281 pc) := jm_if2 (jm_lu_ok _ gl_281_0 pc) (jm_lu_ok _ gl_281_1 pc)
def cd_282 (pc : Nat) : jm_O := if pc < 41 then jm_lu cl_282_0 pc else if pc < 87 then jm_lu cl_282_1 pc else if pc < 134 then jm_lu cl_282_2 pc else if pc < 185 then jm_lu cl_282_3 pc else jm_lu cl_282_4 pc
theorem ok_282 (pc : Nat) : jm_pu (cd_282 pc) ∧ jm_snd "FrescoWallModel" prog_14_method_114_code 12 (Option.some Jvm.ClassFile.FieldType.int) false pc (cd_282 pc) := jm_if2 (jm_lu_ok _ gl_282_0 pc) (jm_if2 (jm_lu_ok _ gl_282_1 pc) (jm_if2 (jm_lu_ok _ gl_282_2 pc) (jm_if2 (jm_lu_ok _ gl_282_3 pc) (jm_lu_ok _ gl_282_4 pc))))
def cd_283 (pc : Nat) : jm_O := if pc < 41 then jm_lu cl_283_0 pc else if pc < 82 then jm_lu cl_283_1 pc else if pc < 125 then jm_lu cl_283_2 pc else jm_lu cl_283_3 pc
theorem ok_283 (pc : Nat) : jm_pu (cd_283 pc) ∧ jm_snd "FrescoWallModel" prog_14_method_115_code 2 (Option.some Jvm.ClassFile.FieldType.boolean) false pc (cd_283 pc) := jm_if2 (jm_lu_ok _ gl_283_0 pc) (jm_if2 (jm_lu_ok _ gl_283_1 pc) (jm_if2 (jm_lu_ok _ gl_283_2 pc) (jm_lu_ok _ gl_283_3 pc)))
def cd_284 (pc : Nat) : jm_O := if pc < 41 then jm_lu cl_284_0 pc else if pc < 84 then jm_lu cl_284_1 pc else if pc < 127 then jm_lu cl_284_2 pc else jm_lu cl_284_3 pc
theorem ok_284 (pc : Nat) : jm_pu (cd_284 pc) ∧ jm_snd "FrescoWallModel" prog_14_method_116_code 4 (Option.none : Option Jvm.ClassFile.FieldType) false pc (cd_284 pc) := jm_if2 (jm_lu_ok _ gl_284_0 pc) (jm_if2 (jm_lu_ok _ gl_284_1 pc) (jm_if2 (jm_lu_ok _ gl_284_2 pc) (jm_lu_ok _ gl_284_3 pc)))
def cd_285 (pc : Nat) : jm_O := if pc < 43 then jm_lu cl_285_0 pc else if pc < 88 then jm_lu cl_285_1 pc else if pc < 137 then jm_lu cl_285_2 pc else if pc < 180 then jm_lu cl_285_3 pc else jm_lu cl_285_4 pc
theorem ok_285 (pc : Nat) : jm_pu (cd_285 pc) ∧ jm_snd "FrescoWallModel" prog_14_method_117_code 9 (Option.none : Option Jvm.ClassFile.FieldType) false pc (cd_285 pc) := jm_if2 (jm_lu_ok _ gl_285_0 pc) (jm_if2 (jm_lu_ok _ gl_285_1 pc) (jm_if2 (jm_lu_ok _ gl_285_2 pc) (jm_if2 (jm_lu_ok _ gl_285_3 pc) (jm_lu_ok _ gl_285_4 pc))))
def cd_286 (pc : Nat) : jm_O := if pc < 38 then jm_lu cl_286_0 pc else if pc < 82 then jm_lu cl_286_1 pc else if pc < 117 then jm_lu cl_286_2 pc else if pc < 157 then jm_lu cl_286_3 pc else if pc < 194 then jm_lu cl_286_4 pc else jm_lu cl_286_5 pc
theorem ok_286 (pc : Nat) : jm_pu (cd_286 pc) ∧ jm_snd "FrescoWallModel" prog_14_method_118_code 4 (Option.some Jvm.ClassFile.FieldType.int) false pc (cd_286 pc) := jm_if2 (jm_lu_ok _ gl_286_0 pc) (jm_if2 (jm_lu_ok _ gl_286_1 pc) (jm_if2 (jm_lu_ok _ gl_286_2 pc) (jm_if2 (jm_lu_ok _ gl_286_3 pc) (jm_if2 (jm_lu_ok _ gl_286_4 pc) (jm_lu_ok _ gl_286_5 pc)))))
def cd_287 (pc : Nat) : jm_O := if pc < 43 then jm_lu cl_287_0 pc else jm_lu cl_287_1 pc
theorem ok_287 (pc : Nat) : jm_pu (cd_287 pc) ∧ jm_snd "FrescoWallModel" prog_14_method_119_code 4 (Option.some Jvm.ClassFile.FieldType.int) false pc (cd_287 pc) := jm_if2 (jm_lu_ok _ gl_287_0 pc) (jm_lu_ok _ gl_287_1 pc)
def cd_288 (pc : Nat) : jm_O := if pc < 137 then jm_lu cl_288_0 pc else if pc < 172 then jm_lu cl_288_1 pc else if pc < 218 then jm_lu cl_288_2 pc else if pc < 259 then jm_lu cl_288_3 pc else jm_lu cl_288_4 pc
theorem ok_288 (pc : Nat) : jm_pu (cd_288 pc) ∧ jm_snd "FrescoWallModel" prog_14_method_120_code 5 (Option.some Jvm.ClassFile.FieldType.int) false pc (cd_288 pc) := jm_if2 (jm_lu_ok _ gl_288_0 pc) (jm_if2 (jm_lu_ok _ gl_288_1 pc) (jm_if2 (jm_lu_ok _ gl_288_2 pc) (jm_if2 (jm_lu_ok _ gl_288_3 pc) (jm_lu_ok _ gl_288_4 pc))))
def cd_289 (pc : Nat) : jm_O := if pc < 49 then jm_lu cl_289_0 pc else jm_lu cl_289_1 pc
theorem ok_289 (pc : Nat) : jm_pu (cd_289 pc) ∧ jm_snd "FrescoWallModel" prog_14_method_121_code 1 (Option.some Jvm.ClassFile.FieldType.boolean) false pc (cd_289 pc) := jm_if2 (jm_lu_ok _ gl_289_0 pc) (jm_lu_ok _ gl_289_1 pc)
def cd_290 (pc : Nat) : jm_O := if pc < 49 then jm_lu cl_290_0 pc else if pc < 97 then jm_lu cl_290_1 pc else if pc < 145 then jm_lu cl_290_2 pc else if pc < 193 then jm_lu cl_290_3 pc else jm_lu cl_290_4 pc
theorem ok_290 (pc : Nat) : jm_pu (cd_290 pc) ∧ jm_snd "FrescoWallModel" prog_14_method_122_code 5 (Option.some Jvm.ClassFile.FieldType.boolean) false pc (cd_290 pc) := jm_if2 (jm_lu_ok _ gl_290_0 pc) (jm_if2 (jm_lu_ok _ gl_290_1 pc) (jm_if2 (jm_lu_ok _ gl_290_2 pc) (jm_if2 (jm_lu_ok _ gl_290_3 pc) (jm_lu_ok _ gl_290_4 pc))))
def cd_291 (pc : Nat) : jm_O := if pc < 50 then jm_lu cl_291_0 pc else jm_lu cl_291_1 pc
theorem ok_291 (pc : Nat) : jm_pu (cd_291 pc) ∧ jm_snd "FrescoWallModel" prog_14_method_123_code 2 (Option.some Jvm.ClassFile.FieldType.boolean) false pc (cd_291 pc) := jm_if2 (jm_lu_ok _ gl_291_0 pc) (jm_lu_ok _ gl_291_1 pc)
def cd_292 (pc : Nat) : jm_O := if pc < 48 then jm_lu cl_292_0 pc else jm_lu cl_292_1 pc
theorem ok_292 (pc : Nat) : jm_pu (cd_292 pc) ∧ jm_snd "FrescoWallModel" prog_14_method_124_code 3 (Option.some Jvm.ClassFile.FieldType.boolean) false pc (cd_292 pc) := jm_if2 (jm_lu_ok _ gl_292_0 pc) (jm_lu_ok _ gl_292_1 pc)
def cd_293 (pc : Nat) : jm_O := if pc < 48 then jm_lu cl_293_0 pc else jm_lu cl_293_1 pc
theorem ok_293 (pc : Nat) : jm_pu (cd_293 pc) ∧ jm_snd "FrescoWallModel" prog_14_method_125_code 3 (Option.some Jvm.ClassFile.FieldType.boolean) false pc (cd_293 pc) := jm_if2 (jm_lu_ok _ gl_293_0 pc) (jm_lu_ok _ gl_293_1 pc)
def cd_294 (pc : Nat) : jm_O := jm_lu cl_294_0 pc
theorem ok_294 (pc : Nat) : jm_pu (cd_294 pc) ∧ jm_snd "FrescoWallModel" prog_14_method_126_code 2 (Option.some Jvm.ClassFile.FieldType.boolean) false pc (cd_294 pc) := jm_lu_ok _ gl_294_0 pc
def cd_295 (pc : Nat) : jm_O := if pc < 48 then jm_lu cl_295_0 pc else if pc < 89 then jm_lu cl_295_1 pc else if pc < 136 then jm_lu cl_295_2 pc else jm_lu cl_295_3 pc
theorem ok_295 (pc : Nat) : jm_pu (cd_295 pc) ∧ jm_snd "FrescoWallModel" prog_14_method_127_code 3 (Option.some Jvm.ClassFile.FieldType.int) false pc (cd_295 pc) := jm_if2 (jm_lu_ok _ gl_295_0 pc) (jm_if2 (jm_lu_ok _ gl_295_1 pc) (jm_if2 (jm_lu_ok _ gl_295_2 pc) (jm_lu_ok _ gl_295_3 pc)))
def cd_296 (pc : Nat) : jm_O := jm_lu cl_296_0 pc
theorem ok_296 (pc : Nat) : jm_pu (cd_296 pc) ∧ jm_snd "FrescoWallModel" prog_14_method_128_code 2 (Option.some Jvm.ClassFile.FieldType.int) false pc (cd_296 pc) := jm_lu_ok _ gl_296_0 pc
def cd_297 (pc : Nat) : jm_O := if pc < 47 then jm_lu cl_297_0 pc else if pc < 90 then jm_lu cl_297_1 pc else jm_lu cl_297_2 pc
theorem ok_297 (pc : Nat) : jm_pu (cd_297 pc) ∧ jm_snd "FrescoWallModel" prog_14_method_129_code 4 (Option.some Jvm.ClassFile.FieldType.int) false pc (cd_297 pc) := jm_if2 (jm_lu_ok _ gl_297_0 pc) (jm_if2 (jm_lu_ok _ gl_297_1 pc) (jm_lu_ok _ gl_297_2 pc))
def cd_298 (pc : Nat) : jm_O := if pc < 46 then jm_lu cl_298_0 pc else if pc < 98 then jm_lu cl_298_1 pc else jm_lu cl_298_2 pc
theorem ok_298 (pc : Nat) : jm_pu (cd_298 pc) ∧ jm_snd "FrescoWallModel" prog_14_method_130_code 7 (Option.some Jvm.ClassFile.FieldType.int) false pc (cd_298 pc) := jm_if2 (jm_lu_ok _ gl_298_0 pc) (jm_if2 (jm_lu_ok _ gl_298_1 pc) (jm_lu_ok _ gl_298_2 pc))
def cd_299 (pc : Nat) : jm_O := if pc < 45 then jm_lu cl_299_0 pc else jm_lu cl_299_1 pc
theorem ok_299 (pc : Nat) : jm_pu (cd_299 pc) ∧ jm_snd "FrescoWallModel" prog_14_method_131_code 5 (Option.some Jvm.ClassFile.FieldType.int) false pc (cd_299 pc) := jm_if2 (jm_lu_ok _ gl_299_0 pc) (jm_lu_ok _ gl_299_1 pc)
def cd_300 (pc : Nat) : jm_O := if pc < 43 then jm_lu cl_300_0 pc else jm_lu cl_300_1 pc
theorem ok_300 (pc : Nat) : jm_pu (cd_300 pc) ∧ jm_snd "FrescoWallModel" prog_14_method_132_code 5 (Option.some Jvm.ClassFile.FieldType.int) false pc (cd_300 pc) := jm_if2 (jm_lu_ok _ gl_300_0 pc) (jm_lu_ok _ gl_300_1 pc)
def cd_301 (pc : Nat) : jm_O := if pc < 41 then jm_lu cl_301_0 pc else jm_lu cl_301_1 pc
theorem ok_301 (pc : Nat) : jm_pu (cd_301 pc) ∧ jm_snd "FrescoWallModel" prog_14_method_133_code 4 (Option.some Jvm.ClassFile.FieldType.int) false pc (cd_301 pc) := jm_if2 (jm_lu_ok _ gl_301_0 pc) (jm_lu_ok _ gl_301_1 pc)
def cd_302 (pc : Nat) : jm_O := if pc < 44 then jm_lu cl_302_0 pc else if pc < 82 then jm_lu cl_302_1 pc else if pc < 127 then jm_lu cl_302_2 pc else if pc < 173 then jm_lu cl_302_3 pc else if pc < 219 then jm_lu cl_302_4 pc else if pc < 264 then jm_lu cl_302_5 pc else jm_lu cl_302_6 pc
theorem ok_302 (pc : Nat) : jm_pu (cd_302 pc) ∧ jm_snd "FrescoWallModel" prog_14_method_134_code 6 (Option.some Jvm.ClassFile.FieldType.int) false pc (cd_302 pc) := jm_if2 (jm_lu_ok _ gl_302_0 pc) (jm_if2 (jm_lu_ok _ gl_302_1 pc) (jm_if2 (jm_lu_ok _ gl_302_2 pc) (jm_if2 (jm_lu_ok _ gl_302_3 pc) (jm_if2 (jm_lu_ok _ gl_302_4 pc) (jm_if2 (jm_lu_ok _ gl_302_5 pc) (jm_lu_ok _ gl_302_6 pc))))))
def cd_303 (pc : Nat) : jm_O := jm_lu cl_303_0 pc
theorem ok_303 (pc : Nat) : jm_pu (cd_303 pc) ∧ jm_snd "FrescoWallModel" prog_14_method_135_code 3 (Option.some Jvm.ClassFile.FieldType.int) false pc (cd_303 pc) := jm_lu_ok _ gl_303_0 pc
def cd_304 (pc : Nat) : jm_O := if pc < 87 then jm_lu cl_304_0 pc else if pc < 130 then jm_lu cl_304_1 pc else if pc < 171 then jm_lu cl_304_2 pc else if pc < 212 then jm_lu cl_304_3 pc else if pc < 255 then jm_lu cl_304_4 pc else jm_lu cl_304_5 pc
theorem ok_304 (pc : Nat) : jm_pu (cd_304 pc) ∧ jm_snd "FrescoWallModel" prog_14_method_136_code 4 (Option.some Jvm.ClassFile.FieldType.int) false pc (cd_304 pc) := jm_if2 (jm_lu_ok _ gl_304_0 pc) (jm_if2 (jm_lu_ok _ gl_304_1 pc) (jm_if2 (jm_lu_ok _ gl_304_2 pc) (jm_if2 (jm_lu_ok _ gl_304_3 pc) (jm_if2 (jm_lu_ok _ gl_304_4 pc) (jm_lu_ok _ gl_304_5 pc)))))
