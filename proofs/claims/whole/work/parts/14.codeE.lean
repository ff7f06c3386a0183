theorem dc_220_0 : ([(0, .aload_n 0, 1), (1, .iload_n 1, 1), (2, .iload_n 2, 1), (3, .invokevirtual 335, 3), (6, .ifCond .ne 5, 3), (9, .iconst (-1), 1), (10, .ireturn, 1), (11, .aload_n 0, 1), (12, .iload_n 1, 1), (13, .iload_n 2, 1), (14, .invokevirtual 375, 3), (17, .aload_n 0, 1), (18, .getfield 372, 3), (21, .ireturn, 1)] : List (Nat × Instr × Nat)).all (fun e => decide (decode prog_14_method_52_code e.1 = .ok e.2)) = true := by decide +kernel
abbrev cl_220_0 : List (Nat × jm_O) := [(0, op_aload 0 1), (1, op_iload 1 1), (2, op_iload 2 1), (3, op_callV 11 173 3), (6, op_ifne 11), (9, op_ic (-1) 1), (10, op_iret), (11, op_aload 0 1), (12, op_iload 1 1), (13, op_iload 2 1), (14, op_callV 11 219 3), (17, op_aload 0 1), (18, op_getI 11 42), (21, op_iret)]
set_option maxRecDepth 100000 in
theorem gl_220_0 : jm_gl "FrescoWallModel" prog_14_method_52_code 3 (Option.some Jvm.ClassFile.FieldType.int) false cl_220_0 :=
  jm_gc (pu_aload _ _) (sn_aload_n (i := 0) (jm_dc dc_220_0 0 rfl)) (
  jm_gc (pu_iload _ _) (sn_iload_n (i := 1) (jm_dc dc_220_0 1 rfl)) (
  jm_gc (pu_iload _ _) (sn_iload_n (i := 2) (jm_dc dc_220_0 2 rfl)) (
  jm_gc (pu_callV _ _ _) (sn_callV (jm_dc dc_220_0 3 rfl) lk_11_335) (
  jm_gc (pu_ifne _) (sn_ifne (jm_dc dc_220_0 4 rfl) (by decide)) (
  jm_gc (pu_ic _ _) (sn_iconst (jm_dc dc_220_0 5 rfl) (by decide)) (
  jm_gc (pu_iret) (sn_iret (jm_dc dc_220_0 6 rfl) rfl) (
  jm_gc (pu_aload _ _) (sn_aload_n (i := 0) (jm_dc dc_220_0 7 rfl)) (
  jm_gc (pu_iload _ _) (sn_iload_n (i := 1) (jm_dc dc_220_0 8 rfl)) (
  jm_gc (pu_iload _ _) (sn_iload_n (i := 2) (jm_dc dc_220_0 9 rfl)) (
  jm_gc (pu_callV _ _ _) (sn_callV (jm_dc dc_220_0 10 rfl) lk_11_375) (
  jm_gc (pu_aload _ _) (sn_aload_n (i := 0) (jm_dc dc_220_0 11 rfl)) (
  jm_gc (pu_getI _ _) (sn_getI (jm_dc dc_220_0 12 rfl) fl_11_372 (Or.inl rfl)) (
  jm_gc (pu_iret) (sn_iret (jm_dc dc_220_0 13 rfl) rfl) (
  jm_gn))))))))))))))
theorem dc_221_0 : ([(0, .aload_n 0, 1), (1, .iload_n 1, 1), (2, .iload_n 2, 1), (3, .invokevirtual 335, 3), (6, .ifCond .ne 5, 3), (9, .iconst (-1), 1), (10, .ireturn, 1), (11, .aload_n 0, 1), (12, .iload_n 1, 1), (13, .iload_n 2, 1), (14, .invokevirtual 375, 3), (17, .iload_n 3, 1), (18, .iconst 0, 1), (19, .aload_n 0, 1), (20, .getfield 372, 3), (23, .iconst 1, 1), (24, .isub, 1), (25, .invokestatic 218, 3), (28, .ifCond .eq 12, 3), (31, .aload_n 0, 1), (32, .getfield 106, 3), (35, .iload_n 3, 1), (36, .iaload, 1), (37, .goto 4, 3), (40, .iconst (-1), 1)] : List (Nat × Instr × Nat)).all (fun e => decide (decode prog_14_method_53_code e.1 = .ok e.2)) = true := by decide +kernel
abbrev cl_221_0 : List (Nat × jm_O) := [(0, op_aload 0 1), (1, op_iload 1 1), (2, op_iload 2 1), (3, op_callV 11 173 3), (6, op_ifne 11), (9, op_ic (-1) 1), (10, op_iret), (11, op_aload 0 1), (12, op_iload 1 1), (13, op_iload 2 1), (14, op_callV 11 219 3), (17, op_iload 3 1), (18, op_ic 0 1), (19, op_aload 0 1), (20, op_getI 11 42), (23, op_ic 1 1), (24, op_ibin (fun x y => x - y)), (25, op_callS 171 3), (28, op_ifeq 40), (31, op_aload 0 1), (32, op_getA 11 43), (35, op_iload 3 1), (36, op_iald 13), (37, op_goto 41), (40, op_ic (-1) 1)]
set_option maxRecDepth 100000 in
theorem gl_221_0 : jm_gl "FrescoWallModel" prog_14_method_53_code 4 (Option.some Jvm.ClassFile.FieldType.int) false cl_221_0 :=
  jm_gc (pu_aload _ _) (sn_aload_n (i := 0) (jm_dc dc_221_0 0 rfl)) (
  jm_gc (pu_iload _ _) (sn_iload_n (i := 1) (jm_dc dc_221_0 1 rfl)) (
  jm_gc (pu_iload _ _) (sn_iload_n (i := 2) (jm_dc dc_221_0 2 rfl)) (
  jm_gc (pu_callV _ _ _) (sn_callV (jm_dc dc_221_0 3 rfl) lk_11_335) (
  jm_gc (pu_ifne _) (sn_ifne (jm_dc dc_221_0 4 rfl) (by decide)) (
  jm_gc (pu_ic _ _) (sn_iconst (jm_dc dc_221_0 5 rfl) (by decide)) (
  jm_gc (pu_iret) (sn_iret (jm_dc dc_221_0 6 rfl) rfl) (
  jm_gc (pu_aload _ _) (sn_aload_n (i := 0) (jm_dc dc_221_0 7 rfl)) (
  jm_gc (pu_iload _ _) (sn_iload_n (i := 1) (jm_dc dc_221_0 8 rfl)) (
  jm_gc (pu_iload _ _) (sn_iload_n (i := 2) (jm_dc dc_221_0 9 rfl)) (
  jm_gc (pu_callV _ _ _) (sn_callV (jm_dc dc_221_0 10 rfl) lk_11_375) (
  jm_gc (pu_iload _ _) (sn_iload_n (i := 3) (jm_dc dc_221_0 11 rfl)) (
  jm_gc (pu_ic _ _) (sn_iconst (jm_dc dc_221_0 12 rfl) (by decide)) (
  jm_gc (pu_aload _ _) (sn_aload_n (i := 0) (jm_dc dc_221_0 13 rfl)) (
  jm_gc (pu_getI _ _) (sn_getI (jm_dc dc_221_0 14 rfl) fl_11_372 (Or.inl rfl)) (
  jm_gc (pu_ic _ _) (sn_iconst (jm_dc dc_221_0 15 rfl) (by decide)) (
  jm_gc (pu_ibin _) (sn_isub (jm_dc dc_221_0 16 rfl)) (
  jm_gc (pu_callS _ _) (sn_callS (jm_dc dc_221_0 17 rfl) lk_11_218) (
  jm_gc (pu_ifeq _) (sn_ifeq (jm_dc dc_221_0 18 rfl) (by decide)) (
  jm_gc (pu_aload _ _) (sn_aload_n (i := 0) (jm_dc dc_221_0 19 rfl)) (
  jm_gc (pu_getA _ _) (sn_getA (jm_dc dc_221_0 20 rfl) fl_11_106 rfl) (
  jm_gc (pu_iload _ _) (sn_iload_n (i := 3) (jm_dc dc_221_0 21 rfl)) (
  jm_gc (pu_iald _) (sn_iald (jm_dc dc_221_0 22 rfl)) (
  jm_gc (pu_goto _) (sn_goto (jm_dc dc_221_0 23 rfl) (by decide)) (
  jm_gc (pu_ic _ _) (sn_iconst (jm_dc dc_221_0 24 rfl) (by decide)) (
  jm_gn)))))))))))))))))))))))))
theorem dc_221_1 : ([(41, .ireturn, 1)] : List (Nat × Instr × Nat)).all (fun e => decide (decode prog_14_method_53_code e.1 = .ok e.2)) = true := by decide +kernel
abbrev cl_221_1 : List (Nat × jm_O) := [(41, op_iret)]
set_option maxRecDepth 100000 in
theorem gl_221_1 : jm_gl "FrescoWallModel" prog_14_method_53_code 4 (Option.some Jvm.ClassFile.FieldType.int) false cl_221_1 :=
  jm_gc (pu_iret) (sn_iret (jm_dc dc_221_1 0 rfl) rfl) (
  jm_gn)
theorem dc_222_0 : ([(0, .aload_n 0, 1), (1, .iload_n 1, 1), (2, .iload_n 2, 1), (3, .invokevirtual 375, 3), (6, .iconst 0, 1), (7, .istore 6, 2), (9, .iload 6, 2), (11, .aload_n 0, 1), (12, .getfield 372, 3), (15, .if_icmp .ge 46, 3), (18, .aload_n 0, 1), (19, .getfield 109, 3), (22, .iload 6, 2), (24, .iaload, 1), (25, .iload 5, 2), (27, .if_icmp .lt 34, 3), (30, .aload_n 0, 1), (31, .getfield 106, 3), (34, .iload 6, 2), (36, .iaload, 1), (37, .bipush 10, 2), (39, .iload_n 3, 1), (40, .imul, 1), (41, .iload 4, 2), (43, .iadd, 1)] : List (Nat × Instr × Nat)).all (fun e => decide (decode prog_14_method_54_code e.1 = .ok e.2)) = true := by decide +kernel
abbrev cl_222_0 : List (Nat × jm_O) := [(0, op_aload 0 1), (1, op_iload 1 1), (2, op_iload 2 1), (3, op_callV 11 219 3), (6, op_ic 0 1), (7, op_istore 6 2), (9, op_iload 6 2), (11, op_aload 0 1), (12, op_getI 11 42), (15, op_cge 61), (18, op_aload 0 1), (19, op_getA 11 44), (22, op_iload 6 2), (24, op_iald 13), (25, op_iload 5 2), (27, op_clt 61), (30, op_aload 0 1), (31, op_getA 11 43), (34, op_iload 6 2), (36, op_iald 13), (37, op_ic 10 2), (39, op_iload 3 1), (40, op_ibin (fun x y => x * y)), (41, op_iload 4 2), (43, op_ibin (fun x y => x + y))]
set_option maxRecDepth 100000 in
theorem gl_222_0 : jm_gl "FrescoWallModel" prog_14_method_54_code 7 (Option.some Jvm.ClassFile.FieldType.int) false cl_222_0 :=
  jm_gc (pu_aload _ _) (sn_aload_n (i := 0) (jm_dc dc_222_0 0 rfl)) (
  jm_gc (pu_iload _ _) (sn_iload_n (i := 1) (jm_dc dc_222_0 1 rfl)) (
  jm_gc (pu_iload _ _) (sn_iload_n (i := 2) (jm_dc dc_222_0 2 rfl)) (
  jm_gc (pu_callV _ _ _) (sn_callV (jm_dc dc_222_0 3 rfl) lk_11_375) (
  jm_gc (pu_ic _ _) (sn_iconst (jm_dc dc_222_0 4 rfl) (by decide)) (
  jm_gc (pu_istore _ _) (sn_istore (jm_dc dc_222_0 5 rfl)) (
  jm_gc (pu_iload _ _) (sn_iload (jm_dc dc_222_0 6 rfl)) (
  jm_gc (pu_aload _ _) (sn_aload_n (i := 0) (jm_dc dc_222_0 7 rfl)) (
  jm_gc (pu_getI _ _) (sn_getI (jm_dc dc_222_0 8 rfl) fl_11_372 (Or.inl rfl)) (
  jm_gc (pu_cge _) (sn_cge (jm_dc dc_222_0 9 rfl) (by decide)) (
  jm_gc (pu_aload _ _) (sn_aload_n (i := 0) (jm_dc dc_222_0 10 rfl)) (
  jm_gc (pu_getA _ _) (sn_getA (jm_dc dc_222_0 11 rfl) fl_11_109 rfl) (
  jm_gc (pu_iload _ _) (sn_iload (jm_dc dc_222_0 12 rfl)) (
  jm_gc (pu_iald _) (sn_iald (jm_dc dc_222_0 13 rfl)) (
  jm_gc (pu_iload _ _) (sn_iload (jm_dc dc_222_0 14 rfl)) (
  jm_gc (pu_clt _) (sn_clt (jm_dc dc_222_0 15 rfl) (by decide)) (
  jm_gc (pu_aload _ _) (sn_aload_n (i := 0) (jm_dc dc_222_0 16 rfl)) (
  jm_gc (pu_getA _ _) (sn_getA (jm_dc dc_222_0 17 rfl) fl_11_106 rfl) (
  jm_gc (pu_iload _ _) (sn_iload (jm_dc dc_222_0 18 rfl)) (
  jm_gc (pu_iald _) (sn_iald (jm_dc dc_222_0 19 rfl)) (
  jm_gc (pu_ic _ _) (sn_bipush (jm_dc dc_222_0 20 rfl) (by decide)) (
  jm_gc (pu_iload _ _) (sn_iload_n (i := 3) (jm_dc dc_222_0 21 rfl)) (
  jm_gc (pu_ibin _) (sn_imul (jm_dc dc_222_0 22 rfl)) (
  jm_gc (pu_iload _ _) (sn_iload (jm_dc dc_222_0 23 rfl)) (
  jm_gc (pu_ibin _) (sn_iadd (jm_dc dc_222_0 24 rfl)) (
  jm_gn)))))))))))))))))))))))))
theorem dc_222_1 : ([(44, .if_icmp .eq 11, 3), (47, .aload_n 0, 1), (48, .getfield 106, 3), (51, .iload 6, 2), (53, .iaload, 1), (54, .ireturn, 1), (55, .iinc 6 1, 3), (58, .goto (-49), 3), (61, .iconst (-1), 1), (62, .ireturn, 1)] : List (Nat × Instr × Nat)).all (fun e => decide (decode prog_14_method_54_code e.1 = .ok e.2)) = true := by decide +kernel
abbrev cl_222_1 : List (Nat × jm_O) := [(44, op_ceq 55), (47, op_aload 0 1), (48, op_getA 11 43), (51, op_iload 6 2), (53, op_iald 13), (54, op_iret), (55, op_iinc 6 1), (58, op_goto 9), (61, op_ic (-1) 1), (62, op_iret)]
set_option maxRecDepth 100000 in
theorem gl_222_1 : jm_gl "FrescoWallModel" prog_14_method_54_code 7 (Option.some Jvm.ClassFile.FieldType.int) false cl_222_1 :=
  jm_gc (pu_ceq _) (sn_ceq (jm_dc dc_222_1 0 rfl) (by decide)) (
  jm_gc (pu_aload _ _) (sn_aload_n (i := 0) (jm_dc dc_222_1 1 rfl)) (
  jm_gc (pu_getA _ _) (sn_getA (jm_dc dc_222_1 2 rfl) fl_11_106 rfl) (
  jm_gc (pu_iload _ _) (sn_iload (jm_dc dc_222_1 3 rfl)) (
  jm_gc (pu_iald _) (sn_iald (jm_dc dc_222_1 4 rfl)) (
  jm_gc (pu_iret) (sn_iret (jm_dc dc_222_1 5 rfl) rfl) (
  jm_gc (pu_iinc _ _) (sn_iinc (jm_dc dc_222_1 6 rfl) (by decide)) (
  jm_gc (pu_goto _) (sn_goto (jm_dc dc_222_1 7 rfl) (by decide)) (
  jm_gc (pu_ic _ _) (sn_iconst (jm_dc dc_222_1 8 rfl) (by decide)) (
  jm_gc (pu_iret) (sn_iret (jm_dc dc_222_1 9 rfl) rfl) (
  jm_gn))))))))))
theorem dc_223_0 : ([(0, .aload_n 0, 1), (1, .iload_n 1, 1), (2, .iload_n 2, 1), (3, .iload_n 3, 1), (4, .iload 4, 2), (6, .invokevirtual 369, 3), (9, .istore 5, 2), (11, .aload_n 0, 1), (12, .iload_n 1, 1), (13, .iload_n 2, 1), (14, .iload_n 3, 1), (15, .iload 4, 2), (17, .iload 5, 2), (19, .invokevirtual 378, 3), (22, .istore 6, 2), (24, .iload 6, 2), (26, .iconst (-1), 1), (27, .if_icmp .ne 17, 3), (30, .aload_n 0, 1), (31, .iload_n 3, 1), (32, .iload 4, 2), (34, .iload_n 1, 1), (35, .iload_n 2, 1), (36, .iload 5, 2), (38, .invokevirtual 378, 3)] : List (Nat × Instr × Nat)).all (fun e => decide (decode prog_14_method_55_code e.1 = .ok e.2)) = true := by decide +kernel
abbrev cl_223_0 : List (Nat × jm_O) := [(0, op_aload 0 1), (1, op_iload 1 1), (2, op_iload 2 1), (3, op_iload 3 1), (4, op_iload 4 2), (6, op_callV 11 215 5), (9, op_istore 5 2), (11, op_aload 0 1), (12, op_iload 1 1), (13, op_iload 2 1), (14, op_iload 3 1), (15, op_iload 4 2), (17, op_iload 5 2), (19, op_callV 11 222 6), (22, op_istore 6 2), (24, op_iload 6 2), (26, op_ic (-1) 1), (27, op_cne 44), (30, op_aload 0 1), (31, op_iload 3 1), (32, op_iload 4 2), (34, op_iload 1 1), (35, op_iload 2 1), (36, op_iload 5 2), (38, op_callV 11 222 6)]
set_option maxRecDepth 100000 in
theorem gl_223_0 : jm_gl "FrescoWallModel" prog_14_method_55_code 8 (Option.some Jvm.ClassFile.FieldType.int) false cl_223_0 :=
  jm_gc (pu_aload _ _) (sn_aload_n (i := 0) (jm_dc dc_223_0 0 rfl)) (
  jm_gc (pu_iload _ _) (sn_iload_n (i := 1) (jm_dc dc_223_0 1 rfl)) (
  jm_gc (pu_iload _ _) (sn_iload_n (i := 2) (jm_dc dc_223_0 2 rfl)) (
  jm_gc (pu_iload _ _) (sn_iload_n (i := 3) (jm_dc dc_223_0 3 rfl)) (
  jm_gc (pu_iload _ _) (sn_iload (jm_dc dc_223_0 4 rfl)) (
  jm_gc (pu_callV _ _ _) (sn_callV (jm_dc dc_223_0 5 rfl) lk_11_369) (
  jm_gc (pu_istore _ _) (sn_istore (jm_dc dc_223_0 6 rfl)) (
  jm_gc (pu_aload _ _) (sn_aload_n (i := 0) (jm_dc dc_223_0 7 rfl)) (
  jm_gc (pu_iload _ _) (sn_iload_n (i := 1) (jm_dc dc_223_0 8 rfl)) (
  jm_gc (pu_iload _ _) (sn_iload_n (i := 2) (jm_dc dc_223_0 9 rfl)) (
  jm_gc (pu_iload _ _) (sn_iload_n (i := 3) (jm_dc dc_223_0 10 rfl)) (
  jm_gc (pu_iload _ _) (sn_iload (jm_dc dc_223_0 11 rfl)) (
  jm_gc (pu_iload _ _) (sn_iload (jm_dc dc_223_0 12 rfl)) (
  jm_gc (pu_callV _ _ _) (sn_callV (jm_dc dc_223_0 13 rfl) lk_11_378) (
  jm_gc (pu_istore _ _) (sn_istore (jm_dc dc_223_0 14 rfl)) (
  jm_gc (pu_iload _ _) (sn_iload (jm_dc dc_223_0 15 rfl)) (
  jm_gc (pu_ic _ _) (sn_iconst (jm_dc dc_223_0 16 rfl) (by decide)) (
  jm_gc (pu_cne _) (sn_cne (jm_dc dc_223_0 17 rfl) (by decide)) (
  jm_gc (pu_aload _ _) (sn_aload_n (i := 0) (jm_dc dc_223_0 18 rfl)) (
  jm_gc (pu_iload _ _) (sn_iload_n (i := 3) (jm_dc dc_223_0 19 rfl)) (
  jm_gc (pu_iload _ _) (sn_iload (jm_dc dc_223_0 20 rfl)) (
  jm_gc (pu_iload _ _) (sn_iload_n (i := 1) (jm_dc dc_223_0 21 rfl)) (
  jm_gc (pu_iload _ _) (sn_iload_n (i := 2) (jm_dc dc_223_0 22 rfl)) (
  jm_gc (pu_iload _ _) (sn_iload (jm_dc dc_223_0 23 rfl)) (
  jm_gc (pu_callV _ _ _) (sn_callV (jm_dc dc_223_0 24 rfl) lk_11_378) (
  jm_gn)))))))))))))))))))))))))
theorem dc_223_1 : ([(41, .goto 4, 3), (44, .iconst (-1), 1), (45, .istore 7, 2), (47, .iload 6, 2), (49, .iconst (-1), 1), (50, .if_icmp .eq 14, 3), (53, .sipush 1000, 3), (56, .iload_n 1, 1), (57, .imul, 1), (58, .iload 6, 2), (60, .iadd, 1), (61, .goto 22, 3), (64, .iload 7, 2), (66, .iconst (-1), 1), (67, .if_icmp .eq 14, 3), (70, .sipush 1000, 3), (73, .iload_n 3, 1), (74, .imul, 1), (75, .iload 7, 2), (77, .iadd, 1), (78, .goto 5, 3), (81, .bipush (-5), 2), (83, .ireturn, 1)] : List (Nat × Instr × Nat)).all (fun e => decide (decode prog_14_method_55_code e.1 = .ok e.2)) = true := by decide +kernel
abbrev cl_223_1 : List (Nat × jm_O) := [(41, op_goto 45), (44, op_ic (-1) 1), (45, op_istore 7 2), (47, op_iload 6 2), (49, op_ic (-1) 1), (50, op_ceq 64), (53, op_ic 1000 3), (56, op_iload 1 1), (57, op_ibin (fun x y => x * y)), (58, op_iload 6 2), (60, op_ibin (fun x y => x + y)), (61, op_goto 83), (64, op_iload 7 2), (66, op_ic (-1) 1), (67, op_ceq 81), (70, op_ic 1000 3), (73, op_iload 3 1), (74, op_ibin (fun x y => x * y)), (75, op_iload 7 2), (77, op_ibin (fun x y => x + y)), (78, op_goto 83), (81, op_ic (-5) 2), (83, op_iret)]
set_option maxRecDepth 100000 in
theorem gl_223_1 : jm_gl "FrescoWallModel" prog_14_method_55_code 8 (Option.some Jvm.ClassFile.FieldType.int) false cl_223_1 :=
  jm_gc (pu_goto _) (sn_goto (jm_dc dc_223_1 0 rfl) (by decide)) (
  jm_gc (pu_ic _ _) (sn_iconst (jm_dc dc_223_1 1 rfl) (by decide)) (
  jm_gc (pu_istore _ _) (sn_istore (jm_dc dc_223_1 2 rfl)) (
  jm_gc (pu_iload _ _) (sn_iload (jm_dc dc_223_1 3 rfl)) (
  jm_gc (pu_ic _ _) (sn_iconst (jm_dc dc_223_1 4 rfl) (by decide)) (
  jm_gc (pu_ceq _) (sn_ceq (jm_dc dc_223_1 5 rfl) (by decide)) (
  jm_gc (pu_ic _ _) (sn_sipush (jm_dc dc_223_1 6 rfl) (by decide)) (
  jm_gc (pu_iload _ _) (sn_iload_n (i := 1) (jm_dc dc_223_1 7 rfl)) (
  jm_gc (pu_ibin _) (sn_imul (jm_dc dc_223_1 8 rfl)) (
  jm_gc (pu_iload _ _) (sn_iload (jm_dc dc_223_1 9 rfl)) (
  jm_gc (pu_ibin _) (sn_iadd (jm_dc dc_223_1 10 rfl)) (
  jm_gc (pu_goto _) (sn_goto (jm_dc dc_223_1 11 rfl) (by decide)) (
  jm_gc (pu_iload _ _) (sn_iload (jm_dc dc_223_1 12 rfl)) (
  jm_gc (pu_ic _ _) (sn_iconst (jm_dc dc_223_1 13 rfl) (by decide)) (
  jm_gc (pu_ceq _) (sn_ceq (jm_dc dc_223_1 14 rfl) (by decide)) (
  jm_gc (pu_ic _ _) (sn_sipush (jm_dc dc_223_1 15 rfl) (by decide)) (
  jm_gc (pu_iload _ _) (sn_iload_n (i := 3) (jm_dc dc_223_1 16 rfl)) (
  jm_gc (pu_ibin _) (sn_imul (jm_dc dc_223_1 17 rfl)) (
  jm_gc (pu_iload _ _) (sn_iload (jm_dc dc_223_1 18 rfl)) (
  jm_gc (pu_ibin _) (sn_iadd (jm_dc dc_223_1 19 rfl)) (
  jm_gc (pu_goto _) (sn_goto (jm_dc dc_223_1 20 rfl) (by decide)) (
  jm_gc (pu_ic _ _) (sn_bipush (jm_dc dc_223_1 21 rfl) (by decide)) (
  jm_gc (pu_iret) (sn_iret (jm_dc dc_223_1 22 rfl) rfl) (
  jm_gn)))))))))))))))))))))))
theorem dc_224_0 : ([(0, .aload_n 0, 1), (1, .iload_n 1, 1), (2, .iload_n 2, 1), (3, .invokevirtual 335, 3), (6, .ifCond .eq 13, 3), (9, .aload_n 0, 1), (10, .iload_n 3, 1), (11, .iload 4, 2), (13, .invokevirtual 335, 3), (16, .ifCond .ne 5, 3), (19, .iconst (-1), 1), (20, .ireturn, 1), (21, .iload_n 1, 1), (22, .iload_n 3, 1), (23, .if_icmp .ne 8, 3), (26, .bipush (-2), 2), (28, .goto 29, 3), (31, .aload_n 0, 1), (32, .iload_n 1, 1), (33, .iload_n 2, 1), (34, .iload_n 3, 1), (35, .iload 4, 2), (37, .invokevirtual 366, 3), (40, .ifCond .eq 15, 3), (43, .aload_n 0, 1)] : List (Nat × Instr × Nat)).all (fun e => decide (decode prog_14_method_56_code e.1 = .ok e.2)) = true := by decide +kernel
abbrev cl_224_0 : List (Nat × jm_O) := [(0, op_aload 0 1), (1, op_iload 1 1), (2, op_iload 2 1), (3, op_callV 11 173 3), (6, op_ifeq 19), (9, op_aload 0 1), (10, op_iload 3 1), (11, op_iload 4 2), (13, op_callV 11 173 3), (16, op_ifne 21), (19, op_ic (-1) 1), (20, op_iret), (21, op_iload 1 1), (22, op_iload 3 1), (23, op_cne 31), (26, op_ic (-2) 2), (28, op_goto 57), (31, op_aload 0 1), (32, op_iload 1 1), (33, op_iload 2 1), (34, op_iload 3 1), (35, op_iload 4 2), (37, op_callV 11 214 5), (40, op_ifeq 55), (43, op_aload 0 1)]
set_option maxRecDepth 100000 in
theorem gl_224_0 : jm_gl "FrescoWallModel" prog_14_method_56_code 5 (Option.some Jvm.ClassFile.FieldType.int) false cl_224_0 :=
  jm_gc (pu_aload _ _) (sn_aload_n (i := 0) (jm_dc dc_224_0 0 rfl)) (
  jm_gc (pu_iload _ _) (sn_iload_n (i := 1) (jm_dc dc_224_0 1 rfl)) (
  jm_gc (pu_iload _ _) (sn_iload_n (i := 2) (jm_dc dc_224_0 2 rfl)) (
  jm_gc (pu_callV _ _ _) (sn_callV (jm_dc dc_224_0 3 rfl) lk_11_335) (
  jm_gc (pu_ifeq _) (sn_ifeq (jm_dc dc_224_0 4 rfl) (by decide)) (
  jm_gc (pu_aload _ _) (sn_aload_n (i := 0) (jm_dc dc_224_0 5 rfl)) (
  jm_gc (pu_iload _ _) (sn_iload_n (i := 3) (jm_dc dc_224_0 6 rfl)) (
  jm_gc (pu_iload _ _) (sn_iload (jm_dc dc_224_0 7 rfl)) (
  jm_gc (pu_callV _ _ _) (sn_callV (jm_dc dc_224_0 8 rfl) lk_11_335) (
  jm_gc (pu_ifne _) (sn_ifne (jm_dc dc_224_0 9 rfl) (by decide)) (
  jm_gc (pu_ic _ _) (sn_iconst (jm_dc dc_224_0 10 rfl) (by decide)) (
  jm_gc (pu_iret) (sn_iret (jm_dc dc_224_0 11 rfl) rfl) (
  jm_gc (pu_iload _ _) (sn_iload_n (i := 1) (jm_dc dc_224_0 12 rfl)) (
  jm_gc (pu_iload _ _) (sn_iload_n (i := 3) (jm_dc dc_224_0 13 rfl)) (
  jm_gc (pu_cne _) (sn_cne (jm_dc dc_224_0 14 rfl) (by decide)) (
  jm_gc (pu_ic _ _) (sn_bipush (jm_dc dc_224_0 15 rfl) (by decide)) (
  jm_gc (pu_goto _) (sn_goto (jm_dc dc_224_0 16 rfl) (by decide)) (
  jm_gc (pu_aload _ _) (sn_aload_n (i := 0) (jm_dc dc_224_0 17 rfl)) (
  jm_gc (pu_iload _ _) (sn_iload_n (i := 1) (jm_dc dc_224_0 18 rfl)) (
  jm_gc (pu_iload _ _) (sn_iload_n (i := 2) (jm_dc dc_224_0 19 rfl)) (
  jm_gc (pu_iload _ _) (sn_iload_n (i := 3) (jm_dc dc_224_0 20 rfl)) (
  jm_gc (pu_iload _ _) (sn_iload (jm_dc dc_224_0 21 rfl)) (
  jm_gc (pu_callV _ _ _) (sn_callV (jm_dc dc_224_0 22 rfl) lk_11_366) (
  jm_gc (pu_ifeq _) (sn_ifeq (jm_dc dc_224_0 23 rfl) (by decide)) (
  jm_gc (pu_aload _ _) (sn_aload_n (i := 0) (jm_dc dc_224_0 24 rfl)) (
  jm_gn)))))))))))))))))))))))))
theorem dc_224_1 : ([(44, .iload_n 1, 1), (45, .iload_n 2, 1), (46, .iload_n 3, 1), (47, .iload 4, 2), (49, .invokevirtual 381, 3), (52, .goto 5, 3), (55, .bipush (-3), 2), (57, .ireturn, 1)] : List (Nat × Instr × Nat)).all (fun e => decide (decode prog_14_method_56_code e.1 = .ok e.2)) = true := by decide +kernel
abbrev cl_224_1 : List (Nat × jm_O) := [(44, op_iload 1 1), (45, op_iload 2 1), (46, op_iload 3 1), (47, op_iload 4 2), (49, op_callV 11 223 5), (52, op_goto 57), (55, op_ic (-3) 2), (57, op_iret)]
set_option maxRecDepth 100000 in
theorem gl_224_1 : jm_gl "FrescoWallModel" prog_14_method_56_code 5 (Option.some Jvm.ClassFile.FieldType.int) false cl_224_1 :=
  jm_gc (pu_iload _ _) (sn_iload_n (i := 1) (jm_dc dc_224_1 0 rfl)) (
  jm_gc (pu_iload _ _) (sn_iload_n (i := 2) (jm_dc dc_224_1 1 rfl)) (
  jm_gc (pu_iload _ _) (sn_iload_n (i := 3) (jm_dc dc_224_1 2 rfl)) (
  jm_gc (pu_iload _ _) (sn_iload (jm_dc dc_224_1 3 rfl)) (
  jm_gc (pu_callV _ _ _) (sn_callV (jm_dc dc_224_1 4 rfl) lk_11_381) (
  jm_gc (pu_goto _) (sn_goto (jm_dc dc_224_1 5 rfl) (by decide)) (
  jm_gc (pu_ic _ _) (sn_bipush (jm_dc dc_224_1 6 rfl) (by decide)) (
  jm_gc (pu_iret) (sn_iret (jm_dc dc_224_1 7 rfl) rfl) (
  jm_gn))))))))
theorem dc_225_0 : ([(0, .aload_n 0, 1), (1, .iload_n 1, 1), (2, .putfield 384, 3), (5, .aload_n 0, 1), (6, .iload_n 2, 1), (7, .putfield 387, 3), (10, .aload_n 0, 1), (11, .iload_n 3, 1), (12, .putfield 390, 3), (15, .return_, 1)] : List (Nat × Instr × Nat)).all (fun e => decide (decode prog_14_method_57_code e.1 = .ok e.2)) = true := by decide +kernel
abbrev cl_225_0 : List (Nat × jm_O) := [(0, op_aload 0 1), (1, op_iload 1 1), (2, op_putI 11 49), (5, op_aload 0 1), (6, op_iload 2 1), (7, op_putI 11 50), (10, op_aload 0 1), (11, op_iload 3 1), (12, op_putI 11 51), (15, op_vret)]
set_option maxRecDepth 100000 in
theorem gl_225_0 : jm_gl "FrescoWallModel" prog_14_method_57_code 4 (Option.none : Option Jvm.ClassFile.FieldType) false cl_225_0 :=
  jm_gc (pu_aload _ _) (sn_aload_n (i := 0) (jm_dc dc_225_0 0 rfl)) (
  jm_gc (pu_iload _ _) (sn_iload_n (i := 1) (jm_dc dc_225_0 1 rfl)) (
  jm_gc (pu_putI _ _) (sn_putI (jm_dc dc_225_0 2 rfl) flw_11_384 rfl) (
  jm_gc (pu_aload _ _) (sn_aload_n (i := 0) (jm_dc dc_225_0 3 rfl)) (
  jm_gc (pu_iload _ _) (sn_iload_n (i := 2) (jm_dc dc_225_0 4 rfl)) (
  jm_gc (pu_putI _ _) (sn_putI (jm_dc dc_225_0 5 rfl) flw_11_387 rfl) (
  jm_gc (pu_aload _ _) (sn_aload_n (i := 0) (jm_dc dc_225_0 6 rfl)) (
  jm_gc (pu_iload _ _) (sn_iload_n (i := 3) (jm_dc dc_225_0 7 rfl)) (
  jm_gc (pu_putI _ _) (sn_putI (jm_dc dc_225_0 8 rfl) flw_11_390 rfl) (
  jm_gc (pu_vret) (sn_vret (jm_dc dc_225_0 9 rfl) rfl) (
  jm_gn))))))))))
theorem dc_226_0 : ([(0, .aload_n 0, 1), (1, .getfield 387, 3), (4, .aload_n 0, 1), (5, .getfield 384, 3), (8, .iload_n 2, 1), (9, .iload_n 3, 1), (10, .invokestatic 338, 3), (13, .iadd, 1), (14, .istore 4, 2), (16, .aload_n 0, 1), (17, .getfield 390, 3), (20, .aload_n 0, 1), (21, .getfield 384, 3), (24, .iload_n 2, 1), (25, .iload_n 3, 1), (26, .invokestatic 341, 3), (29, .iadd, 1), (30, .istore 5, 2), (32, .aload_n 0, 1), (33, .aload_n 0, 1), (34, .getfield 384, 3), (37, .iload_n 1, 1), (38, .iadd, 1), (39, .iconst 4, 1), (40, .irem, 1)] : List (Nat × Instr × Nat)).all (fun e => decide (decode prog_14_method_58_code e.1 = .ok e.2)) = true := by decide +kernel
abbrev cl_226_0 : List (Nat × jm_O) := [(0, op_aload 0 1), (1, op_getI 11 50), (4, op_aload 0 1), (5, op_getI 11 49), (8, op_iload 2 1), (9, op_iload 3 1), (10, op_callS 203 3), (13, op_ibin (fun x y => x + y)), (14, op_istore 4 2), (16, op_aload 0 1), (17, op_getI 11 51), (20, op_aload 0 1), (21, op_getI 11 49), (24, op_iload 2 1), (25, op_iload 3 1), (26, op_callS 204 3), (29, op_ibin (fun x y => x + y)), (30, op_istore 5 2), (32, op_aload 0 1), (33, op_aload 0 1), (34, op_getI 11 49), (37, op_iload 1 1), (38, op_ibin (fun x y => x + y)), (39, op_ic 4 1), (40, op_idz (fun x y => x - x / y * y))]
set_option maxRecDepth 100000 in
theorem gl_226_0 : jm_gl "FrescoWallModel" prog_14_method_58_code 6 (Option.none : Option Jvm.ClassFile.FieldType) false cl_226_0 :=
  jm_gc (pu_aload _ _) (sn_aload_n (i := 0) (jm_dc dc_226_0 0 rfl)) (
  jm_gc (pu_getI _ _) (sn_getI (jm_dc dc_226_0 1 rfl) fl_11_387 (Or.inl rfl)) (
  jm_gc (pu_aload _ _) (sn_aload_n (i := 0) (jm_dc dc_226_0 2 rfl)) (
  jm_gc (pu_getI _ _) (sn_getI (jm_dc dc_226_0 3 rfl) fl_11_384 (Or.inl rfl)) (
  jm_gc (pu_iload _ _) (sn_iload_n (i := 2) (jm_dc dc_226_0 4 rfl)) (
  jm_gc (pu_iload _ _) (sn_iload_n (i := 3) (jm_dc dc_226_0 5 rfl)) (
  jm_gc (pu_callS _ _) (sn_callS (jm_dc dc_226_0 6 rfl) lk_11_338) (
  jm_gc (pu_ibin _) (sn_iadd (jm_dc dc_226_0 7 rfl)) (
  jm_gc (pu_istore _ _) (sn_istore (jm_dc dc_226_0 8 rfl)) (
  jm_gc (pu_aload _ _) (sn_aload_n (i := 0) (jm_dc dc_226_0 9 rfl)) (
  jm_gc (pu_getI _ _) (sn_getI (jm_dc dc_226_0 10 rfl) fl_11_390 (Or.inl rfl)) (
  jm_gc (pu_aload _ _) (sn_aload_n (i := 0) (jm_dc dc_226_0 11 rfl)) (
  jm_gc (pu_getI _ _) (sn_getI (jm_dc dc_226_0 12 rfl) fl_11_384 (Or.inl rfl)) (
  jm_gc (pu_iload _ _) (sn_iload_n (i := 2) (jm_dc dc_226_0 13 rfl)) (
  jm_gc (pu_iload _ _) (sn_iload_n (i := 3) (jm_dc dc_226_0 14 rfl)) (
  jm_gc (pu_callS _ _) (sn_callS (jm_dc dc_226_0 15 rfl) lk_11_341) (
  jm_gc (pu_ibin _) (sn_iadd (jm_dc dc_226_0 16 rfl)) (
  jm_gc (pu_istore _ _) (sn_istore (jm_dc dc_226_0 17 rfl)) (
  jm_gc (pu_aload _ _) (sn_aload_n (i := 0) (jm_dc dc_226_0 18 rfl)) (
  jm_gc (pu_aload _ _) (sn_aload_n (i := 0) (jm_dc dc_226_0 19 rfl)) (
  jm_gc (pu_getI _ _) (sn_getI (jm_dc dc_226_0 20 rfl) fl_11_384 (Or.inl rfl)) (
  jm_gc (pu_iload _ _) (sn_iload_n (i := 1) (jm_dc dc_226_0 21 rfl)) (
  jm_gc (pu_ibin _) (sn_iadd (jm_dc dc_226_0 22 rfl)) (
  jm_gc (pu_ic _ _) (sn_iconst (jm_dc dc_226_0 23 rfl) (by decide)) (
  jm_gc (pu_idz _) (sn_irem (jm_dc dc_226_0 24 rfl)) (
  jm_gn)))))))))))))))))))))))))
theorem dc_226_1 : ([(41, .iload 4, 2), (43, .iload 5, 2), (45, .invokevirtual 393, 3), (48, .return_, 1)] : List (Nat × Instr × Nat)).all (fun e => decide (decode prog_14_method_58_code e.1 = .ok e.2)) = true := by decide +kernel
abbrev cl_226_1 : List (Nat × jm_O) := [(41, op_iload 4 2), (43, op_iload 5 2), (45, op_callV 11 225 4), (48, op_vret)]
set_option maxRecDepth 100000 in
theorem gl_226_1 : jm_gl "FrescoWallModel" prog_14_method_58_code 6 (Option.none : Option Jvm.ClassFile.FieldType) false cl_226_1 :=
  jm_gc (pu_iload _ _) (sn_iload (jm_dc dc_226_1 0 rfl)) (
  jm_gc (pu_iload _ _) (sn_iload (jm_dc dc_226_1 1 rfl)) (
  jm_gc (pu_callV _ _ _) (sn_callV (jm_dc dc_226_1 2 rfl) lk_11_393) (
  jm_gc (pu_vret) (sn_vret (jm_dc dc_226_1 3 rfl) rfl) (
  jm_gn))))
theorem dc_227_0 : ([(0, .iconst 4, 1), (1, .iload_n 1, 1), (2, .isub, 1), (3, .iconst 4, 1), (4, .irem, 1), (5, .istore 4, 2), (7, .aload_n 0, 1), (8, .iload 4, 2), (10, .iload 4, 2), (12, .iload_n 2, 1), (13, .iload_n 3, 1), (14, .invokestatic 338, 3), (17, .ineg, 1), (18, .iload 4, 2), (20, .iload_n 2, 1), (21, .iload_n 3, 1), (22, .invokestatic 341, 3), (25, .ineg, 1), (26, .invokevirtual 397, 3), (29, .return_, 1)] : List (Nat × Instr × Nat)).all (fun e => decide (decode prog_14_method_59_code e.1 = .ok e.2)) = true := by decide +kernel
abbrev cl_227_0 : List (Nat × jm_O) := [(0, op_ic 4 1), (1, op_iload 1 1), (2, op_ibin (fun x y => x - y)), (3, op_ic 4 1), (4, op_idz (fun x y => x - x / y * y)), (5, op_istore 4 2), (7, op_aload 0 1), (8, op_iload 4 2), (10, op_iload 4 2), (12, op_iload 2 1), (13, op_iload 3 1), (14, op_callS 203 3), (17, op_iun (fun x => -x)), (18, op_iload 4 2), (20, op_iload 2 1), (21, op_iload 3 1), (22, op_callS 204 3), (25, op_iun (fun x => -x)), (26, op_callV 11 226 4), (29, op_vret)]
set_option maxRecDepth 100000 in
theorem gl_227_0 : jm_gl "FrescoWallModel" prog_14_method_59_code 5 (Option.none : Option Jvm.ClassFile.FieldType) false cl_227_0 :=
  jm_gc (pu_ic _ _) (sn_iconst (jm_dc dc_227_0 0 rfl) (by decide)) (
  jm_gc (pu_iload _ _) (sn_iload_n (i := 1) (jm_dc dc_227_0 1 rfl)) (
  jm_gc (pu_ibin _) (sn_isub (jm_dc dc_227_0 2 rfl)) (
  jm_gc (pu_ic _ _) (sn_iconst (jm_dc dc_227_0 3 rfl) (by decide)) (
  jm_gc (pu_idz _) (sn_irem (jm_dc dc_227_0 4 rfl)) (
  jm_gc (pu_istore _ _) (sn_istore (jm_dc dc_227_0 5 rfl)) (
  jm_gc (pu_aload _ _) (sn_aload_n (i := 0) (jm_dc dc_227_0 6 rfl)) (
  jm_gc (pu_iload _ _) (sn_iload (jm_dc dc_227_0 7 rfl)) (
  jm_gc (pu_iload _ _) (sn_iload (jm_dc dc_227_0 8 rfl)) (
  jm_gc (pu_iload _ _) (sn_iload_n (i := 2) (jm_dc dc_227_0 9 rfl)) (
  jm_gc (pu_iload _ _) (sn_iload_n (i := 3) (jm_dc dc_227_0 10 rfl)) (
  jm_gc (pu_callS _ _) (sn_callS (jm_dc dc_227_0 11 rfl) lk_11_338) (
  jm_gc (pu_iun _) (sn_ineg (jm_dc dc_227_0 12 rfl)) (
  jm_gc (pu_iload _ _) (sn_iload (jm_dc dc_227_0 13 rfl)) (
  jm_gc (pu_iload _ _) (sn_iload_n (i := 2) (jm_dc dc_227_0 14 rfl)) (
  jm_gc (pu_iload _ _) (sn_iload_n (i := 3) (jm_dc dc_227_0 15 rfl)) (
  jm_gc (pu_callS _ _) (sn_callS (jm_dc dc_227_0 16 rfl) lk_11_341) (
  jm_gc (pu_iun _) (sn_ineg (jm_dc dc_227_0 17 rfl)) (
  jm_gc (pu_callV _ _ _) (sn_callV (jm_dc dc_227_0 18 rfl) lk_11_397) (
  jm_gc (pu_vret) (sn_vret (jm_dc dc_227_0 19 rfl) rfl) (
  jm_gn))))))))))))))))))))
theorem dc_228_0 : ([(0, .aload_n 0, 1), (1, .getfield 384, 3), (4, .iload_n 1, 1), (5, .if_icmp .ne 23, 3), (8, .aload_n 0, 1), (9, .getfield 387, 3), (12, .iload_n 2, 1), (13, .if_icmp .ne 15, 3), (16, .aload_n 0, 1), (17, .getfield 390, 3), (20, .iload_n 3, 1), (21, .if_icmp .ne 7, 3), (24, .iconst 1, 1), (25, .goto 4, 3), (28, .iconst 0, 1), (29, .ireturn, 1)] : List (Nat × Instr × Nat)).all (fun e => decide (decode prog_14_method_60_code e.1 = .ok e.2)) = true := by decide +kernel
abbrev cl_228_0 : List (Nat × jm_O) := [(0, op_aload 0 1), (1, op_getI 11 49), (4, op_iload 1 1), (5, op_cne 28), (8, op_aload 0 1), (9, op_getI 11 50), (12, op_iload 2 1), (13, op_cne 28), (16, op_aload 0 1), (17, op_getI 11 51), (20, op_iload 3 1), (21, op_cne 28), (24, op_ic 1 1), (25, op_goto 29), (28, op_ic 0 1), (29, op_zret)]
set_option maxRecDepth 100000 in
theorem gl_228_0 : jm_gl "FrescoWallModel" prog_14_method_60_code 4 (Option.some Jvm.ClassFile.FieldType.boolean) false cl_228_0 :=
  jm_gc (pu_aload _ _) (sn_aload_n (i := 0) (jm_dc dc_228_0 0 rfl)) (
  jm_gc (pu_getI _ _) (sn_getI (jm_dc dc_228_0 1 rfl) fl_11_384 (Or.inl rfl)) (
  jm_gc (pu_iload _ _) (sn_iload_n (i := 1) (jm_dc dc_228_0 2 rfl)) (
  jm_gc (pu_cne _) (sn_cne (jm_dc dc_228_0 3 rfl) (by decide)) (
  jm_gc (pu_aload _ _) (sn_aload_n (i := 0) (jm_dc dc_228_0 4 rfl)) (
  jm_gc (pu_getI _ _) (sn_getI (jm_dc dc_228_0 5 rfl) fl_11_387 (Or.inl rfl)) (
  jm_gc (pu_iload _ _) (sn_iload_n (i := 2) (jm_dc dc_228_0 6 rfl)) (
  jm_gc (pu_cne _) (sn_cne (jm_dc dc_228_0 7 rfl) (by decide)) (
  jm_gc (pu_aload _ _) (sn_aload_n (i := 0) (jm_dc dc_228_0 8 rfl)) (
  jm_gc (pu_getI _ _) (sn_getI (jm_dc dc_228_0 9 rfl) fl_11_390 (Or.inl rfl)) (
  jm_gc (pu_iload _ _) (sn_iload_n (i := 3) (jm_dc dc_228_0 10 rfl)) (
  jm_gc (pu_cne _) (sn_cne (jm_dc dc_228_0 11 rfl) (by decide)) (
  jm_gc (pu_ic _ _) (sn_iconst (jm_dc dc_228_0 12 rfl) (by decide)) (
  jm_gc (pu_goto _) (sn_goto (jm_dc dc_228_0 13 rfl) (by decide)) (
  jm_gc (pu_ic _ _) (sn_iconst (jm_dc dc_228_0 14 rfl) (by decide)) (
  jm_gc (pu_zret) (sn_zret (jm_dc dc_228_0 15 rfl) rfl) (
  jm_gn))))))))))))))))
theorem dc_229_0 : ([(0, .aload_n 0, 1), (1, .aload_n 0, 1), (2, .getfield 67, 3), (5, .aload_n 0, 1), (6, .aload_n 0, 1), (7, .getfield 73, 3), (10, .iload_n 1, 1), (11, .iaload, 1), (12, .aload_n 0, 1), (13, .getfield 76, 3), (16, .iload_n 1, 1), (17, .iaload, 1), (18, .aload_n 0, 1), (19, .getfield 79, 3), (22, .iload_n 1, 1), (23, .iaload, 1), (24, .aload_n 0, 1), (25, .getfield 82, 3), (28, .iload_n 1, 1), (29, .iaload, 1), (30, .invokevirtual 363, 3), (33, .iaload, 1), (34, .aload_n 0, 1), (35, .aload_n 0, 1), (36, .getfield 73, 3)] : List (Nat × Instr × Nat)).all (fun e => decide (decode prog_14_method_61_code e.1 = .ok e.2)) = true := by decide +kernel
abbrev cl_229_0 : List (Nat × jm_O) := [(0, op_aload 0 1), (1, op_aload 0 1), (2, op_getA 11 22), (5, op_aload 0 1), (6, op_aload 0 1), (7, op_getA 11 25), (10, op_iload 1 1), (11, op_iald 13), (12, op_aload 0 1), (13, op_getA 11 26), (16, op_iload 1 1), (17, op_iald 13), (18, op_aload 0 1), (19, op_getA 11 27), (22, op_iload 1 1), (23, op_iald 13), (24, op_aload 0 1), (25, op_getA 11 28), (28, op_iload 1 1), (29, op_iald 13), (30, op_callV 11 211 5), (33, op_iald 13), (34, op_aload 0 1), (35, op_aload 0 1), (36, op_getA 11 25)]
set_option maxRecDepth 100000 in
theorem gl_229_0 : jm_gl "FrescoWallModel" prog_14_method_61_code 2 (Option.none : Option Jvm.ClassFile.FieldType) false cl_229_0 :=
  jm_gc (pu_aload _ _) (sn_aload_n (i := 0) (jm_dc dc_229_0 0 rfl)) (
  jm_gc (pu_aload _ _) (sn_aload_n (i := 0) (jm_dc dc_229_0 1 rfl)) (
  jm_gc (pu_getA _ _) (sn_getA (jm_dc dc_229_0 2 rfl) fl_11_67 rfl) (
  jm_gc (pu_aload _ _) (sn_aload_n (i := 0) (jm_dc dc_229_0 3 rfl)) (
  jm_gc (pu_aload _ _) (sn_aload_n (i := 0) (jm_dc dc_229_0 4 rfl)) (
  jm_gc (pu_getA _ _) (sn_getA (jm_dc dc_229_0 5 rfl) fl_11_73 rfl) (
  jm_gc (pu_iload _ _) (sn_iload_n (i := 1) (jm_dc dc_229_0 6 rfl)) (
  jm_gc (pu_iald _) (sn_iald (jm_dc dc_229_0 7 rfl)) (
  jm_gc (pu_aload _ _) (sn_aload_n (i := 0) (jm_dc dc_229_0 8 rfl)) (
  jm_gc (pu_getA _ _) (sn_getA (jm_dc dc_229_0 9 rfl) fl_11_76 rfl) (
  jm_gc (pu_iload _ _) (sn_iload_n (i := 1) (jm_dc dc_229_0 10 rfl)) (
  jm_gc (pu_iald _) (sn_iald (jm_dc dc_229_0 11 rfl)) (
  jm_gc (pu_aload _ _) (sn_aload_n (i := 0) (jm_dc dc_229_0 12 rfl)) (
  jm_gc (pu_getA _ _) (sn_getA (jm_dc dc_229_0 13 rfl) fl_11_79 rfl) (
  jm_gc (pu_iload _ _) (sn_iload_n (i := 1) (jm_dc dc_229_0 14 rfl)) (
  jm_gc (pu_iald _) (sn_iald (jm_dc dc_229_0 15 rfl)) (
  jm_gc (pu_aload _ _) (sn_aload_n (i := 0) (jm_dc dc_229_0 16 rfl)) (
  jm_gc (pu_getA _ _) (sn_getA (jm_dc dc_229_0 17 rfl) fl_11_82 rfl) (
  jm_gc (pu_iload _ _) (sn_iload_n (i := 1) (jm_dc dc_229_0 18 rfl)) (
  jm_gc (pu_iald _) (sn_iald (jm_dc dc_229_0 19 rfl)) (
  jm_gc (pu_callV _ _ _) (sn_callV (jm_dc dc_229_0 20 rfl) lk_11_363) (
  jm_gc (pu_iald _) (sn_iald (jm_dc dc_229_0 21 rfl)) (
  jm_gc (pu_aload _ _) (sn_aload_n (i := 0) (jm_dc dc_229_0 22 rfl)) (
  jm_gc (pu_aload _ _) (sn_aload_n (i := 0) (jm_dc dc_229_0 23 rfl)) (
  jm_gc (pu_getA _ _) (sn_getA (jm_dc dc_229_0 24 rfl) fl_11_73 rfl) (
  jm_gn)))))))))))))))))))))))))
theorem dc_229_1 : ([(39, .iload_n 1, 1), (40, .iaload, 1), (41, .aload_n 0, 1), (42, .getfield 76, 3), (45, .iload_n 1, 1), (46, .iaload, 1), (47, .aload_n 0, 1), (48, .getfield 79, 3), (51, .iload_n 1, 1), (52, .iaload, 1), (53, .aload_n 0, 1), (54, .getfield 82, 3), (57, .iload_n 1, 1), (58, .iaload, 1), (59, .invokevirtual 357, 3), (62, .aload_n 0, 1), (63, .aload_n 0, 1), (64, .getfield 73, 3), (67, .iload_n 1, 1), (68, .iaload, 1), (69, .aload_n 0, 1), (70, .getfield 76, 3), (73, .iload_n 1, 1), (74, .iaload, 1), (75, .aload_n 0, 1)] : List (Nat × Instr × Nat)).all (fun e => decide (decode prog_14_method_61_code e.1 = .ok e.2)) = true := by decide +kernel
abbrev cl_229_1 : List (Nat × jm_O) := [(39, op_iload 1 1), (40, op_iald 13), (41, op_aload 0 1), (42, op_getA 11 26), (45, op_iload 1 1), (46, op_iald 13), (47, op_aload 0 1), (48, op_getA 11 27), (51, op_iload 1 1), (52, op_iald 13), (53, op_aload 0 1), (54, op_getA 11 28), (57, op_iload 1 1), (58, op_iald 13), (59, op_callV 11 212 5), (62, op_aload 0 1), (63, op_aload 0 1), (64, op_getA 11 25), (67, op_iload 1 1), (68, op_iald 13), (69, op_aload 0 1), (70, op_getA 11 26), (73, op_iload 1 1), (74, op_iald 13), (75, op_aload 0 1)]
set_option maxRecDepth 100000 in
theorem gl_229_1 : jm_gl "FrescoWallModel" prog_14_method_61_code 2 (Option.none : Option Jvm.ClassFile.FieldType) false cl_229_1 :=
  jm_gc (pu_iload _ _) (sn_iload_n (i := 1) (jm_dc dc_229_1 0 rfl)) (
  jm_gc (pu_iald _) (sn_iald (jm_dc dc_229_1 1 rfl)) (
  jm_gc (pu_aload _ _) (sn_aload_n (i := 0) (jm_dc dc_229_1 2 rfl)) (
  jm_gc (pu_getA _ _) (sn_getA (jm_dc dc_229_1 3 rfl) fl_11_76 rfl) (
  jm_gc (pu_iload _ _) (sn_iload_n (i := 1) (jm_dc dc_229_1 4 rfl)) (
  jm_gc (pu_iald _) (sn_iald (jm_dc dc_229_1 5 rfl)) (
  jm_gc (pu_aload _ _) (sn_aload_n (i := 0) (jm_dc dc_229_1 6 rfl)) (
  jm_gc (pu_getA _ _) (sn_getA (jm_dc dc_229_1 7 rfl) fl_11_79 rfl) (
  jm_gc (pu_iload _ _) (sn_iload_n (i := 1) (jm_dc dc_229_1 8 rfl)) (
  jm_gc (pu_iald _) (sn_iald (jm_dc dc_229_1 9 rfl)) (
  jm_gc (pu_aload _ _) (sn_aload_n (i := 0) (jm_dc dc_229_1 10 rfl)) (
  jm_gc (pu_getA _ _) (sn_getA (jm_dc dc_229_1 11 rfl) fl_11_82 rfl) (
  jm_gc (pu_iload _ _) (sn_iload_n (i := 1) (jm_dc dc_229_1 12 rfl)) (
  jm_gc (pu_iald _) (sn_iald (jm_dc dc_229_1 13 rfl)) (
  jm_gc (pu_callV _ _ _) (sn_callV (jm_dc dc_229_1 14 rfl) lk_11_357) (
  jm_gc (pu_aload _ _) (sn_aload_n (i := 0) (jm_dc dc_229_1 15 rfl)) (
  jm_gc (pu_aload _ _) (sn_aload_n (i := 0) (jm_dc dc_229_1 16 rfl)) (
  jm_gc (pu_getA _ _) (sn_getA (jm_dc dc_229_1 17 rfl) fl_11_73 rfl) (
  jm_gc (pu_iload _ _) (sn_iload_n (i := 1) (jm_dc dc_229_1 18 rfl)) (
  jm_gc (pu_iald _) (sn_iald (jm_dc dc_229_1 19 rfl)) (
  jm_gc (pu_aload _ _) (sn_aload_n (i := 0) (jm_dc dc_229_1 20 rfl)) (
  jm_gc (pu_getA _ _) (sn_getA (jm_dc dc_229_1 21 rfl) fl_11_76 rfl) (
  jm_gc (pu_iload _ _) (sn_iload_n (i := 1) (jm_dc dc_229_1 22 rfl)) (
  jm_gc (pu_iald _) (sn_iald (jm_dc dc_229_1 23 rfl)) (
  jm_gc (pu_aload _ _) (sn_aload_n (i := 0) (jm_dc dc_229_1 24 rfl)) (
  jm_gn)))))))))))))))))))))))))
theorem dc_229_2 : ([(76, .getfield 79, 3), (79, .iload_n 1, 1), (80, .iaload, 1), (81, .aload_n 0, 1), (82, .getfield 82, 3), (85, .iload_n 1, 1), (86, .iaload, 1), (87, .invokevirtual 360, 3), (90, .invokevirtual 397, 3), (93, .return_, 1)] : List (Nat × Instr × Nat)).all (fun e => decide (decode prog_14_method_61_code e.1 = .ok e.2)) = true := by decide +kernel
abbrev cl_229_2 : List (Nat × jm_O) := [(76, op_getA 11 27), (79, op_iload 1 1), (80, op_iald 13), (81, op_aload 0 1), (82, op_getA 11 28), (85, op_iload 1 1), (86, op_iald 13), (87, op_callV 11 213 5), (90, op_callV 11 226 4), (93, op_vret)]
set_option maxRecDepth 100000 in
theorem gl_229_2 : jm_gl "FrescoWallModel" prog_14_method_61_code 2 (Option.none : Option Jvm.ClassFile.FieldType) false cl_229_2 :=
  jm_gc (pu_getA _ _) (sn_getA (jm_dc dc_229_2 0 rfl) fl_11_79 rfl) (
  jm_gc (pu_iload _ _) (sn_iload_n (i := 1) (jm_dc dc_229_2 1 rfl)) (
  jm_gc (pu_iald _) (sn_iald (jm_dc dc_229_2 2 rfl)) (
  jm_gc (pu_aload _ _) (sn_aload_n (i := 0) (jm_dc dc_229_2 3 rfl)) (
  jm_gc (pu_getA _ _) (sn_getA (jm_dc dc_229_2 4 rfl) fl_11_82 rfl) (
  jm_gc (pu_iload _ _) (sn_iload_n (i := 1) (jm_dc dc_229_2 5 rfl)) (
  jm_gc (pu_iald _) (sn_iald (jm_dc dc_229_2 6 rfl)) (
  jm_gc (pu_callV _ _ _) (sn_callV (jm_dc dc_229_2 7 rfl) lk_11_360) (
  jm_gc (pu_callV _ _ _) (sn_callV (jm_dc dc_229_2 8 rfl) lk_11_397) (
  jm_gc (pu_vret) (sn_vret (jm_dc dc_229_2 9 rfl) rfl) (
  jm_gn))))))))))
theorem dc_230_0 : ([(0, .aload_n 0, 1), (1, .aload_n 0, 1), (2, .getfield 67, 3), (5, .aload_n 0, 1), (6, .aload_n 0, 1), (7, .getfield 73, 3), (10, .iload_n 1, 1), (11, .iaload, 1), (12, .aload_n 0, 1), (13, .getfield 76, 3), (16, .iload_n 1, 1), (17, .iaload, 1), (18, .aload_n 0, 1), (19, .getfield 79, 3), (22, .iload_n 1, 1), (23, .iaload, 1), (24, .aload_n 0, 1), (25, .getfield 82, 3), (28, .iload_n 1, 1), (29, .iaload, 1), (30, .invokevirtual 363, 3), (33, .iaload, 1), (34, .aload_n 0, 1), (35, .aload_n 0, 1), (36, .getfield 73, 3)] : List (Nat × Instr × Nat)).all (fun e => decide (decode prog_14_method_62_code e.1 = .ok e.2)) = true := by decide +kernel
abbrev cl_230_0 : List (Nat × jm_O) := [(0, op_aload 0 1), (1, op_aload 0 1), (2, op_getA 11 22), (5, op_aload 0 1), (6, op_aload 0 1), (7, op_getA 11 25), (10, op_iload 1 1), (11, op_iald 13), (12, op_aload 0 1), (13, op_getA 11 26), (16, op_iload 1 1), (17, op_iald 13), (18, op_aload 0 1), (19, op_getA 11 27), (22, op_iload 1 1), (23, op_iald 13), (24, op_aload 0 1), (25, op_getA 11 28), (28, op_iload 1 1), (29, op_iald 13), (30, op_callV 11 211 5), (33, op_iald 13), (34, op_aload 0 1), (35, op_aload 0 1), (36, op_getA 11 25)]
set_option maxRecDepth 100000 in
theorem gl_230_0 : jm_gl "FrescoWallModel" prog_14_method_62_code 2 (Option.none : Option Jvm.ClassFile.FieldType) false cl_230_0 :=
  jm_gc (pu_aload _ _) (sn_aload_n (i := 0) (jm_dc dc_230_0 0 rfl)) (
  jm_gc (pu_aload _ _) (sn_aload_n (i := 0) (jm_dc dc_230_0 1 rfl)) (
  jm_gc (pu_getA _ _) (sn_getA (jm_dc dc_230_0 2 rfl) fl_11_67 rfl) (
  jm_gc (pu_aload _ _) (sn_aload_n (i := 0) (jm_dc dc_230_0 3 rfl)) (
  jm_gc (pu_aload _ _) (sn_aload_n (i := 0) (jm_dc dc_230_0 4 rfl)) (
  jm_gc (pu_getA _ _) (sn_getA (jm_dc dc_230_0 5 rfl) fl_11_73 rfl) (
  jm_gc (pu_iload _ _) (sn_iload_n (i := 1) (jm_dc dc_230_0 6 rfl)) (
  jm_gc (pu_iald _) (sn_iald (jm_dc dc_230_0 7 rfl)) (
  jm_gc (pu_aload _ _) (sn_aload_n (i := 0) (jm_dc dc_230_0 8 rfl)) (
  jm_gc (pu_getA _ _) (sn_getA (jm_dc dc_230_0 9 rfl) fl_11_76 rfl) (
  jm_gc (pu_iload _ _) (sn_iload_n (i := 1) (jm_dc dc_230_0 10 rfl)) (
  jm_gc (pu_iald _) (sn_iald (jm_dc dc_230_0 11 rfl)) (
  jm_gc (pu_aload _ _) (sn_aload_n (i := 0) (jm_dc dc_230_0 12 rfl)) (
  jm_gc (pu_getA _ _) (sn_getA (jm_dc dc_230_0 13 rfl) fl_11_79 rfl) (
  jm_gc (pu_iload _ _) (sn_iload_n (i := 1) (jm_dc dc_230_0 14 rfl)) (
  jm_gc (pu_iald _) (sn_iald (jm_dc dc_230_0 15 rfl)) (
  jm_gc (pu_aload _ _) (sn_aload_n (i := 0) (jm_dc dc_230_0 16 rfl)) (
  jm_gc (pu_getA _ _) (sn_getA (jm_dc dc_230_0 17 rfl) fl_11_82 rfl) (
  jm_gc (pu_iload _ _) (sn_iload_n (i := 1) (jm_dc dc_230_0 18 rfl)) (
  jm_gc (pu_iald _) (sn_iald (jm_dc dc_230_0 19 rfl)) (
  jm_gc (pu_callV _ _ _) (sn_callV (jm_dc dc_230_0 20 rfl) lk_11_363) (
  jm_gc (pu_iald _) (sn_iald (jm_dc dc_230_0 21 rfl)) (
  jm_gc (pu_aload _ _) (sn_aload_n (i := 0) (jm_dc dc_230_0 22 rfl)) (
  jm_gc (pu_aload _ _) (sn_aload_n (i := 0) (jm_dc dc_230_0 23 rfl)) (
  jm_gc (pu_getA _ _) (sn_getA (jm_dc dc_230_0 24 rfl) fl_11_73 rfl) (
  jm_gn)))))))))))))))))))))))))
theorem dc_230_1 : ([(39, .iload_n 1, 1), (40, .iaload, 1), (41, .aload_n 0, 1), (42, .getfield 76, 3), (45, .iload_n 1, 1), (46, .iaload, 1), (47, .aload_n 0, 1), (48, .getfield 79, 3), (51, .iload_n 1, 1), (52, .iaload, 1), (53, .aload_n 0, 1), (54, .getfield 82, 3), (57, .iload_n 1, 1), (58, .iaload, 1), (59, .invokevirtual 357, 3), (62, .aload_n 0, 1), (63, .aload_n 0, 1), (64, .getfield 73, 3), (67, .iload_n 1, 1), (68, .iaload, 1), (69, .aload_n 0, 1), (70, .getfield 76, 3), (73, .iload_n 1, 1), (74, .iaload, 1), (75, .aload_n 0, 1)] : List (Nat × Instr × Nat)).all (fun e => decide (decode prog_14_method_62_code e.1 = .ok e.2)) = true := by decide +kernel
abbrev cl_230_1 : List (Nat × jm_O) := [(39, op_iload 1 1), (40, op_iald 13), (41, op_aload 0 1), (42, op_getA 11 26), (45, op_iload 1 1), (46, op_iald 13), (47, op_aload 0 1), (48, op_getA 11 27), (51, op_iload 1 1), (52, op_iald 13), (53, op_aload 0 1), (54, op_getA 11 28), (57, op_iload 1 1), (58, op_iald 13), (59, op_callV 11 212 5), (62, op_aload 0 1), (63, op_aload 0 1), (64, op_getA 11 25), (67, op_iload 1 1), (68, op_iald 13), (69, op_aload 0 1), (70, op_getA 11 26), (73, op_iload 1 1), (74, op_iald 13), (75, op_aload 0 1)]
set_option maxRecDepth 100000 in
theorem gl_230_1 : jm_gl "FrescoWallModel" prog_14_method_62_code 2 (Option.none : Option Jvm.ClassFile.FieldType) false cl_230_1 :=
  jm_gc (pu_iload _ _) (sn_iload_n (i := 1) (jm_dc dc_230_1 0 rfl)) (
  jm_gc (pu_iald _) (sn_iald (jm_dc dc_230_1 1 rfl)) (
  jm_gc (pu_aload _ _) (sn_aload_n (i := 0) (jm_dc dc_230_1 2 rfl)) (
  jm_gc (pu_getA _ _) (sn_getA (jm_dc dc_230_1 3 rfl) fl_11_76 rfl) (
  jm_gc (pu_iload _ _) (sn_iload_n (i := 1) (jm_dc dc_230_1 4 rfl)) (
  jm_gc (pu_iald _) (sn_iald (jm_dc dc_230_1 5 rfl)) (
  jm_gc (pu_aload _ _) (sn_aload_n (i := 0) (jm_dc dc_230_1 6 rfl)) (
  jm_gc (pu_getA _ _) (sn_getA (jm_dc dc_230_1 7 rfl) fl_11_79 rfl) (
  jm_gc (pu_iload _ _) (sn_iload_n (i := 1) (jm_dc dc_230_1 8 rfl)) (
  jm_gc (pu_iald _) (sn_iald (jm_dc dc_230_1 9 rfl)) (
  jm_gc (pu_aload _ _) (sn_aload_n (i := 0) (jm_dc dc_230_1 10 rfl)) (
  jm_gc (pu_getA _ _) (sn_getA (jm_dc dc_230_1 11 rfl) fl_11_82 rfl) (
  jm_gc (pu_iload _ _) (sn_iload_n (i := 1) (jm_dc dc_230_1 12 rfl)) (
  jm_gc (pu_iald _) (sn_iald (jm_dc dc_230_1 13 rfl)) (
  jm_gc (pu_callV _ _ _) (sn_callV (jm_dc dc_230_1 14 rfl) lk_11_357) (
  jm_gc (pu_aload _ _) (sn_aload_n (i := 0) (jm_dc dc_230_1 15 rfl)) (
  jm_gc (pu_aload _ _) (sn_aload_n (i := 0) (jm_dc dc_230_1 16 rfl)) (
  jm_gc (pu_getA _ _) (sn_getA (jm_dc dc_230_1 17 rfl) fl_11_73 rfl) (
  jm_gc (pu_iload _ _) (sn_iload_n (i := 1) (jm_dc dc_230_1 18 rfl)) (
  jm_gc (pu_iald _) (sn_iald (jm_dc dc_230_1 19 rfl)) (
  jm_gc (pu_aload _ _) (sn_aload_n (i := 0) (jm_dc dc_230_1 20 rfl)) (
  jm_gc (pu_getA _ _) (sn_getA (jm_dc dc_230_1 21 rfl) fl_11_76 rfl) (
  jm_gc (pu_iload _ _) (sn_iload_n (i := 1) (jm_dc dc_230_1 22 rfl)) (
  jm_gc (pu_iald _) (sn_iald (jm_dc dc_230_1 23 rfl)) (
  jm_gc (pu_aload _ _) (sn_aload_n (i := 0) (jm_dc dc_230_1 24 rfl)) (
  jm_gn)))))))))))))))))))))))))
theorem dc_230_2 : ([(76, .getfield 79, 3), (79, .iload_n 1, 1), (80, .iaload, 1), (81, .aload_n 0, 1), (82, .getfield 82, 3), (85, .iload_n 1, 1), (86, .iaload, 1), (87, .invokevirtual 360, 3), (90, .invokevirtual 400, 3), (93, .return_, 1)] : List (Nat × Instr × Nat)).all (fun e => decide (decode prog_14_method_62_code e.1 = .ok e.2)) = true := by decide +kernel
abbrev cl_230_2 : List (Nat × jm_O) := [(76, op_getA 11 27), (79, op_iload 1 1), (80, op_iald 13), (81, op_aload 0 1), (82, op_getA 11 28), (85, op_iload 1 1), (86, op_iald 13), (87, op_callV 11 213 5), (90, op_callV 11 227 4), (93, op_vret)]
set_option maxRecDepth 100000 in
theorem gl_230_2 : jm_gl "FrescoWallModel" prog_14_method_62_code 2 (Option.none : Option Jvm.ClassFile.FieldType) false cl_230_2 :=
  jm_gc (pu_getA _ _) (sn_getA (jm_dc dc_230_2 0 rfl) fl_11_79 rfl) (
  jm_gc (pu_iload _ _) (sn_iload_n (i := 1) (jm_dc dc_230_2 1 rfl)) (
  jm_gc (pu_iald _) (sn_iald (jm_dc dc_230_2 2 rfl)) (
  jm_gc (pu_aload _ _) (sn_aload_n (i := 0) (jm_dc dc_230_2 3 rfl)) (
  jm_gc (pu_getA _ _) (sn_getA (jm_dc dc_230_2 4 rfl) fl_11_82 rfl) (
  jm_gc (pu_iload _ _) (sn_iload_n (i := 1) (jm_dc dc_230_2 5 rfl)) (
  jm_gc (pu_iald _) (sn_iald (jm_dc dc_230_2 6 rfl)) (
  jm_gc (pu_callV _ _ _) (sn_callV (jm_dc dc_230_2 7 rfl) lk_11_360) (
  jm_gc (pu_callV _ _ _) (sn_callV (jm_dc dc_230_2 8 rfl) lk_11_400) (
  jm_gc (pu_vret) (sn_vret (jm_dc dc_230_2 9 rfl) rfl) (
  jm_gn))))))))))
theorem dc_231_0 : ([(0, .iconst 0, 1), (1, .istore_n 1, 1), (2, .iload_n 1, 1), (3, .aload_n 0, 1), (4, .getfield 215, 3), (7, .if_icmp .ge 16, 3), (10, .aload_n 0, 1), (11, .getfield 112, 3), (14, .iload_n 1, 1), (15, .iconst (-1), 1), (16, .iastore, 1), (17, .iinc 1 1, 3), (20, .goto (-18), 3), (23, .iconst 0, 1), (24, .istore_n 1, 1), (25, .iload_n 1, 1), (26, .aload_n 0, 1), (27, .getfield 215, 3), (30, .if_icmp .ge 93, 3), (33, .aload_n 0, 1), (34, .getfield 112, 3), (37, .iload_n 1, 1), (38, .iaload, 1), (39, .iconst (-1), 1), (40, .if_icmp .ne 77, 3)] : List (Nat × Instr × Nat)).all (fun e => decide (decode prog_14_method_63_code e.1 = .ok e.2)) = true := by decide +kernel
abbrev cl_231_0 : List (Nat × jm_O) := [(0, op_ic 0 1), (1, op_istore 1 1), (2, op_iload 1 1), (3, op_aload 0 1), (4, op_getI 11 3), (7, op_cge 23), (10, op_aload 0 1), (11, op_getA 11 45), (14, op_iload 1 1), (15, op_ic (-1) 1), (16, op_iast), (17, op_iinc 1 1), (20, op_goto 2), (23, op_ic 0 1), (24, op_istore 1 1), (25, op_iload 1 1), (26, op_aload 0 1), (27, op_getI 11 3), (30, op_cge 123), (33, op_aload 0 1), (34, op_getA 11 45), (37, op_iload 1 1), (38, op_iald 13), (39, op_ic (-1) 1), (40, op_cne 117)]
set_option maxRecDepth 100000 in
theorem gl_231_0 : jm_gl "FrescoWallModel" prog_14_method_63_code 4 (Option.none : Option Jvm.ClassFile.FieldType) false cl_231_0 :=
  jm_gc (pu_ic _ _) (sn_iconst (jm_dc dc_231_0 0 rfl) (by decide)) (
  jm_gc (pu_istore _ _) (sn_istore_n (i := 1) (jm_dc dc_231_0 1 rfl)) (
  jm_gc (pu_iload _ _) (sn_iload_n (i := 1) (jm_dc dc_231_0 2 rfl)) (
  jm_gc (pu_aload _ _) (sn_aload_n (i := 0) (jm_dc dc_231_0 3 rfl)) (
  jm_gc (pu_getI _ _) (sn_getI (jm_dc dc_231_0 4 rfl) fl_11_215 (Or.inl rfl)) (
  jm_gc (pu_cge _) (sn_cge (jm_dc dc_231_0 5 rfl) (by decide)) (
  jm_gc (pu_aload _ _) (sn_aload_n (i := 0) (jm_dc dc_231_0 6 rfl)) (
  jm_gc (pu_getA _ _) (sn_getA (jm_dc dc_231_0 7 rfl) fl_11_112 rfl) (
  jm_gc (pu_iload _ _) (sn_iload_n (i := 1) (jm_dc dc_231_0 8 rfl)) (
  jm_gc (pu_ic _ _) (sn_iconst (jm_dc dc_231_0 9 rfl) (by decide)) (
  jm_gc (pu_iast) (sn_iast (jm_dc dc_231_0 10 rfl)) (
  jm_gc (pu_iinc _ _) (sn_iinc (jm_dc dc_231_0 11 rfl) (by decide)) (
  jm_gc (pu_goto _) (sn_goto (jm_dc dc_231_0 12 rfl) (by decide)) (
  jm_gc (pu_ic _ _) (sn_iconst (jm_dc dc_231_0 13 rfl) (by decide)) (
  jm_gc (pu_istore _ _) (sn_istore_n (i := 1) (jm_dc dc_231_0 14 rfl)) (
  jm_gc (pu_iload _ _) (sn_iload_n (i := 1) (jm_dc dc_231_0 15 rfl)) (
  jm_gc (pu_aload _ _) (sn_aload_n (i := 0) (jm_dc dc_231_0 16 rfl)) (
  jm_gc (pu_getI _ _) (sn_getI (jm_dc dc_231_0 17 rfl) fl_11_215 (Or.inl rfl)) (
  jm_gc (pu_cge _) (sn_cge (jm_dc dc_231_0 18 rfl) (by decide)) (
  jm_gc (pu_aload _ _) (sn_aload_n (i := 0) (jm_dc dc_231_0 19 rfl)) (
  jm_gc (pu_getA _ _) (sn_getA (jm_dc dc_231_0 20 rfl) fl_11_112 rfl) (
  jm_gc (pu_iload _ _) (sn_iload_n (i := 1) (jm_dc dc_231_0 21 rfl)) (
  jm_gc (pu_iald _) (sn_iald (jm_dc dc_231_0 22 rfl)) (
  jm_gc (pu_ic _ _) (sn_iconst (jm_dc dc_231_0 23 rfl) (by decide)) (
  jm_gc (pu_cne _) (sn_cne (jm_dc dc_231_0 24 rfl) (by decide)) (
  jm_gn)))))))))))))))))))))))))
theorem dc_231_1 : ([(43, .aload_n 0, 1), (44, .getfield 112, 3), (47, .iload_n 1, 1), (48, .iload_n 1, 1), (49, .iastore, 1), (50, .aload_n 0, 1), (51, .getfield 115, 3), (54, .iload_n 1, 1), (55, .iconst 0, 1), (56, .iastore, 1), (57, .aload_n 0, 1), (58, .getfield 118, 3), (61, .iload_n 1, 1), (62, .iconst 0, 1), (63, .iastore, 1), (64, .aload_n 0, 1), (65, .getfield 121, 3), (68, .iload_n 1, 1), (69, .iconst 0, 1), (70, .iastore, 1), (71, .iconst 1, 1), (72, .istore_n 2, 1), (73, .iload_n 2, 1), (74, .ifCond .eq 43, 3), (77, .iconst 0, 1)] : List (Nat × Instr × Nat)).all (fun e => decide (decode prog_14_method_63_code e.1 = .ok e.2)) = true := by decide +kernel
abbrev cl_231_1 : List (Nat × jm_O) := [(43, op_aload 0 1), (44, op_getA 11 45), (47, op_iload 1 1), (48, op_iload 1 1), (49, op_iast), (50, op_aload 0 1), (51, op_getA 11 46), (54, op_iload 1 1), (55, op_ic 0 1), (56, op_iast), (57, op_aload 0 1), (58, op_getA 11 47), (61, op_iload 1 1), (62, op_ic 0 1), (63, op_iast), (64, op_aload 0 1), (65, op_getA 11 48), (68, op_iload 1 1), (69, op_ic 0 1), (70, op_iast), (71, op_ic 1 1), (72, op_istore 2 1), (73, op_iload 2 1), (74, op_ifeq 117), (77, op_ic 0 1)]
set_option maxRecDepth 100000 in
theorem gl_231_1 : jm_gl "FrescoWallModel" prog_14_method_63_code 4 (Option.none : Option Jvm.ClassFile.FieldType) false cl_231_1 :=
  jm_gc (pu_aload _ _) (sn_aload_n (i := 0) (jm_dc dc_231_1 0 rfl)) (
  jm_gc (pu_getA _ _) (sn_getA (jm_dc dc_231_1 1 rfl) fl_11_112 rfl) (
  jm_gc (pu_iload _ _) (sn_iload_n (i := 1) (jm_dc dc_231_1 2 rfl)) (
  jm_gc (pu_iload _ _) (sn_iload_n (i := 1) (jm_dc dc_231_1 3 rfl)) (
  jm_gc (pu_iast) (sn_iast (jm_dc dc_231_1 4 rfl)) (
  jm_gc (pu_aload _ _) (sn_aload_n (i := 0) (jm_dc dc_231_1 5 rfl)) (
  jm_gc (pu_getA _ _) (sn_getA (jm_dc dc_231_1 6 rfl) fl_11_115 rfl) (
  jm_gc (pu_iload _ _) (sn_iload_n (i := 1) (jm_dc dc_231_1 7 rfl)) (
  jm_gc (pu_ic _ _) (sn_iconst (jm_dc dc_231_1 8 rfl) (by decide)) (
  jm_gc (pu_iast) (sn_iast (jm_dc dc_231_1 9 rfl)) (
  jm_gc (pu_aload _ _) (sn_aload_n (i := 0) (jm_dc dc_231_1 10 rfl)) (
  jm_gc (pu_getA _ _) (sn_getA (jm_dc dc_231_1 11 rfl) fl_11_118 rfl) (
  jm_gc (pu_iload _ _) (sn_iload_n (i := 1) (jm_dc dc_231_1 12 rfl)) (
  jm_gc (pu_ic _ _) (sn_iconst (jm_dc dc_231_1 13 rfl) (by decide)) (
  jm_gc (pu_iast) (sn_iast (jm_dc dc_231_1 14 rfl)) (
  jm_gc (pu_aload _ _) (sn_aload_n (i := 0) (jm_dc dc_231_1 15 rfl)) (
  jm_gc (pu_getA _ _) (sn_getA (jm_dc dc_231_1 16 rfl) fl_11_121 rfl) (
  jm_gc (pu_iload _ _) (sn_iload_n (i := 1) (jm_dc dc_231_1 17 rfl)) (
  jm_gc (pu_ic _ _) (sn_iconst (jm_dc dc_231_1 18 rfl) (by decide)) (
  jm_gc (pu_iast) (sn_iast (jm_dc dc_231_1 19 rfl)) (
  jm_gc (pu_ic _ _) (sn_iconst (jm_dc dc_231_1 20 rfl) (by decide)) (
  jm_gc (pu_istore _ _) (sn_istore_n (i := 2) (jm_dc dc_231_1 21 rfl)) (
  jm_gc (pu_iload _ _) (sn_iload_n (i := 2) (jm_dc dc_231_1 22 rfl)) (
  jm_gc (pu_ifeq _) (sn_ifeq (jm_dc dc_231_1 23 rfl) (by decide)) (
  jm_gc (pu_ic _ _) (sn_iconst (jm_dc dc_231_1 24 rfl) (by decide)) (
  jm_gn)))))))))))))))))))))))))
theorem dc_231_2 : ([(78, .istore_n 2, 1), (79, .iconst 0, 1), (80, .istore_n 3, 1), (81, .iload_n 3, 1), (82, .aload_n 0, 1), (83, .getfield 403, 3), (86, .if_icmp .ge 28, 3), (89, .aload_n 0, 1), (90, .iload_n 3, 1), (91, .iload_n 1, 1), (92, .invokevirtual 406, 3), (95, .ifCond .ne 7, 3), (98, .iload_n 2, 1), (99, .ifCond .eq 7, 3), (102, .iconst 1, 1), (103, .goto 4, 3), (106, .iconst 0, 1), (107, .istore_n 2, 1), (108, .iinc 3 1, 3), (111, .goto (-30), 3), (114, .goto (-41), 3), (117, .iinc 1 1, 3), (120, .goto (-95), 3), (123, .return_, 1)] : List (Nat × Instr × Nat)).all (fun e => decide (decode prog_14_method_63_code e.1 = .ok e.2)) = true := by decide +kernel
abbrev cl_231_2 : List (Nat × jm_O) := [(78, op_istore 2 1), (79, op_ic 0 1), (80, op_istore 3 1), (81, op_iload 3 1), (82, op_aload 0 1), (83, op_getI 11 24), (86, op_cge 114), (89, op_aload 0 1), (90, op_iload 3 1), (91, op_iload 1 1), (92, op_callV 11 233 3), (95, op_ifne 102), (98, op_iload 2 1), (99, op_ifeq 106), (102, op_ic 1 1), (103, op_goto 107), (106, op_ic 0 1), (107, op_istore 2 1), (108, op_iinc 3 1), (111, op_goto 81), (114, op_goto 73), (117, op_iinc 1 1), (120, op_goto 25), (123, op_vret)]
set_option maxRecDepth 100000 in
theorem gl_231_2 : jm_gl "FrescoWallModel" prog_14_method_63_code 4 (Option.none : Option Jvm.ClassFile.FieldType) false cl_231_2 :=
  jm_gc (pu_istore _ _) (sn_istore_n (i := 2) (jm_dc dc_231_2 0 rfl)) (
  jm_gc (pu_ic _ _) (sn_iconst (jm_dc dc_231_2 1 rfl) (by decide)) (
  jm_gc (pu_istore _ _) (sn_istore_n (i := 3) (jm_dc dc_231_2 2 rfl)) (
  jm_gc (pu_iload _ _) (sn_iload_n (i := 3) (jm_dc dc_231_2 3 rfl)) (
  jm_gc (pu_aload _ _) (sn_aload_n (i := 0) (jm_dc dc_231_2 4 rfl)) (
  jm_gc (pu_getI _ _) (sn_getI (jm_dc dc_231_2 5 rfl) fl_11_403 (Or.inl rfl)) (
  jm_gc (pu_cge _) (sn_cge (jm_dc dc_231_2 6 rfl) (by decide)) (
  jm_gc (pu_aload _ _) (sn_aload_n (i := 0) (jm_dc dc_231_2 7 rfl)) (
  jm_gc (pu_iload _ _) (sn_iload_n (i := 3) (jm_dc dc_231_2 8 rfl)) (
  jm_gc (pu_iload _ _) (sn_iload_n (i := 1) (jm_dc dc_231_2 9 rfl)) (
  jm_gc (pu_callV _ _ _) (sn_callV (jm_dc dc_231_2 10 rfl) lk_11_406) (
  jm_gc (pu_ifne _) (sn_ifne (jm_dc dc_231_2 11 rfl) (by decide)) (
  jm_gc (pu_iload _ _) (sn_iload_n (i := 2) (jm_dc dc_231_2 12 rfl)) (
  jm_gc (pu_ifeq _) (sn_ifeq (jm_dc dc_231_2 13 rfl) (by decide)) (
  jm_gc (pu_ic _ _) (sn_iconst (jm_dc dc_231_2 14 rfl) (by decide)) (
  jm_gc (pu_goto _) (sn_goto (jm_dc dc_231_2 15 rfl) (by decide)) (
  jm_gc (pu_ic _ _) (sn_iconst (jm_dc dc_231_2 16 rfl) (by decide)) (
  jm_gc (pu_istore _ _) (sn_istore_n (i := 2) (jm_dc dc_231_2 17 rfl)) (
  jm_gc (pu_iinc _ _) (sn_iinc (jm_dc dc_231_2 18 rfl) (by decide)) (
  jm_gc (pu_goto _) (sn_goto (jm_dc dc_231_2 19 rfl) (by decide)) (
  jm_gc (pu_goto _) (sn_goto (jm_dc dc_231_2 20 rfl) (by decide)) (
  jm_gc (pu_iinc _ _) (sn_iinc (jm_dc dc_231_2 21 rfl) (by decide)) (
  jm_gc (pu_goto _) (sn_goto (jm_dc dc_231_2 22 rfl) (by decide)) (
  jm_gc (pu_vret) (sn_vret (jm_dc dc_231_2 23 rfl) rfl) (
  jm_gn))))))))))))))))))))))))
theorem dc_232_0 : ([(0, .aload_n 0, 1), (1, .getfield 112, 3), (4, .iload_n 1, 1), (5, .iload_n 2, 1), (6, .iastore, 1), (7, .aload_n 0, 1), (8, .getfield 115, 3), (11, .iload_n 1, 1), (12, .aload_n 0, 1), (13, .getfield 384, 3), (16, .iastore, 1), (17, .aload_n 0, 1), (18, .getfield 118, 3), (21, .iload_n 1, 1), (22, .aload_n 0, 1), (23, .getfield 387, 3), (26, .iastore, 1), (27, .aload_n 0, 1), (28, .getfield 121, 3), (31, .iload_n 1, 1), (32, .aload_n 0, 1), (33, .getfield 390, 3), (36, .iastore, 1), (37, .return_, 1)] : List (Nat × Instr × Nat)).all (fun e => decide (decode prog_14_method_64_code e.1 = .ok e.2)) = true := by decide +kernel
abbrev cl_232_0 : List (Nat × jm_O) := [(0, op_aload 0 1), (1, op_getA 11 45), (4, op_iload 1 1), (5, op_iload 2 1), (6, op_iast), (7, op_aload 0 1), (8, op_getA 11 46), (11, op_iload 1 1), (12, op_aload 0 1), (13, op_getI 11 49), (16, op_iast), (17, op_aload 0 1), (18, op_getA 11 47), (21, op_iload 1 1), (22, op_aload 0 1), (23, op_getI 11 50), (26, op_iast), (27, op_aload 0 1), (28, op_getA 11 48), (31, op_iload 1 1), (32, op_aload 0 1), (33, op_getI 11 51), (36, op_iast), (37, op_vret)]
set_option maxRecDepth 100000 in
theorem gl_232_0 : jm_gl "FrescoWallModel" prog_14_method_64_code 3 (Option.none : Option Jvm.ClassFile.FieldType) false cl_232_0 :=
  jm_gc (pu_aload _ _) (sn_aload_n (i := 0) (jm_dc dc_232_0 0 rfl)) (
  jm_gc (pu_getA _ _) (sn_getA (jm_dc dc_232_0 1 rfl) fl_11_112 rfl) (
  jm_gc (pu_iload _ _) (sn_iload_n (i := 1) (jm_dc dc_232_0 2 rfl)) (
  jm_gc (pu_iload _ _) (sn_iload_n (i := 2) (jm_dc dc_232_0 3 rfl)) (
  jm_gc (pu_iast) (sn_iast (jm_dc dc_232_0 4 rfl)) (
  jm_gc (pu_aload _ _) (sn_aload_n (i := 0) (jm_dc dc_232_0 5 rfl)) (
  jm_gc (pu_getA _ _) (sn_getA (jm_dc dc_232_0 6 rfl) fl_11_115 rfl) (
  jm_gc (pu_iload _ _) (sn_iload_n (i := 1) (jm_dc dc_232_0 7 rfl)) (
  jm_gc (pu_aload _ _) (sn_aload_n (i := 0) (jm_dc dc_232_0 8 rfl)) (
  jm_gc (pu_getI _ _) (sn_getI (jm_dc dc_232_0 9 rfl) fl_11_384 (Or.inl rfl)) (
  jm_gc (pu_iast) (sn_iast (jm_dc dc_232_0 10 rfl)) (
  jm_gc (pu_aload _ _) (sn_aload_n (i := 0) (jm_dc dc_232_0 11 rfl)) (
  jm_gc (pu_getA _ _) (sn_getA (jm_dc dc_232_0 12 rfl) fl_11_118 rfl) (
  jm_gc (pu_iload _ _) (sn_iload_n (i := 1) (jm_dc dc_232_0 13 rfl)) (
  jm_gc (pu_aload _ _) (sn_aload_n (i := 0) (jm_dc dc_232_0 14 rfl)) (
  jm_gc (pu_getI _ _) (sn_getI (jm_dc dc_232_0 15 rfl) fl_11_387 (Or.inl rfl)) (
  jm_gc (pu_iast) (sn_iast (jm_dc dc_232_0 16 rfl)) (
  jm_gc (pu_aload _ _) (sn_aload_n (i := 0) (jm_dc dc_232_0 17 rfl)) (
  jm_gc (pu_getA _ _) (sn_getA (jm_dc dc_232_0 18 rfl) fl_11_121 rfl) (
  jm_gc (pu_iload _ _) (sn_iload_n (i := 1) (jm_dc dc_232_0 19 rfl)) (
  jm_gc (pu_aload _ _) (sn_aload_n (i := 0) (jm_dc dc_232_0 20 rfl)) (
  jm_gc (pu_getI _ _) (sn_getI (jm_dc dc_232_0 21 rfl) fl_11_390 (Or.inl rfl)) (
  jm_gc (pu_iast) (sn_iast (jm_dc dc_232_0 22 rfl)) (
  jm_gc (pu_vret) (sn_vret (jm_dc dc_232_0 23 rfl) rfl) (
  jm_gn))))))))))))))))))))))))
theorem dc_233_0 : ([(0, .aload_n 0, 1), (1, .getfield 73, 3), (4, .iload_n 1, 1), (5, .iaload, 1), (6, .istore_n 3, 1), (7, .aload_n 0, 1), (8, .getfield 79, 3), (11, .iload_n 1, 1), (12, .iaload, 1), (13, .istore 4, 2), (15, .aload_n 0, 1), (16, .getfield 85, 3), (19, .iload_n 1, 1), (20, .baload, 1), (21, .ifCond .eq 37, 3), (24, .aload_n 0, 1), (25, .getfield 112, 3), (28, .iload_n 3, 1), (29, .iaload, 1), (30, .iload_n 2, 1), (31, .if_icmp .ne 7, 3), (34, .iconst 1, 1), (35, .goto 4, 3), (38, .iconst 0, 1), (39, .aload_n 0, 1)] : List (Nat × Instr × Nat)).all (fun e => decide (decode prog_14_method_65_code e.1 = .ok e.2)) = true := by decide +kernel
abbrev cl_233_0 : List (Nat × jm_O) := [(0, op_aload 0 1), (1, op_getA 11 25), (4, op_iload 1 1), (5, op_iald 13), (6, op_istore 3 1), (7, op_aload 0 1), (8, op_getA 11 27), (11, op_iload 1 1), (12, op_iald 13), (13, op_istore 4 2), (15, op_aload 0 1), (16, op_getA 11 29), (19, op_iload 1 1), (20, op_iald 15), (21, op_ifeq 58), (24, op_aload 0 1), (25, op_getA 11 45), (28, op_iload 3 1), (29, op_iald 13), (30, op_iload 2 1), (31, op_cne 38), (34, op_ic 1 1), (35, op_goto 39), (38, op_ic 0 1), (39, op_aload 0 1)]
set_option maxRecDepth 100000 in
theorem gl_233_0 : jm_gl "FrescoWallModel" prog_14_method_65_code 5 (Option.some Jvm.ClassFile.FieldType.boolean) false cl_233_0 :=
  jm_gc (pu_aload _ _) (sn_aload_n (i := 0) (jm_dc dc_233_0 0 rfl)) (
  jm_gc (pu_getA _ _) (sn_getA (jm_dc dc_233_0 1 rfl) fl_11_73 rfl) (
  jm_gc (pu_iload _ _) (sn_iload_n (i := 1) (jm_dc dc_233_0 2 rfl)) (
  jm_gc (pu_iald _) (sn_iald (jm_dc dc_233_0 3 rfl)) (
  jm_gc (pu_istore _ _) (sn_istore_n (i := 3) (jm_dc dc_233_0 4 rfl)) (
  jm_gc (pu_aload _ _) (sn_aload_n (i := 0) (jm_dc dc_233_0 5 rfl)) (
  jm_gc (pu_getA _ _) (sn_getA (jm_dc dc_233_0 6 rfl) fl_11_79 rfl) (
  jm_gc (pu_iload _ _) (sn_iload_n (i := 1) (jm_dc dc_233_0 7 rfl)) (
  jm_gc (pu_iald _) (sn_iald (jm_dc dc_233_0 8 rfl)) (
  jm_gc (pu_istore _ _) (sn_istore (jm_dc dc_233_0 9 rfl)) (
  jm_gc (pu_aload _ _) (sn_aload_n (i := 0) (jm_dc dc_233_0 10 rfl)) (
  jm_gc (pu_getA _ _) (sn_getA (jm_dc dc_233_0 11 rfl) fl_11_85 rfl) (
  jm_gc (pu_iload _ _) (sn_iload_n (i := 1) (jm_dc dc_233_0 12 rfl)) (
  jm_gc (pu_iald _) (sn_zald (jm_dc dc_233_0 13 rfl)) (
  jm_gc (pu_ifeq _) (sn_ifeq (jm_dc dc_233_0 14 rfl) (by decide)) (
  jm_gc (pu_aload _ _) (sn_aload_n (i := 0) (jm_dc dc_233_0 15 rfl)) (
  jm_gc (pu_getA _ _) (sn_getA (jm_dc dc_233_0 16 rfl) fl_11_112 rfl) (
  jm_gc (pu_iload _ _) (sn_iload_n (i := 3) (jm_dc dc_233_0 17 rfl)) (
  jm_gc (pu_iald _) (sn_iald (jm_dc dc_233_0 18 rfl)) (
  jm_gc (pu_iload _ _) (sn_iload_n (i := 2) (jm_dc dc_233_0 19 rfl)) (
  jm_gc (pu_cne _) (sn_cne (jm_dc dc_233_0 20 rfl) (by decide)) (
  jm_gc (pu_ic _ _) (sn_iconst (jm_dc dc_233_0 21 rfl) (by decide)) (
  jm_gc (pu_goto _) (sn_goto (jm_dc dc_233_0 22 rfl) (by decide)) (
  jm_gc (pu_ic _ _) (sn_iconst (jm_dc dc_233_0 23 rfl) (by decide)) (
  jm_gc (pu_aload _ _) (sn_aload_n (i := 0) (jm_dc dc_233_0 24 rfl)) (
  jm_gn)))))))))))))))))))))))))
theorem dc_233_1 : ([(40, .getfield 112, 3), (43, .iload 4, 2), (45, .iaload, 1), (46, .iload_n 2, 1), (47, .if_icmp .ne 7, 3), (50, .iconst 1, 1), (51, .goto 4, 3), (54, .iconst 0, 1), (55, .if_icmp .ne 5, 3), (58, .iconst 0, 1), (59, .ireturn, 1), (60, .aload_n 0, 1), (61, .getfield 112, 3), (64, .iload_n 3, 1), (65, .iaload, 1), (66, .iload_n 2, 1), (67, .if_icmp .ne 40, 3), (70, .aload_n 0, 1), (71, .aload_n 0, 1), (72, .getfield 115, 3), (75, .iload_n 3, 1), (76, .iaload, 1), (77, .aload_n 0, 1), (78, .getfield 118, 3), (81, .iload_n 3, 1)] : List (Nat × Instr × Nat)).all (fun e => decide (decode prog_14_method_65_code e.1 = .ok e.2)) = true := by decide +kernel
abbrev cl_233_1 : List (Nat × jm_O) := [(40, op_getA 11 45), (43, op_iload 4 2), (45, op_iald 13), (46, op_iload 2 1), (47, op_cne 54), (50, op_ic 1 1), (51, op_goto 55), (54, op_ic 0 1), (55, op_cne 60), (58, op_ic 0 1), (59, op_zret), (60, op_aload 0 1), (61, op_getA 11 45), (64, op_iload 3 1), (65, op_iald 13), (66, op_iload 2 1), (67, op_cne 107), (70, op_aload 0 1), (71, op_aload 0 1), (72, op_getA 11 46), (75, op_iload 3 1), (76, op_iald 13), (77, op_aload 0 1), (78, op_getA 11 47), (81, op_iload 3 1)]
set_option maxRecDepth 100000 in
theorem gl_233_1 : jm_gl "FrescoWallModel" prog_14_method_65_code 5 (Option.some Jvm.ClassFile.FieldType.boolean) false cl_233_1 :=
  jm_gc (pu_getA _ _) (sn_getA (jm_dc dc_233_1 0 rfl) fl_11_112 rfl) (
  jm_gc (pu_iload _ _) (sn_iload (jm_dc dc_233_1 1 rfl)) (
  jm_gc (pu_iald _) (sn_iald (jm_dc dc_233_1 2 rfl)) (
  jm_gc (pu_iload _ _) (sn_iload_n (i := 2) (jm_dc dc_233_1 3 rfl)) (
  jm_gc (pu_cne _) (sn_cne (jm_dc dc_233_1 4 rfl) (by decide)) (
  jm_gc (pu_ic _ _) (sn_iconst (jm_dc dc_233_1 5 rfl) (by decide)) (
  jm_gc (pu_goto _) (sn_goto (jm_dc dc_233_1 6 rfl) (by decide)) (
  jm_gc (pu_ic _ _) (sn_iconst (jm_dc dc_233_1 7 rfl) (by decide)) (
  jm_gc (pu_cne _) (sn_cne (jm_dc dc_233_1 8 rfl) (by decide)) (
  jm_gc (pu_ic _ _) (sn_iconst (jm_dc dc_233_1 9 rfl) (by decide)) (
  jm_gc (pu_zret) (sn_zret (jm_dc dc_233_1 10 rfl) rfl) (
  jm_gc (pu_aload _ _) (sn_aload_n (i := 0) (jm_dc dc_233_1 11 rfl)) (
  jm_gc (pu_getA _ _) (sn_getA (jm_dc dc_233_1 12 rfl) fl_11_112 rfl) (
  jm_gc (pu_iload _ _) (sn_iload_n (i := 3) (jm_dc dc_233_1 13 rfl)) (
  jm_gc (pu_iald _) (sn_iald (jm_dc dc_233_1 14 rfl)) (
  jm_gc (pu_iload _ _) (sn_iload_n (i := 2) (jm_dc dc_233_1 15 rfl)) (
  jm_gc (pu_cne _) (sn_cne (jm_dc dc_233_1 16 rfl) (by decide)) (
  jm_gc (pu_aload _ _) (sn_aload_n (i := 0) (jm_dc dc_233_1 17 rfl)) (
  jm_gc (pu_aload _ _) (sn_aload_n (i := 0) (jm_dc dc_233_1 18 rfl)) (
  jm_gc (pu_getA _ _) (sn_getA (jm_dc dc_233_1 19 rfl) fl_11_115 rfl) (
  jm_gc (pu_iload _ _) (sn_iload_n (i := 3) (jm_dc dc_233_1 20 rfl)) (
  jm_gc (pu_iald _) (sn_iald (jm_dc dc_233_1 21 rfl)) (
  jm_gc (pu_aload _ _) (sn_aload_n (i := 0) (jm_dc dc_233_1 22 rfl)) (
  jm_gc (pu_getA _ _) (sn_getA (jm_dc dc_233_1 23 rfl) fl_11_118 rfl) (
  jm_gc (pu_iload _ _) (sn_iload_n (i := 3) (jm_dc dc_233_1 24 rfl)) (
  jm_gn)))))))))))))))))))))))))
theorem dc_233_2 : ([(82, .iaload, 1), (83, .aload_n 0, 1), (84, .getfield 121, 3), (87, .iload_n 3, 1), (88, .iaload, 1), (89, .invokevirtual 393, 3), (92, .aload_n 0, 1), (93, .iload_n 1, 1), (94, .invokevirtual 409, 3), (97, .aload_n 0, 1), (98, .iload 4, 2), (100, .iload_n 2, 1), (101, .invokevirtual 412, 3), (104, .goto 39, 3), (107, .aload_n 0, 1), (108, .aload_n 0, 1), (109, .getfield 115, 3), (112, .iload 4, 2), (114, .iaload, 1), (115, .aload_n 0, 1), (116, .getfield 118, 3), (119, .iload 4, 2), (121, .iaload, 1), (122, .aload_n 0, 1), (123, .getfield 121, 3)] : List (Nat × Instr × Nat)).all (fun e => decide (decode prog_14_method_65_code e.1 = .ok e.2)) = true := by decide +kernel
abbrev cl_233_2 : List (Nat × jm_O) := [(82, op_iald 13), (83, op_aload 0 1), (84, op_getA 11 48), (87, op_iload 3 1), (88, op_iald 13), (89, op_callV 11 225 4), (92, op_aload 0 1), (93, op_iload 1 1), (94, op_callV 11 229 2), (97, op_aload 0 1), (98, op_iload 4 2), (100, op_iload 2 1), (101, op_callV 11 232 3), (104, op_goto 143), (107, op_aload 0 1), (108, op_aload 0 1), (109, op_getA 11 46), (112, op_iload 4 2), (114, op_iald 13), (115, op_aload 0 1), (116, op_getA 11 47), (119, op_iload 4 2), (121, op_iald 13), (122, op_aload 0 1), (123, op_getA 11 48)]
set_option maxRecDepth 100000 in
theorem gl_233_2 : jm_gl "FrescoWallModel" prog_14_method_65_code 5 (Option.some Jvm.ClassFile.FieldType.boolean) false cl_233_2 :=
  jm_gc (pu_iald _) (sn_iald (jm_dc dc_233_2 0 rfl)) (
  jm_gc (pu_aload _ _) (sn_aload_n (i := 0) (jm_dc dc_233_2 1 rfl)) (
  jm_gc (pu_getA _ _) (sn_getA (jm_dc dc_233_2 2 rfl) fl_11_121 rfl) (
  jm_gc (pu_iload _ _) (sn_iload_n (i := 3) (jm_dc dc_233_2 3 rfl)) (
  jm_gc (pu_iald _) (sn_iald (jm_dc dc_233_2 4 rfl)) (
  jm_gc (pu_callV _ _ _) (sn_callV (jm_dc dc_233_2 5 rfl) lk_11_393) (
  jm_gc (pu_aload _ _) (sn_aload_n (i := 0) (jm_dc dc_233_2 6 rfl)) (
  jm_gc (pu_iload _ _) (sn_iload_n (i := 1) (jm_dc dc_233_2 7 rfl)) (
  jm_gc (pu_callV _ _ _) (sn_callV (jm_dc dc_233_2 8 rfl) lk_11_409) (
  jm_gc (pu_aload _ _) (sn_aload_n (i := 0) (jm_dc dc_233_2 9 rfl)) (
  jm_gc (pu_iload _ _) (sn_iload (jm_dc dc_233_2 10 rfl)) (
  jm_gc (pu_iload _ _) (sn_iload_n (i := 2) (jm_dc dc_233_2 11 rfl)) (
  jm_gc (pu_callV _ _ _) (sn_callV (jm_dc dc_233_2 12 rfl) lk_11_412) (
  jm_gc (pu_goto _) (sn_goto (jm_dc dc_233_2 13 rfl) (by decide)) (
  jm_gc (pu_aload _ _) (sn_aload_n (i := 0) (jm_dc dc_233_2 14 rfl)) (
  jm_gc (pu_aload _ _) (sn_aload_n (i := 0) (jm_dc dc_233_2 15 rfl)) (
  jm_gc (pu_getA _ _) (sn_getA (jm_dc dc_233_2 16 rfl) fl_11_115 rfl) (
  jm_gc (pu_iload _ _) (sn_iload (jm_dc dc_233_2 17 rfl)) (
  jm_gc (pu_iald _) (sn_iald (jm_dc dc_233_2 18 rfl)) (
  jm_gc (pu_aload _ _) (sn_aload_n (i := 0) (jm_dc dc_233_2 19 rfl)) (
  jm_gc (pu_getA _ _) (sn_getA (jm_dc dc_233_2 20 rfl) fl_11_118 rfl) (
  jm_gc (pu_iload _ _) (sn_iload (jm_dc dc_233_2 21 rfl)) (
  jm_gc (pu_iald _) (sn_iald (jm_dc dc_233_2 22 rfl)) (
  jm_gc (pu_aload _ _) (sn_aload_n (i := 0) (jm_dc dc_233_2 23 rfl)) (
  jm_gc (pu_getA _ _) (sn_getA (jm_dc dc_233_2 24 rfl) fl_11_121 rfl) (
  jm_gn)))))))))))))))))))))))))
theorem dc_233_3 : ([(126, .iload 4, 2), (128, .iaload, 1), (129, .invokevirtual 393, 3), (132, .aload_n 0, 1), (133, .iload_n 1, 1), (134, .invokevirtual 415, 3), (137, .aload_n 0, 1), (138, .iload_n 3, 1), (139, .iload_n 2, 1), (140, .invokevirtual 412, 3), (143, .iconst 1, 1), (144, .ireturn, 1)] : List (Nat × Instr × Nat)).all (fun e => decide (decode prog_14_method_65_code e.1 = .ok e.2)) = true := by decide +kernel
abbrev cl_233_3 : List (Nat × jm_O) := [(126, op_iload 4 2), (128, op_iald 13), (129, op_callV 11 225 4), (132, op_aload 0 1), (133, op_iload 1 1), (134, op_callV 11 230 2), (137, op_aload 0 1), (138, op_iload 3 1), (139, op_iload 2 1), (140, op_callV 11 232 3), (143, op_ic 1 1), (144, op_zret)]
set_option maxRecDepth 100000 in
theorem gl_233_3 : jm_gl "FrescoWallModel" prog_14_method_65_code 5 (Option.some Jvm.ClassFile.FieldType.boolean) false cl_233_3 :=
  jm_gc (pu_iload _ _) (sn_iload (jm_dc dc_233_3 0 rfl)) (
  jm_gc (pu_iald _) (sn_iald (jm_dc dc_233_3 1 rfl)) (
  jm_gc (pu_callV _ _ _) (sn_callV (jm_dc dc_233_3 2 rfl) lk_11_393) (
  jm_gc (pu_aload _ _) (sn_aload_n (i := 0) (jm_dc dc_233_3 3 rfl)) (
  jm_gc (pu_iload _ _) (sn_iload_n (i := 1) (jm_dc dc_233_3 4 rfl)) (
  jm_gc (pu_callV _ _ _) (sn_callV (jm_dc dc_233_3 5 rfl) lk_11_415) (
  jm_gc (pu_aload _ _) (sn_aload_n (i := 0) (jm_dc dc_233_3 6 rfl)) (
  jm_gc (pu_iload _ _) (sn_iload_n (i := 3) (jm_dc dc_233_3 7 rfl)) (
  jm_gc (pu_iload _ _) (sn_iload_n (i := 2) (jm_dc dc_233_3 8 rfl)) (
  jm_gc (pu_callV _ _ _) (sn_callV (jm_dc dc_233_3 9 rfl) lk_11_412) (
  jm_gc (pu_ic _ _) (sn_iconst (jm_dc dc_233_3 10 rfl) (by decide)) (
  jm_gc (pu_zret) (sn_zret (jm_dc dc_233_3 11 rfl) rfl) (
  jm_gn))))))))))))
theorem dc_234_0 : ([(0, .aload_n 0, 1), (1, .iconst 0, 1), (2, .iconst 0, 1), (3, .iconst 0, 1), (4, .invokevirtual 393, 3), (7, .aload_n 0, 1), (8, .aload_n 0, 1), (9, .getfield 115, 3), (12, .iload_n 1, 1), (13, .iaload, 1), (14, .aload_n 0, 1), (15, .getfield 118, 3), (18, .iload_n 1, 1), (19, .iaload, 1), (20, .aload_n 0, 1), (21, .getfield 121, 3), (24, .iload_n 1, 1), (25, .iaload, 1), (26, .invokevirtual 400, 3), (29, .aload_n 0, 1), (30, .aload_n 0, 1), (31, .getfield 115, 3), (34, .iload_n 2, 1), (35, .iaload, 1), (36, .aload_n 0, 1)] : List (Nat × Instr × Nat)).all (fun e => decide (decode prog_14_method_66_code e.1 = .ok e.2)) = true := by decide +kernel
abbrev cl_234_0 : List (Nat × jm_O) := [(0, op_aload 0 1), (1, op_ic 0 1), (2, op_ic 0 1), (3, op_ic 0 1), (4, op_callV 11 225 4), (7, op_aload 0 1), (8, op_aload 0 1), (9, op_getA 11 46), (12, op_iload 1 1), (13, op_iald 13), (14, op_aload 0 1), (15, op_getA 11 47), (18, op_iload 1 1), (19, op_iald 13), (20, op_aload 0 1), (21, op_getA 11 48), (24, op_iload 1 1), (25, op_iald 13), (26, op_callV 11 227 4), (29, op_aload 0 1), (30, op_aload 0 1), (31, op_getA 11 46), (34, op_iload 2 1), (35, op_iald 13), (36, op_aload 0 1)]
set_option maxRecDepth 100000 in
theorem gl_234_0 : jm_gl "FrescoWallModel" prog_14_method_66_code 3 (Option.none : Option Jvm.ClassFile.FieldType) false cl_234_0 :=
  jm_gc (pu_aload _ _) (sn_aload_n (i := 0) (jm_dc dc_234_0 0 rfl)) (
  jm_gc (pu_ic _ _) (sn_iconst (jm_dc dc_234_0 1 rfl) (by decide)) (
  jm_gc (pu_ic _ _) (sn_iconst (jm_dc dc_234_0 2 rfl) (by decide)) (
  jm_gc (pu_ic _ _) (sn_iconst (jm_dc dc_234_0 3 rfl) (by decide)) (
  jm_gc (pu_callV _ _ _) (sn_callV (jm_dc dc_234_0 4 rfl) lk_11_393) (
  jm_gc (pu_aload _ _) (sn_aload_n (i := 0) (jm_dc dc_234_0 5 rfl)) (
  jm_gc (pu_aload _ _) (sn_aload_n (i := 0) (jm_dc dc_234_0 6 rfl)) (
  jm_gc (pu_getA _ _) (sn_getA (jm_dc dc_234_0 7 rfl) fl_11_115 rfl) (
  jm_gc (pu_iload _ _) (sn_iload_n (i := 1) (jm_dc dc_234_0 8 rfl)) (
  jm_gc (pu_iald _) (sn_iald (jm_dc dc_234_0 9 rfl)) (
  jm_gc (pu_aload _ _) (sn_aload_n (i := 0) (jm_dc dc_234_0 10 rfl)) (
  jm_gc (pu_getA _ _) (sn_getA (jm_dc dc_234_0 11 rfl) fl_11_118 rfl) (
  jm_gc (pu_iload _ _) (sn_iload_n (i := 1) (jm_dc dc_234_0 12 rfl)) (
  jm_gc (pu_iald _) (sn_iald (jm_dc dc_234_0 13 rfl)) (
  jm_gc (pu_aload _ _) (sn_aload_n (i := 0) (jm_dc dc_234_0 14 rfl)) (
  jm_gc (pu_getA _ _) (sn_getA (jm_dc dc_234_0 15 rfl) fl_11_121 rfl) (
  jm_gc (pu_iload _ _) (sn_iload_n (i := 1) (jm_dc dc_234_0 16 rfl)) (
  jm_gc (pu_iald _) (sn_iald (jm_dc dc_234_0 17 rfl)) (
  jm_gc (pu_callV _ _ _) (sn_callV (jm_dc dc_234_0 18 rfl) lk_11_400) (
  jm_gc (pu_aload _ _) (sn_aload_n (i := 0) (jm_dc dc_234_0 19 rfl)) (
  jm_gc (pu_aload _ _) (sn_aload_n (i := 0) (jm_dc dc_234_0 20 rfl)) (
  jm_gc (pu_getA _ _) (sn_getA (jm_dc dc_234_0 21 rfl) fl_11_115 rfl) (
  jm_gc (pu_iload _ _) (sn_iload_n (i := 2) (jm_dc dc_234_0 22 rfl)) (
  jm_gc (pu_iald _) (sn_iald (jm_dc dc_234_0 23 rfl)) (
  jm_gc (pu_aload _ _) (sn_aload_n (i := 0) (jm_dc dc_234_0 24 rfl)) (
  jm_gn)))))))))))))))))))))))))
theorem dc_234_1 : ([(37, .getfield 118, 3), (40, .iload_n 2, 1), (41, .iaload, 1), (42, .aload_n 0, 1), (43, .getfield 121, 3), (46, .iload_n 2, 1), (47, .iaload, 1), (48, .invokevirtual 397, 3), (51, .return_, 1)] : List (Nat × Instr × Nat)).all (fun e => decide (decode prog_14_method_66_code e.1 = .ok e.2)) = true := by decide +kernel
abbrev cl_234_1 : List (Nat × jm_O) := [(37, op_getA 11 47), (40, op_iload 2 1), (41, op_iald 13), (42, op_aload 0 1), (43, op_getA 11 48), (46, op_iload 2 1), (47, op_iald 13), (48, op_callV 11 226 4), (51, op_vret)]
set_option maxRecDepth 100000 in
theorem gl_234_1 : jm_gl "FrescoWallModel" prog_14_method_66_code 3 (Option.none : Option Jvm.ClassFile.FieldType) false cl_234_1 :=
  jm_gc (pu_getA _ _) (sn_getA (jm_dc dc_234_1 0 rfl) fl_11_118 rfl) (
  jm_gc (pu_iload _ _) (sn_iload_n (i := 2) (jm_dc dc_234_1 1 rfl)) (
  jm_gc (pu_iald _) (sn_iald (jm_dc dc_234_1 2 rfl)) (
  jm_gc (pu_aload _ _) (sn_aload_n (i := 0) (jm_dc dc_234_1 3 rfl)) (
  jm_gc (pu_getA _ _) (sn_getA (jm_dc dc_234_1 4 rfl) fl_11_121 rfl) (
  jm_gc (pu_iload _ _) (sn_iload_n (i := 2) (jm_dc dc_234_1 5 rfl)) (
  jm_gc (pu_iald _) (sn_iald (jm_dc dc_234_1 6 rfl)) (
  jm_gc (pu_callV _ _ _) (sn_callV (jm_dc dc_234_1 7 rfl) lk_11_397) (
  jm_gc (pu_vret) (sn_vret (jm_dc dc_234_1 8 rfl) rfl) (
  jm_gn)))))))))
theorem dc_235_0 : ([(0, .aload_n 0, 1), (1, .aload_n 0, 1), (2, .getfield 115, 3), (5, .iload_n 1, 1), (6, .iaload, 1), (7, .aload_n 0, 1), (8, .getfield 118, 3), (11, .iload_n 1, 1), (12, .iaload, 1), (13, .aload_n 0, 1), (14, .getfield 121, 3), (17, .iload_n 1, 1), (18, .iaload, 1), (19, .invokevirtual 400, 3), (22, .aload_n 0, 1), (23, .aload_n 0, 1), (24, .getfield 115, 3), (27, .iload_n 2, 1), (28, .iaload, 1), (29, .aload_n 0, 1), (30, .getfield 118, 3), (33, .iload_n 2, 1), (34, .iaload, 1), (35, .aload_n 0, 1), (36, .getfield 121, 3)] : List (Nat × Instr × Nat)).all (fun e => decide (decode prog_14_method_67_code e.1 = .ok e.2)) = true := by decide +kernel
abbrev cl_235_0 : List (Nat × jm_O) := [(0, op_aload 0 1), (1, op_aload 0 1), (2, op_getA 11 46), (5, op_iload 1 1), (6, op_iald 13), (7, op_aload 0 1), (8, op_getA 11 47), (11, op_iload 1 1), (12, op_iald 13), (13, op_aload 0 1), (14, op_getA 11 48), (17, op_iload 1 1), (18, op_iald 13), (19, op_callV 11 227 4), (22, op_aload 0 1), (23, op_aload 0 1), (24, op_getA 11 46), (27, op_iload 2 1), (28, op_iald 13), (29, op_aload 0 1), (30, op_getA 11 47), (33, op_iload 2 1), (34, op_iald 13), (35, op_aload 0 1), (36, op_getA 11 48)]
set_option maxRecDepth 100000 in
theorem gl_235_0 : jm_gl "FrescoWallModel" prog_14_method_67_code 3 (Option.none : Option Jvm.ClassFile.FieldType) false cl_235_0 :=
  jm_gc (pu_aload _ _) (sn_aload_n (i := 0) (jm_dc dc_235_0 0 rfl)) (
  jm_gc (pu_aload _ _) (sn_aload_n (i := 0) (jm_dc dc_235_0 1 rfl)) (
  jm_gc (pu_getA _ _) (sn_getA (jm_dc dc_235_0 2 rfl) fl_11_115 rfl) (
  jm_gc (pu_iload _ _) (sn_iload_n (i := 1) (jm_dc dc_235_0 3 rfl)) (
  jm_gc (pu_iald _) (sn_iald (jm_dc dc_235_0 4 rfl)) (
  jm_gc (pu_aload _ _) (sn_aload_n (i := 0) (jm_dc dc_235_0 5 rfl)) (
  jm_gc (pu_getA _ _) (sn_getA (jm_dc dc_235_0 6 rfl) fl_11_118 rfl) (
  jm_gc (pu_iload _ _) (sn_iload_n (i := 1) (jm_dc dc_235_0 7 rfl)) (
  jm_gc (pu_iald _) (sn_iald (jm_dc dc_235_0 8 rfl)) (
  jm_gc (pu_aload _ _) (sn_aload_n (i := 0) (jm_dc dc_235_0 9 rfl)) (
  jm_gc (pu_getA _ _) (sn_getA (jm_dc dc_235_0 10 rfl) fl_11_121 rfl) (
  jm_gc (pu_iload _ _) (sn_iload_n (i := 1) (jm_dc dc_235_0 11 rfl)) (
  jm_gc (pu_iald _) (sn_iald (jm_dc dc_235_0 12 rfl)) (
  jm_gc (pu_callV _ _ _) (sn_callV (jm_dc dc_235_0 13 rfl) lk_11_400) (
  jm_gc (pu_aload _ _) (sn_aload_n (i := 0) (jm_dc dc_235_0 14 rfl)) (
  jm_gc (pu_aload _ _) (sn_aload_n (i := 0) (jm_dc dc_235_0 15 rfl)) (
  jm_gc (pu_getA _ _) (sn_getA (jm_dc dc_235_0 16 rfl) fl_11_115 rfl) (
  jm_gc (pu_iload _ _) (sn_iload_n (i := 2) (jm_dc dc_235_0 17 rfl)) (
  jm_gc (pu_iald _) (sn_iald (jm_dc dc_235_0 18 rfl)) (
  jm_gc (pu_aload _ _) (sn_aload_n (i := 0) (jm_dc dc_235_0 19 rfl)) (
  jm_gc (pu_getA _ _) (sn_getA (jm_dc dc_235_0 20 rfl) fl_11_118 rfl) (
  jm_gc (pu_iload _ _) (sn_iload_n (i := 2) (jm_dc dc_235_0 21 rfl)) (
  jm_gc (pu_iald _) (sn_iald (jm_dc dc_235_0 22 rfl)) (
  jm_gc (pu_aload _ _) (sn_aload_n (i := 0) (jm_dc dc_235_0 23 rfl)) (
  jm_gc (pu_getA _ _) (sn_getA (jm_dc dc_235_0 24 rfl) fl_11_121 rfl) (
  jm_gn)))))))))))))))))))))))))
theorem dc_235_1 : ([(39, .iload_n 2, 1), (40, .iaload, 1), (41, .invokevirtual 397, 3), (44, .return_, 1)] : List (Nat × Instr × Nat)).all (fun e => decide (decode prog_14_method_67_code e.1 = .ok e.2)) = true := by decide +kernel
abbrev cl_235_1 : List (Nat × jm_O) := [(39, op_iload 2 1), (40, op_iald 13), (41, op_callV 11 226 4), (44, op_vret)]
set_option maxRecDepth 100000 in
theorem gl_235_1 : jm_gl "FrescoWallModel" prog_14_method_67_code 3 (Option.none : Option Jvm.ClassFile.FieldType) false cl_235_1 :=
  jm_gc (pu_iload _ _) (sn_iload_n (i := 2) (jm_dc dc_235_1 0 rfl)) (
  jm_gc (pu_iald _) (sn_iald (jm_dc dc_235_1 1 rfl)) (
  jm_gc (pu_callV _ _ _) (sn_callV (jm_dc dc_235_1 2 rfl) lk_11_397) (
  jm_gc (pu_vret) (sn_vret (jm_dc dc_235_1 3 rfl) rfl) (
  jm_gn))))
theorem dc_236_0 : ([(0, .aload_n 0, 1), (1, .getfield 85, 3), (4, .iload_n 1, 1), (5, .baload, 1), (6, .ifCond .eq 20, 3), (9, .iload_n 2, 1), (10, .ifCond .eq 12, 3), (13, .aload_n 0, 1), (14, .getfield 124, 3), (17, .iload_n 1, 1), (18, .baload, 1), (19, .ifCond .eq 7, 3), (22, .iconst 1, 1), (23, .goto 4, 3), (26, .iconst 0, 1), (27, .ireturn, 1)] : List (Nat × Instr × Nat)).all (fun e => decide (decode prog_14_method_68_code e.1 = .ok e.2)) = true := by decide +kernel
abbrev cl_236_0 : List (Nat × jm_O) := [(0, op_aload 0 1), (1, op_getA 11 29), (4, op_iload 1 1), (5, op_iald 15), (6, op_ifeq 26), (9, op_iload 2 1), (10, op_ifeq 22), (13, op_aload 0 1), (14, op_getA 11 52), (17, op_iload 1 1), (18, op_iald 15), (19, op_ifeq 26), (22, op_ic 1 1), (23, op_goto 27), (26, op_ic 0 1), (27, op_zret)]
set_option maxRecDepth 100000 in
theorem gl_236_0 : jm_gl "FrescoWallModel" prog_14_method_68_code 3 (Option.some Jvm.ClassFile.FieldType.boolean) false cl_236_0 :=
  jm_gc (pu_aload _ _) (sn_aload_n (i := 0) (jm_dc dc_236_0 0 rfl)) (
  jm_gc (pu_getA _ _) (sn_getA (jm_dc dc_236_0 1 rfl) fl_11_85 rfl) (
  jm_gc (pu_iload _ _) (sn_iload_n (i := 1) (jm_dc dc_236_0 2 rfl)) (
  jm_gc (pu_iald _) (sn_zald (jm_dc dc_236_0 3 rfl)) (
  jm_gc (pu_ifeq _) (sn_ifeq (jm_dc dc_236_0 4 rfl) (by decide)) (
  jm_gc (pu_iload _ _) (sn_iload_n (i := 2) (jm_dc dc_236_0 5 rfl)) (
  jm_gc (pu_ifeq _) (sn_ifeq (jm_dc dc_236_0 6 rfl) (by decide)) (
  jm_gc (pu_aload _ _) (sn_aload_n (i := 0) (jm_dc dc_236_0 7 rfl)) (
  jm_gc (pu_getA _ _) (sn_getA (jm_dc dc_236_0 8 rfl) fl_11_124 rfl) (
  jm_gc (pu_iload _ _) (sn_iload_n (i := 1) (jm_dc dc_236_0 9 rfl)) (
  jm_gc (pu_iald _) (sn_zald (jm_dc dc_236_0 10 rfl)) (
  jm_gc (pu_ifeq _) (sn_ifeq (jm_dc dc_236_0 11 rfl) (by decide)) (
  jm_gc (pu_ic _ _) (sn_iconst (jm_dc dc_236_0 12 rfl) (by decide)) (
  jm_gc (pu_goto _) (sn_goto (jm_dc dc_236_0 13 rfl) (by decide)) (
  jm_gc (pu_ic _ _) (sn_iconst (jm_dc dc_236_0 14 rfl) (by decide)) (
  jm_gc (pu_zret) (sn_zret (jm_dc dc_236_0 15 rfl) rfl) (
  jm_gn))))))))))))))))
theorem dc_237_0 : ([(0, .iconst 0, 1), (1, .istore_n 3, 1), (2, .iload_n 3, 1), (3, .aload_n 0, 1), (4, .getfield 215, 3), (7, .if_icmp .ge 25, 3), (10, .aload_n 0, 1), (11, .getfield 127, 3), (14, .iload_n 3, 1), (15, .iload_n 3, 1), (16, .iload_n 1, 1), (17, .if_icmp .ne 7, 3), (20, .iconst 0, 1), (21, .goto 4, 3), (24, .iconst (-1), 1), (25, .iastore, 1), (26, .iinc 3 1, 3), (29, .goto (-27), 3), (32, .iconst 0, 1), (33, .istore_n 3, 1), (34, .iload_n 3, 1), (35, .aload_n 0, 1), (36, .getfield 215, 3), (39, .if_icmp .ge 132, 3), (42, .iconst 0, 1)] : List (Nat × Instr × Nat)).all (fun e => decide (decode prog_14_method_69_code e.1 = .ok e.2)) = true := by decide +kernel
abbrev cl_237_0 : List (Nat × jm_O) := [(0, op_ic 0 1), (1, op_istore 3 1), (2, op_iload 3 1), (3, op_aload 0 1), (4, op_getI 11 3), (7, op_cge 32), (10, op_aload 0 1), (11, op_getA 11 53), (14, op_iload 3 1), (15, op_iload 3 1), (16, op_iload 1 1), (17, op_cne 24), (20, op_ic 0 1), (21, op_goto 25), (24, op_ic (-1) 1), (25, op_iast), (26, op_iinc 3 1), (29, op_goto 2), (32, op_ic 0 1), (33, op_istore 3 1), (34, op_iload 3 1), (35, op_aload 0 1), (36, op_getI 11 3), (39, op_cge 171), (42, op_ic 0 1)]
set_option maxRecDepth 100000 in
theorem gl_237_0 : jm_gl "FrescoWallModel" prog_14_method_69_code 7 (Option.none : Option Jvm.ClassFile.FieldType) false cl_237_0 :=
  jm_gc (pu_ic _ _) (sn_iconst (jm_dc dc_237_0 0 rfl) (by decide)) (
  jm_gc (pu_istore _ _) (sn_istore_n (i := 3) (jm_dc dc_237_0 1 rfl)) (
  jm_gc (pu_iload _ _) (sn_iload_n (i := 3) (jm_dc dc_237_0 2 rfl)) (
  jm_gc (pu_aload _ _) (sn_aload_n (i := 0) (jm_dc dc_237_0 3 rfl)) (
  jm_gc (pu_getI _ _) (sn_getI (jm_dc dc_237_0 4 rfl) fl_11_215 (Or.inl rfl)) (
  jm_gc (pu_cge _) (sn_cge (jm_dc dc_237_0 5 rfl) (by decide)) (
  jm_gc (pu_aload _ _) (sn_aload_n (i := 0) (jm_dc dc_237_0 6 rfl)) (
  jm_gc (pu_getA _ _) (sn_getA (jm_dc dc_237_0 7 rfl) fl_11_127 rfl) (
  jm_gc (pu_iload _ _) (sn_iload_n (i := 3) (jm_dc dc_237_0 8 rfl)) (
  jm_gc (pu_iload _ _) (sn_iload_n (i := 3) (jm_dc dc_237_0 9 rfl)) (
  jm_gc (pu_iload _ _) (sn_iload_n (i := 1) (jm_dc dc_237_0 10 rfl)) (
  jm_gc (pu_cne _) (sn_cne (jm_dc dc_237_0 11 rfl) (by decide)) (
  jm_gc (pu_ic _ _) (sn_iconst (jm_dc dc_237_0 12 rfl) (by decide)) (
  jm_gc (pu_goto _) (sn_goto (jm_dc dc_237_0 13 rfl) (by decide)) (
  jm_gc (pu_ic _ _) (sn_iconst (jm_dc dc_237_0 14 rfl) (by decide)) (
  jm_gc (pu_iast) (sn_iast (jm_dc dc_237_0 15 rfl)) (
  jm_gc (pu_iinc _ _) (sn_iinc (jm_dc dc_237_0 16 rfl) (by decide)) (
  jm_gc (pu_goto _) (sn_goto (jm_dc dc_237_0 17 rfl) (by decide)) (
  jm_gc (pu_ic _ _) (sn_iconst (jm_dc dc_237_0 18 rfl) (by decide)) (
  jm_gc (pu_istore _ _) (sn_istore_n (i := 3) (jm_dc dc_237_0 19 rfl)) (
  jm_gc (pu_iload _ _) (sn_iload_n (i := 3) (jm_dc dc_237_0 20 rfl)) (
  jm_gc (pu_aload _ _) (sn_aload_n (i := 0) (jm_dc dc_237_0 21 rfl)) (
  jm_gc (pu_getI _ _) (sn_getI (jm_dc dc_237_0 22 rfl) fl_11_215 (Or.inl rfl)) (
  jm_gc (pu_cge _) (sn_cge (jm_dc dc_237_0 23 rfl) (by decide)) (
  jm_gc (pu_ic _ _) (sn_iconst (jm_dc dc_237_0 24 rfl) (by decide)) (
  jm_gn)))))))))))))))))))))))))
theorem dc_237_1 : ([(43, .istore 4, 2), (45, .iload 4, 2), (47, .aload_n 0, 1), (48, .getfield 403, 3), (51, .if_icmp .ge 114, 3), (54, .aload_n 0, 1), (55, .getfield 73, 3), (58, .iload 4, 2), (60, .iaload, 1), (61, .istore 5, 2), (63, .aload_n 0, 1), (64, .getfield 79, 3), (67, .iload 4, 2), (69, .iaload, 1), (70, .istore 6, 2), (72, .aload_n 0, 1), (73, .iload 4, 2), (75, .iload_n 2, 1), (76, .invokevirtual 418, 3), (79, .ifCond .eq 38, 3), (82, .aload_n 0, 1), (83, .getfield 127, 3), (86, .iload 5, 2), (88, .iaload, 1), (89, .iload_n 3, 1)] : List (Nat × Instr × Nat)).all (fun e => decide (decode prog_14_method_69_code e.1 = .ok e.2)) = true := by decide +kernel
abbrev cl_237_1 : List (Nat × jm_O) := [(43, op_istore 4 2), (45, op_iload 4 2), (47, op_aload 0 1), (48, op_getI 11 24), (51, op_cge 165), (54, op_aload 0 1), (55, op_getA 11 25), (58, op_iload 4 2), (60, op_iald 13), (61, op_istore 5 2), (63, op_aload 0 1), (64, op_getA 11 27), (67, op_iload 4 2), (69, op_iald 13), (70, op_istore 6 2), (72, op_aload 0 1), (73, op_iload 4 2), (75, op_iload 2 1), (76, op_callV 11 236 3), (79, op_ifeq 117), (82, op_aload 0 1), (83, op_getA 11 53), (86, op_iload 5 2), (88, op_iald 13), (89, op_iload 3 1)]
set_option maxRecDepth 100000 in
theorem gl_237_1 : jm_gl "FrescoWallModel" prog_14_method_69_code 7 (Option.none : Option Jvm.ClassFile.FieldType) false cl_237_1 :=
  jm_gc (pu_istore _ _) (sn_istore (jm_dc dc_237_1 0 rfl)) (
  jm_gc (pu_iload _ _) (sn_iload (jm_dc dc_237_1 1 rfl)) (
  jm_gc (pu_aload _ _) (sn_aload_n (i := 0) (jm_dc dc_237_1 2 rfl)) (
  jm_gc (pu_getI _ _) (sn_getI (jm_dc dc_237_1 3 rfl) fl_11_403 (Or.inl rfl)) (
  jm_gc (pu_cge _) (sn_cge (jm_dc dc_237_1 4 rfl) (by decide)) (
  jm_gc (pu_aload _ _) (sn_aload_n (i := 0) (jm_dc dc_237_1 5 rfl)) (
  jm_gc (pu_getA _ _) (sn_getA (jm_dc dc_237_1 6 rfl) fl_11_73 rfl) (
  jm_gc (pu_iload _ _) (sn_iload (jm_dc dc_237_1 7 rfl)) (
  jm_gc (pu_iald _) (sn_iald (jm_dc dc_237_1 8 rfl)) (
  jm_gc (pu_istore _ _) (sn_istore (jm_dc dc_237_1 9 rfl)) (
  jm_gc (pu_aload _ _) (sn_aload_n (i := 0) (jm_dc dc_237_1 10 rfl)) (
  jm_gc (pu_getA _ _) (sn_getA (jm_dc dc_237_1 11 rfl) fl_11_79 rfl) (
  jm_gc (pu_iload _ _) (sn_iload (jm_dc dc_237_1 12 rfl)) (
  jm_gc (pu_iald _) (sn_iald (jm_dc dc_237_1 13 rfl)) (
  jm_gc (pu_istore _ _) (sn_istore (jm_dc dc_237_1 14 rfl)) (
  jm_gc (pu_aload _ _) (sn_aload_n (i := 0) (jm_dc dc_237_1 15 rfl)) (
  jm_gc (pu_iload _ _) (sn_iload (jm_dc dc_237_1 16 rfl)) (
  jm_gc (pu_iload _ _) (sn_iload_n (i := 2) (jm_dc dc_237_1 17 rfl)) (
  jm_gc (pu_callV _ _ _) (sn_callV (jm_dc dc_237_1 18 rfl) lk_11_418) (
  jm_gc (pu_ifeq _) (sn_ifeq (jm_dc dc_237_1 19 rfl) (by decide)) (
  jm_gc (pu_aload _ _) (sn_aload_n (i := 0) (jm_dc dc_237_1 20 rfl)) (
  jm_gc (pu_getA _ _) (sn_getA (jm_dc dc_237_1 21 rfl) fl_11_127 rfl) (
  jm_gc (pu_iload _ _) (sn_iload (jm_dc dc_237_1 22 rfl)) (
  jm_gc (pu_iald _) (sn_iald (jm_dc dc_237_1 23 rfl)) (
  jm_gc (pu_iload _ _) (sn_iload_n (i := 3) (jm_dc dc_237_1 24 rfl)) (
  jm_gn)))))))))))))))))))))))))
theorem dc_237_2 : ([(90, .if_icmp .ne 27, 3), (93, .aload_n 0, 1), (94, .getfield 127, 3), (97, .iload 6, 2), (99, .iaload, 1), (100, .iconst (-1), 1), (101, .if_icmp .ne 16, 3), (104, .aload_n 0, 1), (105, .getfield 127, 3), (108, .iload 6, 2), (110, .iload_n 3, 1), (111, .iconst 1, 1), (112, .iadd, 1), (113, .iastore, 1), (114, .goto 45, 3), (117, .aload_n 0, 1), (118, .iload 4, 2), (120, .iload_n 2, 1), (121, .invokevirtual 418, 3), (124, .ifCond .eq 35, 3), (127, .aload_n 0, 1), (128, .getfield 127, 3), (131, .iload 6, 2), (133, .iaload, 1), (134, .iload_n 3, 1)] : List (Nat × Instr × Nat)).all (fun e => decide (decode prog_14_method_69_code e.1 = .ok e.2)) = true := by decide +kernel
abbrev cl_237_2 : List (Nat × jm_O) := [(90, op_cne 117), (93, op_aload 0 1), (94, op_getA 11 53), (97, op_iload 6 2), (99, op_iald 13), (100, op_ic (-1) 1), (101, op_cne 117), (104, op_aload 0 1), (105, op_getA 11 53), (108, op_iload 6 2), (110, op_iload 3 1), (111, op_ic 1 1), (112, op_ibin (fun x y => x + y)), (113, op_iast), (114, op_goto 159), (117, op_aload 0 1), (118, op_iload 4 2), (120, op_iload 2 1), (121, op_callV 11 236 3), (124, op_ifeq 159), (127, op_aload 0 1), (128, op_getA 11 53), (131, op_iload 6 2), (133, op_iald 13), (134, op_iload 3 1)]
set_option maxRecDepth 100000 in
theorem gl_237_2 : jm_gl "FrescoWallModel" prog_14_method_69_code 7 (Option.none : Option Jvm.ClassFile.FieldType) false cl_237_2 :=
  jm_gc (pu_cne _) (sn_cne (jm_dc dc_237_2 0 rfl) (by decide)) (
  jm_gc (pu_aload _ _) (sn_aload_n (i := 0) (jm_dc dc_237_2 1 rfl)) (
  jm_gc (pu_getA _ _) (sn_getA (jm_dc dc_237_2 2 rfl) fl_11_127 rfl) (
  jm_gc (pu_iload _ _) (sn_iload (jm_dc dc_237_2 3 rfl)) (
  jm_gc (pu_iald _) (sn_iald (jm_dc dc_237_2 4 rfl)) (
  jm_gc (pu_ic _ _) (sn_iconst (jm_dc dc_237_2 5 rfl) (by decide)) (
  jm_gc (pu_cne _) (sn_cne (jm_dc dc_237_2 6 rfl) (by decide)) (
  jm_gc (pu_aload _ _) (sn_aload_n (i := 0) (jm_dc dc_237_2 7 rfl)) (
  jm_gc (pu_getA _ _) (sn_getA (jm_dc dc_237_2 8 rfl) fl_11_127 rfl) (
  jm_gc (pu_iload _ _) (sn_iload (jm_dc dc_237_2 9 rfl)) (
  jm_gc (pu_iload _ _) (sn_iload_n (i := 3) (jm_dc dc_237_2 10 rfl)) (
  jm_gc (pu_ic _ _) (sn_iconst (jm_dc dc_237_2 11 rfl) (by decide)) (
  jm_gc (pu_ibin _) (sn_iadd (jm_dc dc_237_2 12 rfl)) (
  jm_gc (pu_iast) (sn_iast (jm_dc dc_237_2 13 rfl)) (
  jm_gc (pu_goto _) (sn_goto (jm_dc dc_237_2 14 rfl) (by decide)) (
  jm_gc (pu_aload _ _) (sn_aload_n (i := 0) (jm_dc dc_237_2 15 rfl)) (
  jm_gc (pu_iload _ _) (sn_iload (jm_dc dc_237_2 16 rfl)) (
  jm_gc (pu_iload _ _) (sn_iload_n (i := 2) (jm_dc dc_237_2 17 rfl)) (
  jm_gc (pu_callV _ _ _) (sn_callV (jm_dc dc_237_2 18 rfl) lk_11_418) (
  jm_gc (pu_ifeq _) (sn_ifeq (jm_dc dc_237_2 19 rfl) (by decide)) (
  jm_gc (pu_aload _ _) (sn_aload_n (i := 0) (jm_dc dc_237_2 20 rfl)) (
  jm_gc (pu_getA _ _) (sn_getA (jm_dc dc_237_2 21 rfl) fl_11_127 rfl) (
  jm_gc (pu_iload _ _) (sn_iload (jm_dc dc_237_2 22 rfl)) (
  jm_gc (pu_iald _) (sn_iald (jm_dc dc_237_2 23 rfl)) (
  jm_gc (pu_iload _ _) (sn_iload_n (i := 3) (jm_dc dc_237_2 24 rfl)) (
  jm_gn)))))))))))))))))))))))))
theorem dc_237_3 : ([(135, .if_icmp .ne 24, 3), (138, .aload_n 0, 1), (139, .getfield 127, 3), (142, .iload 5, 2), (144, .iaload, 1), (145, .iconst (-1), 1), (146, .if_icmp .ne 13, 3), (149, .aload_n 0, 1), (150, .getfield 127, 3), (153, .iload 5, 2), (155, .iload_n 3, 1), (156, .iconst 1, 1), (157, .iadd, 1), (158, .iastore, 1), (159, .iinc 4 1, 3), (162, .goto (-117), 3), (165, .iinc 3 1, 3), (168, .goto (-134), 3), (171, .return_, 1)] : List (Nat × Instr × Nat)).all (fun e => decide (decode prog_14_method_69_code e.1 = .ok e.2)) = true := by decide +kernel
abbrev cl_237_3 : List (Nat × jm_O) := [(135, op_cne 159), (138, op_aload 0 1), (139, op_getA 11 53), (142, op_iload 5 2), (144, op_iald 13), (145, op_ic (-1) 1), (146, op_cne 159), (149, op_aload 0 1), (150, op_getA 11 53), (153, op_iload 5 2), (155, op_iload 3 1), (156, op_ic 1 1), (157, op_ibin (fun x y => x + y)), (158, op_iast), (159, op_iinc 4 1), (162, op_goto 45), (165, op_iinc 3 1), (168, op_goto 34), (171, op_vret)]
set_option maxRecDepth 100000 in
theorem gl_237_3 : jm_gl "FrescoWallModel" prog_14_method_69_code 7 (Option.none : Option Jvm.ClassFile.FieldType) false cl_237_3 :=
  jm_gc (pu_cne _) (sn_cne (jm_dc dc_237_3 0 rfl) (by decide)) (
  jm_gc (pu_aload _ _) (sn_aload_n (i := 0) (jm_dc dc_237_3 1 rfl)) (
  jm_gc (pu_getA _ _) (sn_getA (jm_dc dc_237_3 2 rfl) fl_11_127 rfl) (
  jm_gc (pu_iload _ _) (sn_iload (jm_dc dc_237_3 3 rfl)) (
  jm_gc (pu_iald _) (sn_iald (jm_dc dc_237_3 4 rfl)) (
  jm_gc (pu_ic _ _) (sn_iconst (jm_dc dc_237_3 5 rfl) (by decide)) (
  jm_gc (pu_cne _) (sn_cne (jm_dc dc_237_3 6 rfl) (by decide)) (
  jm_gc (pu_aload _ _) (sn_aload_n (i := 0) (jm_dc dc_237_3 7 rfl)) (
  jm_gc (pu_getA _ _) (sn_getA (jm_dc dc_237_3 8 rfl) fl_11_127 rfl) (
  jm_gc (pu_iload _ _) (sn_iload (jm_dc dc_237_3 9 rfl)) (
  jm_gc (pu_iload _ _) (sn_iload_n (i := 3) (jm_dc dc_237_3 10 rfl)) (
  jm_gc (pu_ic _ _) (sn_iconst (jm_dc dc_237_3 11 rfl) (by decide)) (
  jm_gc (pu_ibin _) (sn_iadd (jm_dc dc_237_3 12 rfl)) (
  jm_gc (pu_iast) (sn_iast (jm_dc dc_237_3 13 rfl)) (
  jm_gc (pu_iinc _ _) (sn_iinc (jm_dc dc_237_3 14 rfl) (by decide)) (
  jm_gc (pu_goto _) (sn_goto (jm_dc dc_237_3 15 rfl) (by decide)) (
  jm_gc (pu_iinc _ _) (sn_iinc (jm_dc dc_237_3 16 rfl) (by decide)) (
  jm_gc (pu_goto _) (sn_goto (jm_dc dc_237_3 17 rfl) (by decide)) (
  jm_gc (pu_vret) (sn_vret (jm_dc dc_237_3 18 rfl) rfl) (
  jm_gn)))))))))))))))))))
theorem dc_238_0 : ([(0, .aload_n 0, 1), (1, .iload_n 2, 1), (2, .iload_n 3, 1), (3, .invokevirtual 422, 3), (6, .iload_n 1, 1), (7, .istore 4, 2), (9, .iload 4, 2), (11, .iload_n 2, 1), (12, .if_icmp .eq 149, 3), (15, .iconst 0, 1), (16, .istore 5, 2), (18, .aload_n 0, 1), (19, .iload 5, 2), (21, .iload_n 3, 1), (22, .invokevirtual 418, 3), (25, .ifCond .eq 75, 3), (28, .aload_n 0, 1), (29, .getfield 73, 3), (32, .iload 5, 2), (34, .iaload, 1), (35, .iload 4, 2), (37, .if_icmp .ne 27, 3), (40, .aload_n 0, 1), (41, .getfield 127, 3), (44, .aload_n 0, 1)] : List (Nat × Instr × Nat)).all (fun e => decide (decode prog_14_method_70_code e.1 = .ok e.2)) = true := by decide +kernel
abbrev cl_238_0 : List (Nat × jm_O) := [(0, op_aload 0 1), (1, op_iload 2 1), (2, op_iload 3 1), (3, op_callV 11 237 3), (6, op_iload 1 1), (7, op_istore 4 2), (9, op_iload 4 2), (11, op_iload 2 1), (12, op_ceq 161), (15, op_ic 0 1), (16, op_istore 5 2), (18, op_aload 0 1), (19, op_iload 5 2), (21, op_iload 3 1), (22, op_callV 11 236 3), (25, op_ifeq 100), (28, op_aload 0 1), (29, op_getA 11 25), (32, op_iload 5 2), (34, op_iald 13), (35, op_iload 4 2), (37, op_cne 64), (40, op_aload 0 1), (41, op_getA 11 53), (44, op_aload 0 1)]
set_option maxRecDepth 100000 in
theorem gl_238_0 : jm_gl "FrescoWallModel" prog_14_method_70_code 6 (Option.none : Option Jvm.ClassFile.FieldType) false cl_238_0 :=
  jm_gc (pu_aload _ _) (sn_aload_n (i := 0) (jm_dc dc_238_0 0 rfl)) (
  jm_gc (pu_iload _ _) (sn_iload_n (i := 2) (jm_dc dc_238_0 1 rfl)) (
  jm_gc (pu_iload _ _) (sn_iload_n (i := 3) (jm_dc dc_238_0 2 rfl)) (
  jm_gc (pu_callV _ _ _) (sn_callV (jm_dc dc_238_0 3 rfl) lk_11_422) (
  jm_gc (pu_iload _ _) (sn_iload_n (i := 1) (jm_dc dc_238_0 4 rfl)) (
  jm_gc (pu_istore _ _) (sn_istore (jm_dc dc_238_0 5 rfl)) (
  jm_gc (pu_iload _ _) (sn_iload (jm_dc dc_238_0 6 rfl)) (
  jm_gc (pu_iload _ _) (sn_iload_n (i := 2) (jm_dc dc_238_0 7 rfl)) (
  jm_gc (pu_ceq _) (sn_ceq (jm_dc dc_238_0 8 rfl) (by decide)) (
  jm_gc (pu_ic _ _) (sn_iconst (jm_dc dc_238_0 9 rfl) (by decide)) (
  jm_gc (pu_istore _ _) (sn_istore (jm_dc dc_238_0 10 rfl)) (
  jm_gc (pu_aload _ _) (sn_aload_n (i := 0) (jm_dc dc_238_0 11 rfl)) (
  jm_gc (pu_iload _ _) (sn_iload (jm_dc dc_238_0 12 rfl)) (
  jm_gc (pu_iload _ _) (sn_iload_n (i := 3) (jm_dc dc_238_0 13 rfl)) (
  jm_gc (pu_callV _ _ _) (sn_callV (jm_dc dc_238_0 14 rfl) lk_11_418) (
  jm_gc (pu_ifeq _) (sn_ifeq (jm_dc dc_238_0 15 rfl) (by decide)) (
  jm_gc (pu_aload _ _) (sn_aload_n (i := 0) (jm_dc dc_238_0 16 rfl)) (
  jm_gc (pu_getA _ _) (sn_getA (jm_dc dc_238_0 17 rfl) fl_11_73 rfl) (
  jm_gc (pu_iload _ _) (sn_iload (jm_dc dc_238_0 18 rfl)) (
  jm_gc (pu_iald _) (sn_iald (jm_dc dc_238_0 19 rfl)) (
  jm_gc (pu_iload _ _) (sn_iload (jm_dc dc_238_0 20 rfl)) (
  jm_gc (pu_cne _) (sn_cne (jm_dc dc_238_0 21 rfl) (by decide)) (
  jm_gc (pu_aload _ _) (sn_aload_n (i := 0) (jm_dc dc_238_0 22 rfl)) (
  jm_gc (pu_getA _ _) (sn_getA (jm_dc dc_238_0 23 rfl) fl_11_127 rfl) (
  jm_gc (pu_aload _ _) (sn_aload_n (i := 0) (jm_dc dc_238_0 24 rfl)) (
  jm_gn)))))))))))))))))))))))))
theorem dc_238_1 : ([(45, .getfield 79, 3), (48, .iload 5, 2), (50, .iaload, 1), (51, .iaload, 1), (52, .aload_n 0, 1), (53, .getfield 127, 3), (56, .iload 4, 2), (58, .iaload, 1), (59, .iconst 1, 1), (60, .isub, 1), (61, .if_icmp .eq 45, 3), (64, .aload_n 0, 1), (65, .getfield 79, 3), (68, .iload 5, 2), (70, .iaload, 1), (71, .iload 4, 2), (73, .if_icmp .ne 27, 3), (76, .aload_n 0, 1), (77, .getfield 127, 3), (80, .aload_n 0, 1), (81, .getfield 73, 3), (84, .iload 5, 2), (86, .iaload, 1), (87, .iaload, 1), (88, .aload_n 0, 1)] : List (Nat × Instr × Nat)).all (fun e => decide (decode prog_14_method_70_code e.1 = .ok e.2)) = true := by decide +kernel
abbrev cl_238_1 : List (Nat × jm_O) := [(45, op_getA 11 27), (48, op_iload 5 2), (50, op_iald 13), (51, op_iald 13), (52, op_aload 0 1), (53, op_getA 11 53), (56, op_iload 4 2), (58, op_iald 13), (59, op_ic 1 1), (60, op_ibin (fun x y => x - y)), (61, op_ceq 106), (64, op_aload 0 1), (65, op_getA 11 27), (68, op_iload 5 2), (70, op_iald 13), (71, op_iload 4 2), (73, op_cne 100), (76, op_aload 0 1), (77, op_getA 11 53), (80, op_aload 0 1), (81, op_getA 11 25), (84, op_iload 5 2), (86, op_iald 13), (87, op_iald 13), (88, op_aload 0 1)]
set_option maxRecDepth 100000 in
theorem gl_238_1 : jm_gl "FrescoWallModel" prog_14_method_70_code 6 (Option.none : Option Jvm.ClassFile.FieldType) false cl_238_1 :=
  jm_gc (pu_getA _ _) (sn_getA (jm_dc dc_238_1 0 rfl) fl_11_79 rfl) (
  jm_gc (pu_iload _ _) (sn_iload (jm_dc dc_238_1 1 rfl)) (
  jm_gc (pu_iald _) (sn_iald (jm_dc dc_238_1 2 rfl)) (
  jm_gc (pu_iald _) (sn_iald (jm_dc dc_238_1 3 rfl)) (
  jm_gc (pu_aload _ _) (sn_aload_n (i := 0) (jm_dc dc_238_1 4 rfl)) (
  jm_gc (pu_getA _ _) (sn_getA (jm_dc dc_238_1 5 rfl) fl_11_127 rfl) (
  jm_gc (pu_iload _ _) (sn_iload (jm_dc dc_238_1 6 rfl)) (
  jm_gc (pu_iald _) (sn_iald (jm_dc dc_238_1 7 rfl)) (
  jm_gc (pu_ic _ _) (sn_iconst (jm_dc dc_238_1 8 rfl) (by decide)) (
  jm_gc (pu_ibin _) (sn_isub (jm_dc dc_238_1 9 rfl)) (
  jm_gc (pu_ceq _) (sn_ceq (jm_dc dc_238_1 10 rfl) (by decide)) (
  jm_gc (pu_aload _ _) (sn_aload_n (i := 0) (jm_dc dc_238_1 11 rfl)) (
  jm_gc (pu_getA _ _) (sn_getA (jm_dc dc_238_1 12 rfl) fl_11_79 rfl) (
  jm_gc (pu_iload _ _) (sn_iload (jm_dc dc_238_1 13 rfl)) (
  jm_gc (pu_iald _) (sn_iald (jm_dc dc_238_1 14 rfl)) (
  jm_gc (pu_iload _ _) (sn_iload (jm_dc dc_238_1 15 rfl)) (
  jm_gc (pu_cne _) (sn_cne (jm_dc dc_238_1 16 rfl) (by decide)) (
  jm_gc (pu_aload _ _) (sn_aload_n (i := 0) (jm_dc dc_238_1 17 rfl)) (
  jm_gc (pu_getA _ _) (sn_getA (jm_dc dc_238_1 18 rfl) fl_11_127 rfl) (
  jm_gc (pu_aload _ _) (sn_aload_n (i := 0) (jm_dc dc_238_1 19 rfl)) (
  jm_gc (pu_getA _ _) (sn_getA (jm_dc dc_238_1 20 rfl) fl_11_73 rfl) (
  jm_gc (pu_iload _ _) (sn_iload (jm_dc dc_238_1 21 rfl)) (
  jm_gc (pu_iald _) (sn_iald (jm_dc dc_238_1 22 rfl)) (
  jm_gc (pu_iald _) (sn_iald (jm_dc dc_238_1 23 rfl)) (
  jm_gc (pu_aload _ _) (sn_aload_n (i := 0) (jm_dc dc_238_1 24 rfl)) (
  jm_gn)))))))))))))))))))))))))
theorem dc_238_2 : ([(89, .getfield 127, 3), (92, .iload 4, 2), (94, .iaload, 1), (95, .iconst 1, 1), (96, .isub, 1), (97, .if_icmp .eq 9, 3), (100, .iinc 5 1, 3), (103, .goto (-85), 3), (106, .aload_n 0, 1), (107, .getfield 130, 3), (110, .aload_n 0, 1), (111, .getfield 426, 3), (114, .iload 5, 2), (116, .iastore, 1), (117, .aload_n 0, 1), (118, .dup, 1), (119, .getfield 426, 3), (122, .iconst 1, 1), (123, .iadd, 1), (124, .putfield 426, 3), (127, .aload_n 0, 1), (128, .getfield 73, 3), (131, .iload 5, 2), (133, .iaload, 1), (134, .iload 4, 2)] : List (Nat × Instr × Nat)).all (fun e => decide (decode prog_14_method_70_code e.1 = .ok e.2)) = true := by decide +kernel
abbrev cl_238_2 : List (Nat × jm_O) := [(89, op_getA 11 53), (92, op_iload 4 2), (94, op_iald 13), (95, op_ic 1 1), (96, op_ibin (fun x y => x - y)), (97, op_ceq 106), (100, op_iinc 5 1), (103, op_goto 18), (106, op_aload 0 1), (107, op_getA 11 54), (110, op_aload 0 1), (111, op_getI 11 55), (114, op_iload 5 2), (116, op_iast), (117, op_aload 0 1), (118, op_dup), (119, op_getI 11 55), (122, op_ic 1 1), (123, op_ibin (fun x y => x + y)), (124, op_putI 11 55), (127, op_aload 0 1), (128, op_getA 11 25), (131, op_iload 5 2), (133, op_iald 13), (134, op_iload 4 2)]
set_option maxRecDepth 100000 in
theorem gl_238_2 : jm_gl "FrescoWallModel" prog_14_method_70_code 6 (Option.none : Option Jvm.ClassFile.FieldType) false cl_238_2 :=
  jm_gc (pu_getA _ _) (sn_getA (jm_dc dc_238_2 0 rfl) fl_11_127 rfl) (
  jm_gc (pu_iload _ _) (sn_iload (jm_dc dc_238_2 1 rfl)) (
  jm_gc (pu_iald _) (sn_iald (jm_dc dc_238_2 2 rfl)) (
  jm_gc (pu_ic _ _) (sn_iconst (jm_dc dc_238_2 3 rfl) (by decide)) (
  jm_gc (pu_ibin _) (sn_isub (jm_dc dc_238_2 4 rfl)) (
  jm_gc (pu_ceq _) (sn_ceq (jm_dc dc_238_2 5 rfl) (by decide)) (
  jm_gc (pu_iinc _ _) (sn_iinc (jm_dc dc_238_2 6 rfl) (by decide)) (
  jm_gc (pu_goto _) (sn_goto (jm_dc dc_238_2 7 rfl) (by decide)) (
  jm_gc (pu_aload _ _) (sn_aload_n (i := 0) (jm_dc dc_238_2 8 rfl)) (
  jm_gc (pu_getA _ _) (sn_getA (jm_dc dc_238_2 9 rfl) fl_11_130 rfl) (
  jm_gc (pu_aload _ _) (sn_aload_n (i := 0) (jm_dc dc_238_2 10 rfl)) (
  jm_gc (pu_getI _ _) (sn_getI (jm_dc dc_238_2 11 rfl) fl_11_426 (Or.inl rfl)) (
  jm_gc (pu_iload _ _) (sn_iload (jm_dc dc_238_2 12 rfl)) (
  jm_gc (pu_iast) (sn_iast (jm_dc dc_238_2 13 rfl)) (
  jm_gc (pu_aload _ _) (sn_aload_n (i := 0) (jm_dc dc_238_2 14 rfl)) (
  jm_gc (pu_dup) (sn_dup (jm_dc dc_238_2 15 rfl)) (
  jm_gc (pu_getI _ _) (sn_getI (jm_dc dc_238_2 16 rfl) fl_11_426 (Or.inl rfl)) (
  jm_gc (pu_ic _ _) (sn_iconst (jm_dc dc_238_2 17 rfl) (by decide)) (
  jm_gc (pu_ibin _) (sn_iadd (jm_dc dc_238_2 18 rfl)) (
  jm_gc (pu_putI _ _) (sn_putI (jm_dc dc_238_2 19 rfl) flw_11_426 rfl) (
  jm_gc (pu_aload _ _) (sn_aload_n (i := 0) (jm_dc dc_238_2 20 rfl)) (
  jm_gc (pu_getA _ _) (sn_getA (jm_dc dc_238_2 21 rfl) fl_11_73 rfl) (
  jm_gc (pu_iload _ _) (sn_iload (jm_dc dc_238_2 22 rfl)) (
  jm_gc (pu_iald _) (sn_iald (jm_dc dc_238_2 23 rfl)) (
  jm_gc (pu_iload _ _) (sn_iload (jm_dc dc_238_2 24 rfl)) (
  jm_gn)))))))))))))))))))))))))
theorem dc_238_3 : ([(136, .if_icmp .ne 13, 3), (139, .aload_n 0, 1), (140, .getfield 79, 3), (143, .iload 5, 2), (145, .iaload, 1), (146, .goto 10, 3), (149, .aload_n 0, 1), (150, .getfield 73, 3), (153, .iload 5, 2), (155, .iaload, 1), (156, .istore 4, 2), (158, .goto (-149), 3), (161, .return_, 1)] : List (Nat × Instr × Nat)).all (fun e => decide (decode prog_14_method_70_code e.1 = .ok e.2)) = true := by decide +kernel
abbrev cl_238_3 : List (Nat × jm_O) := [(136, op_cne 149), (139, op_aload 0 1), (140, op_getA 11 27), (143, op_iload 5 2), (145, op_iald 13), (146, op_goto 156), (149, op_aload 0 1), (150, op_getA 11 25), (153, op_iload 5 2), (155, op_iald 13), (156, op_istore 4 2), (158, op_goto 9), (161, op_vret)]
set_option maxRecDepth 100000 in
theorem gl_238_3 : jm_gl "FrescoWallModel" prog_14_method_70_code 6 (Option.none : Option Jvm.ClassFile.FieldType) false cl_238_3 :=
  jm_gc (pu_cne _) (sn_cne (jm_dc dc_238_3 0 rfl) (by decide)) (
  jm_gc (pu_aload _ _) (sn_aload_n (i := 0) (jm_dc dc_238_3 1 rfl)) (
  jm_gc (pu_getA _ _) (sn_getA (jm_dc dc_238_3 2 rfl) fl_11_79 rfl) (
  jm_gc (pu_iload _ _) (sn_iload (jm_dc dc_238_3 3 rfl)) (
  jm_gc (pu_iald _) (sn_iald (jm_dc dc_238_3 4 rfl)) (
  jm_gc (pu_goto _) (sn_goto (jm_dc dc_238_3 5 rfl) (by decide)) (
  jm_gc (pu_aload _ _) (sn_aload_n (i := 0) (jm_dc dc_238_3 6 rfl)) (
  jm_gc (pu_getA _ _) (sn_getA (jm_dc dc_238_3 7 rfl) fl_11_73 rfl) (
  jm_gc (pu_iload _ _) (sn_iload (jm_dc dc_238_3 8 rfl)) (
  jm_gc (pu_iald _) (sn_iald (jm_dc dc_238_3 9 rfl)) (
  jm_gc (pu_istore _ _) (sn_istore (jm_dc dc_238_3 10 rfl)) (
  jm_gc (pu_goto _) (sn_goto (jm_dc dc_238_3 11 rfl) (by decide)) (
  jm_gc (pu_vret) (sn_vret (jm_dc dc_238_3 12 rfl) rfl) (
  jm_gn)))))))))))))
theorem dc_239_0 : ([(0, .iconst (-1), 1), (1, .istore_n 2, 1), (2, .iconst (-1), 1), (3, .istore_n 3, 1), (4, .aload_n 0, 1), (5, .getfield 215, 3), (8, .iconst 1, 1), (9, .isub, 1), (10, .istore 4, 2), (12, .iload 4, 2), (14, .ifCond .lt 65, 3), (17, .aload_n 0, 1), (18, .getfield 112, 3), (21, .iload 4, 2), (23, .iaload, 1), (24, .iload_n 1, 1), (25, .if_icmp .ne 18, 3), (28, .aload_n 0, 1), (29, .getfield 88, 3), (32, .iload 4, 2), (34, .baload, 1), (35, .ifCond .eq 8, 3), (38, .iload 4, 2), (40, .goto 4, 3), (43, .iload_n 2, 1)] : List (Nat × Instr × Nat)).all (fun e => decide (decode prog_14_method_71_code e.1 = .ok e.2)) = true := by decide +kernel
abbrev cl_239_0 : List (Nat × jm_O) := [(0, op_ic (-1) 1), (1, op_istore 2 1), (2, op_ic (-1) 1), (3, op_istore 3 1), (4, op_aload 0 1), (5, op_getI 11 3), (8, op_ic 1 1), (9, op_ibin (fun x y => x - y)), (10, op_istore 4 2), (12, op_iload 4 2), (14, op_iflt 79), (17, op_aload 0 1), (18, op_getA 11 45), (21, op_iload 4 2), (23, op_iald 13), (24, op_iload 1 1), (25, op_cne 43), (28, op_aload 0 1), (29, op_getA 11 30), (32, op_iload 4 2), (34, op_iald 15), (35, op_ifeq 43), (38, op_iload 4 2), (40, op_goto 44), (43, op_iload 2 1)]
set_option maxRecDepth 100000 in
theorem gl_239_0 : jm_gl "FrescoWallModel" prog_14_method_71_code 5 (Option.some Jvm.ClassFile.FieldType.int) false cl_239_0 :=
  jm_gc (pu_ic _ _) (sn_iconst (jm_dc dc_239_0 0 rfl) (by decide)) (
  jm_gc (pu_istore _ _) (sn_istore_n (i := 2) (jm_dc dc_239_0 1 rfl)) (
  jm_gc (pu_ic _ _) (sn_iconst (jm_dc dc_239_0 2 rfl) (by decide)) (
  jm_gc (pu_istore _ _) (sn_istore_n (i := 3) (jm_dc dc_239_0 3 rfl)) (
  jm_gc (pu_aload _ _) (sn_aload_n (i := 0) (jm_dc dc_239_0 4 rfl)) (
  jm_gc (pu_getI _ _) (sn_getI (jm_dc dc_239_0 5 rfl) fl_11_215 (Or.inl rfl)) (
  jm_gc (pu_ic _ _) (sn_iconst (jm_dc dc_239_0 6 rfl) (by decide)) (
  jm_gc (pu_ibin _) (sn_isub (jm_dc dc_239_0 7 rfl)) (
  jm_gc (pu_istore _ _) (sn_istore (jm_dc dc_239_0 8 rfl)) (
  jm_gc (pu_iload _ _) (sn_iload (jm_dc dc_239_0 9 rfl)) (
  jm_gc (pu_iflt _) (sn_iflt (jm_dc dc_239_0 10 rfl) (by decide)) (
  jm_gc (pu_aload _ _) (sn_aload_n (i := 0) (jm_dc dc_239_0 11 rfl)) (
  jm_gc (pu_getA _ _) (sn_getA (jm_dc dc_239_0 12 rfl) fl_11_112 rfl) (
  jm_gc (pu_iload _ _) (sn_iload (jm_dc dc_239_0 13 rfl)) (
  jm_gc (pu_iald _) (sn_iald (jm_dc dc_239_0 14 rfl)) (
  jm_gc (pu_iload _ _) (sn_iload_n (i := 1) (jm_dc dc_239_0 15 rfl)) (
  jm_gc (pu_cne _) (sn_cne (jm_dc dc_239_0 16 rfl) (by decide)) (
  jm_gc (pu_aload _ _) (sn_aload_n (i := 0) (jm_dc dc_239_0 17 rfl)) (
  jm_gc (pu_getA _ _) (sn_getA (jm_dc dc_239_0 18 rfl) fl_11_88 rfl) (
  jm_gc (pu_iload _ _) (sn_iload (jm_dc dc_239_0 19 rfl)) (
  jm_gc (pu_iald _) (sn_zald (jm_dc dc_239_0 20 rfl)) (
  jm_gc (pu_ifeq _) (sn_ifeq (jm_dc dc_239_0 21 rfl) (by decide)) (
  jm_gc (pu_iload _ _) (sn_iload (jm_dc dc_239_0 22 rfl)) (
  jm_gc (pu_goto _) (sn_goto (jm_dc dc_239_0 23 rfl) (by decide)) (
  jm_gc (pu_iload _ _) (sn_iload_n (i := 2) (jm_dc dc_239_0 24 rfl)) (
  jm_gn)))))))))))))))))))))))))
theorem dc_239_1 : ([(44, .istore_n 2, 1), (45, .aload_n 0, 1), (46, .getfield 112, 3), (49, .iload 4, 2), (51, .iaload, 1), (52, .iload_n 1, 1), (53, .if_icmp .ne 18, 3), (56, .aload_n 0, 1), (57, .getfield 91, 3), (60, .iload 4, 2), (62, .baload, 1), (63, .ifCond .eq 8, 3), (66, .iload 4, 2), (68, .goto 4, 3), (71, .iload_n 3, 1), (72, .istore_n 3, 1), (73, .iinc 4 (-1), 3), (76, .goto (-64), 3), (79, .iload_n 2, 1), (80, .iconst (-1), 1), (81, .if_icmp .eq 7, 3), (84, .iload_n 2, 1), (85, .goto 4, 3), (88, .iload_n 3, 1), (89, .ireturn, 1)] : List (Nat × Instr × Nat)).all (fun e => decide (decode prog_14_method_71_code e.1 = .ok e.2)) = true := by decide +kernel
abbrev cl_239_1 : List (Nat × jm_O) := [(44, op_istore 2 1), (45, op_aload 0 1), (46, op_getA 11 45), (49, op_iload 4 2), (51, op_iald 13), (52, op_iload 1 1), (53, op_cne 71), (56, op_aload 0 1), (57, op_getA 11 31), (60, op_iload 4 2), (62, op_iald 15), (63, op_ifeq 71), (66, op_iload 4 2), (68, op_goto 72), (71, op_iload 3 1), (72, op_istore 3 1), (73, op_iinc 4 (-1)), (76, op_goto 12), (79, op_iload 2 1), (80, op_ic (-1) 1), (81, op_ceq 88), (84, op_iload 2 1), (85, op_goto 89), (88, op_iload 3 1), (89, op_iret)]
set_option maxRecDepth 100000 in
theorem gl_239_1 : jm_gl "FrescoWallModel" prog_14_method_71_code 5 (Option.some Jvm.ClassFile.FieldType.int) false cl_239_1 :=
  jm_gc (pu_istore _ _) (sn_istore_n (i := 2) (jm_dc dc_239_1 0 rfl)) (
  jm_gc (pu_aload _ _) (sn_aload_n (i := 0) (jm_dc dc_239_1 1 rfl)) (
  jm_gc (pu_getA _ _) (sn_getA (jm_dc dc_239_1 2 rfl) fl_11_112 rfl) (
  jm_gc (pu_iload _ _) (sn_iload (jm_dc dc_239_1 3 rfl)) (
  jm_gc (pu_iald _) (sn_iald (jm_dc dc_239_1 4 rfl)) (
  jm_gc (pu_iload _ _) (sn_iload_n (i := 1) (jm_dc dc_239_1 5 rfl)) (
  jm_gc (pu_cne _) (sn_cne (jm_dc dc_239_1 6 rfl) (by decide)) (
  jm_gc (pu_aload _ _) (sn_aload_n (i := 0) (jm_dc dc_239_1 7 rfl)) (
  jm_gc (pu_getA _ _) (sn_getA (jm_dc dc_239_1 8 rfl) fl_11_91 rfl) (
  jm_gc (pu_iload _ _) (sn_iload (jm_dc dc_239_1 9 rfl)) (
  jm_gc (pu_iald _) (sn_zald (jm_dc dc_239_1 10 rfl)) (
  jm_gc (pu_ifeq _) (sn_ifeq (jm_dc dc_239_1 11 rfl) (by decide)) (
  jm_gc (pu_iload _ _) (sn_iload (jm_dc dc_239_1 12 rfl)) (
  jm_gc (pu_goto _) (sn_goto (jm_dc dc_239_1 13 rfl) (by decide)) (
  jm_gc (pu_iload _ _) (sn_iload_n (i := 3) (jm_dc dc_239_1 14 rfl)) (
  jm_gc (pu_istore _ _) (sn_istore_n (i := 3) (jm_dc dc_239_1 15 rfl)) (
  jm_gc (pu_iinc _ _) (sn_iinc (jm_dc dc_239_1 16 rfl) (by decide)) (
  jm_gc (pu_goto _) (sn_goto (jm_dc dc_239_1 17 rfl) (by decide)) (
  jm_gc (pu_iload _ _) (sn_iload_n (i := 2) (jm_dc dc_239_1 18 rfl)) (
  jm_gc (pu_ic _ _) (sn_iconst (jm_dc dc_239_1 19 rfl) (by decide)) (
  jm_gc (pu_ceq _) (sn_ceq (jm_dc dc_239_1 20 rfl) (by decide)) (
  jm_gc (pu_iload _ _) (sn_iload_n (i := 2) (jm_dc dc_239_1 21 rfl)) (
  jm_gc (pu_goto _) (sn_goto (jm_dc dc_239_1 22 rfl) (by decide)) (
  jm_gc (pu_iload _ _) (sn_iload_n (i := 3) (jm_dc dc_239_1 23 rfl)) (
  jm_gc (pu_iret) (sn_iret (jm_dc dc_239_1 24 rfl) rfl) (
  jm_gn)))))))))))))))))))))))))
theorem dc_240_0 : ([(0, .iconst 0, 1), (1, .istore_n 3, 1), (2, .iconst 0, 1), (3, .istore 4, 2), (5, .iload 4, 2), (7, .aload_n 0, 1), (8, .getfield 215, 3), (11, .if_icmp .ge 46, 3), (14, .iload_n 3, 1), (15, .ifCond .ne 30, 3), (18, .aload_n 0, 1), (19, .getfield 112, 3), (22, .iload 4, 2), (24, .iaload, 1), (25, .iload_n 1, 1), (26, .if_icmp .ne 23, 3), (29, .iload 4, 2), (31, .iload_n 2, 1), (32, .if_icmp .eq 17, 3), (35, .aload_n 0, 1), (36, .getfield 88, 3), (39, .iload 4, 2), (41, .baload, 1), (42, .ifCond .eq 7, 3), (45, .iconst 1, 1)] : List (Nat × Instr × Nat)).all (fun e => decide (decode prog_14_method_72_code e.1 = .ok e.2)) = true := by decide +kernel
abbrev cl_240_0 : List (Nat × jm_O) := [(0, op_ic 0 1), (1, op_istore 3 1), (2, op_ic 0 1), (3, op_istore 4 2), (5, op_iload 4 2), (7, op_aload 0 1), (8, op_getI 11 3), (11, op_cge 57), (14, op_iload 3 1), (15, op_ifne 45), (18, op_aload 0 1), (19, op_getA 11 45), (22, op_iload 4 2), (24, op_iald 13), (25, op_iload 1 1), (26, op_cne 49), (29, op_iload 4 2), (31, op_iload 2 1), (32, op_ceq 49), (35, op_aload 0 1), (36, op_getA 11 30), (39, op_iload 4 2), (41, op_iald 15), (42, op_ifeq 49), (45, op_ic 1 1)]
set_option maxRecDepth 100000 in
theorem gl_240_0 : jm_gl "FrescoWallModel" prog_14_method_72_code 5 (Option.some Jvm.ClassFile.FieldType.boolean) false cl_240_0 :=
  jm_gc (pu_ic _ _) (sn_iconst (jm_dc dc_240_0 0 rfl) (by decide)) (
  jm_gc (pu_istore _ _) (sn_istore_n (i := 3) (jm_dc dc_240_0 1 rfl)) (
  jm_gc (pu_ic _ _) (sn_iconst (jm_dc dc_240_0 2 rfl) (by decide)) (
  jm_gc (pu_istore _ _) (sn_istore (jm_dc dc_240_0 3 rfl)) (
  jm_gc (pu_iload _ _) (sn_iload (jm_dc dc_240_0 4 rfl)) (
  jm_gc (pu_aload _ _) (sn_aload_n (i := 0) (jm_dc dc_240_0 5 rfl)) (
  jm_gc (pu_getI _ _) (sn_getI (jm_dc dc_240_0 6 rfl) fl_11_215 (Or.inl rfl)) (
  jm_gc (pu_cge _) (sn_cge (jm_dc dc_240_0 7 rfl) (by decide)) (
  jm_gc (pu_iload _ _) (sn_iload_n (i := 3) (jm_dc dc_240_0 8 rfl)) (
  jm_gc (pu_ifne _) (sn_ifne (jm_dc dc_240_0 9 rfl) (by decide)) (
  jm_gc (pu_aload _ _) (sn_aload_n (i := 0) (jm_dc dc_240_0 10 rfl)) (
  jm_gc (pu_getA _ _) (sn_getA (jm_dc dc_240_0 11 rfl) fl_11_112 rfl) (
  jm_gc (pu_iload _ _) (sn_iload (jm_dc dc_240_0 12 rfl)) (
  jm_gc (pu_iald _) (sn_iald (jm_dc dc_240_0 13 rfl)) (
  jm_gc (pu_iload _ _) (sn_iload_n (i := 1) (jm_dc dc_240_0 14 rfl)) (
  jm_gc (pu_cne _) (sn_cne (jm_dc dc_240_0 15 rfl) (by decide)) (
  jm_gc (pu_iload _ _) (sn_iload (jm_dc dc_240_0 16 rfl)) (
  jm_gc (pu_iload _ _) (sn_iload_n (i := 2) (jm_dc dc_240_0 17 rfl)) (
  jm_gc (pu_ceq _) (sn_ceq (jm_dc dc_240_0 18 rfl) (by decide)) (
  jm_gc (pu_aload _ _) (sn_aload_n (i := 0) (jm_dc dc_240_0 19 rfl)) (
  jm_gc (pu_getA _ _) (sn_getA (jm_dc dc_240_0 20 rfl) fl_11_88 rfl) (
  jm_gc (pu_iload _ _) (sn_iload (jm_dc dc_240_0 21 rfl)) (
  jm_gc (pu_iald _) (sn_zald (jm_dc dc_240_0 22 rfl)) (
  jm_gc (pu_ifeq _) (sn_ifeq (jm_dc dc_240_0 23 rfl) (by decide)) (
  jm_gc (pu_ic _ _) (sn_iconst (jm_dc dc_240_0 24 rfl) (by decide)) (
  jm_gn)))))))))))))))))))))))))
theorem dc_240_1 : ([(46, .goto 4, 3), (49, .iconst 0, 1), (50, .istore_n 3, 1), (51, .iinc 4 1, 3), (54, .goto (-49), 3), (57, .iload_n 3, 1), (58, .ireturn, 1)] : List (Nat × Instr × Nat)).all (fun e => decide (decode prog_14_method_72_code e.1 = .ok e.2)) = true := by decide +kernel
abbrev cl_240_1 : List (Nat × jm_O) := [(46, op_goto 50), (49, op_ic 0 1), (50, op_istore 3 1), (51, op_iinc 4 1), (54, op_goto 5), (57, op_iload 3 1), (58, op_zret)]
set_option maxRecDepth 100000 in
theorem gl_240_1 : jm_gl "FrescoWallModel" prog_14_method_72_code 5 (Option.some Jvm.ClassFile.FieldType.boolean) false cl_240_1 :=
  jm_gc (pu_goto _) (sn_goto (jm_dc dc_240_1 0 rfl) (by decide)) (
  jm_gc (pu_ic _ _) (sn_iconst (jm_dc dc_240_1 1 rfl) (by decide)) (
  jm_gc (pu_istore _ _) (sn_istore_n (i := 3) (jm_dc dc_240_1 2 rfl)) (
  jm_gc (pu_iinc _ _) (sn_iinc (jm_dc dc_240_1 3 rfl) (by decide)) (
  jm_gc (pu_goto _) (sn_goto (jm_dc dc_240_1 4 rfl) (by decide)) (
  jm_gc (pu_iload _ _) (sn_iload_n (i := 3) (jm_dc dc_240_1 5 rfl)) (
  jm_gc (pu_zret) (sn_zret (jm_dc dc_240_1 6 rfl) rfl) (
  jm_gn)))))))
theorem dc_241_0 : ([(0, .aload_n 0, 1), (1, .aload_n 0, 1), (2, .getfield 112, 3), (5, .iload_n 1, 1), (6, .iaload, 1), (7, .invokevirtual 429, 3), (10, .istore_n 2, 1), (11, .iload_n 2, 1), (12, .iconst (-1), 1), (13, .if_icmp .ne 5, 3), (16, .iconst 0, 1), (17, .ireturn, 1), (18, .aload_n 0, 1), (19, .aload_n 0, 1), (20, .getfield 94, 3), (23, .iload_n 2, 1), (24, .iaload, 1), (25, .aload_n 0, 1), (26, .getfield 97, 3), (29, .iload_n 2, 1), (30, .iaload, 1), (31, .aload_n 0, 1), (32, .getfield 100, 3), (35, .iload_n 2, 1), (36, .iaload, 1)] : List (Nat × Instr × Nat)).all (fun e => decide (decode prog_14_method_73_code e.1 = .ok e.2)) = true := by decide +kernel
abbrev cl_241_0 : List (Nat × jm_O) := [(0, op_aload 0 1), (1, op_aload 0 1), (2, op_getA 11 45), (5, op_iload 1 1), (6, op_iald 13), (7, op_callV 11 239 2), (10, op_istore 2 1), (11, op_iload 2 1), (12, op_ic (-1) 1), (13, op_cne 18), (16, op_ic 0 1), (17, op_zret), (18, op_aload 0 1), (19, op_aload 0 1), (20, op_getA 11 32), (23, op_iload 2 1), (24, op_iald 13), (25, op_aload 0 1), (26, op_getA 11 33), (29, op_iload 2 1), (30, op_iald 13), (31, op_aload 0 1), (32, op_getA 11 34), (35, op_iload 2 1), (36, op_iald 13)]
set_option maxRecDepth 100000 in
theorem gl_241_0 : jm_gl "FrescoWallModel" prog_14_method_73_code 3 (Option.some Jvm.ClassFile.FieldType.boolean) false cl_241_0 :=
  jm_gc (pu_aload _ _) (sn_aload_n (i := 0) (jm_dc dc_241_0 0 rfl)) (
  jm_gc (pu_aload _ _) (sn_aload_n (i := 0) (jm_dc dc_241_0 1 rfl)) (
  jm_gc (pu_getA _ _) (sn_getA (jm_dc dc_241_0 2 rfl) fl_11_112 rfl) (
  jm_gc (pu_iload _ _) (sn_iload_n (i := 1) (jm_dc dc_241_0 3 rfl)) (
  jm_gc (pu_iald _) (sn_iald (jm_dc dc_241_0 4 rfl)) (
  jm_gc (pu_callV _ _ _) (sn_callV (jm_dc dc_241_0 5 rfl) lk_11_429) (
  jm_gc (pu_istore _ _) (sn_istore_n (i := 2) (jm_dc dc_241_0 6 rfl)) (
  jm_gc (pu_iload _ _) (sn_iload_n (i := 2) (jm_dc dc_241_0 7 rfl)) (
  jm_gc (pu_ic _ _) (sn_iconst (jm_dc dc_241_0 8 rfl) (by decide)) (
  jm_gc (pu_cne _) (sn_cne (jm_dc dc_241_0 9 rfl) (by decide)) (
  jm_gc (pu_ic _ _) (sn_iconst (jm_dc dc_241_0 10 rfl) (by decide)) (
  jm_gc (pu_zret) (sn_zret (jm_dc dc_241_0 11 rfl) rfl) (
  jm_gc (pu_aload _ _) (sn_aload_n (i := 0) (jm_dc dc_241_0 12 rfl)) (
  jm_gc (pu_aload _ _) (sn_aload_n (i := 0) (jm_dc dc_241_0 13 rfl)) (
  jm_gc (pu_getA _ _) (sn_getA (jm_dc dc_241_0 14 rfl) fl_11_94 rfl) (
  jm_gc (pu_iload _ _) (sn_iload_n (i := 2) (jm_dc dc_241_0 15 rfl)) (
  jm_gc (pu_iald _) (sn_iald (jm_dc dc_241_0 16 rfl)) (
  jm_gc (pu_aload _ _) (sn_aload_n (i := 0) (jm_dc dc_241_0 17 rfl)) (
  jm_gc (pu_getA _ _) (sn_getA (jm_dc dc_241_0 18 rfl) fl_11_97 rfl) (
  jm_gc (pu_iload _ _) (sn_iload_n (i := 2) (jm_dc dc_241_0 19 rfl)) (
  jm_gc (pu_iald _) (sn_iald (jm_dc dc_241_0 20 rfl)) (
  jm_gc (pu_aload _ _) (sn_aload_n (i := 0) (jm_dc dc_241_0 21 rfl)) (
  jm_gc (pu_getA _ _) (sn_getA (jm_dc dc_241_0 22 rfl) fl_11_100 rfl) (
  jm_gc (pu_iload _ _) (sn_iload_n (i := 2) (jm_dc dc_241_0 23 rfl)) (
  jm_gc (pu_iald _) (sn_iald (jm_dc dc_241_0 24 rfl)) (
  jm_gn)))))))))))))))))))))))))
theorem dc_241_1 : ([(37, .invokevirtual 393, 3), (40, .aload_n 0, 1), (41, .iload_n 2, 1), (42, .iload_n 1, 1), (43, .invokevirtual 432, 3), (46, .iconst 1, 1), (47, .ireturn, 1)] : List (Nat × Instr × Nat)).all (fun e => decide (decode prog_14_method_73_code e.1 = .ok e.2)) = true := by decide +kernel
abbrev cl_241_1 : List (Nat × jm_O) := [(37, op_callV 11 225 4), (40, op_aload 0 1), (41, op_iload 2 1), (42, op_iload 1 1), (43, op_callV 11 235 3), (46, op_ic 1 1), (47, op_zret)]
set_option maxRecDepth 100000 in
theorem gl_241_1 : jm_gl "FrescoWallModel" prog_14_method_73_code 3 (Option.some Jvm.ClassFile.FieldType.boolean) false cl_241_1 :=
  jm_gc (pu_callV _ _ _) (sn_callV (jm_dc dc_241_1 0 rfl) lk_11_393) (
  jm_gc (pu_aload _ _) (sn_aload_n (i := 0) (jm_dc dc_241_1 1 rfl)) (
  jm_gc (pu_iload _ _) (sn_iload_n (i := 2) (jm_dc dc_241_1 2 rfl)) (
  jm_gc (pu_iload _ _) (sn_iload_n (i := 1) (jm_dc dc_241_1 3 rfl)) (
  jm_gc (pu_callV _ _ _) (sn_callV (jm_dc dc_241_1 4 rfl) lk_11_432) (
  jm_gc (pu_ic _ _) (sn_iconst (jm_dc dc_241_1 5 rfl) (by decide)) (
  jm_gc (pu_zret) (sn_zret (jm_dc dc_241_1 6 rfl) rfl) (
  jm_gn)))))))
theorem dc_242_0 : ([(0, .iconst 0, 1), (1, .istore_n 1, 1), (2, .iload_n 1, 1), (3, .aload_n 0, 1), (4, .getfield 215, 3), (7, .if_icmp .ge 53, 3), (10, .aload_n 0, 1), (11, .iload_n 1, 1), (12, .invokevirtual 435, 3), (15, .istore_n 2, 1), (16, .aload_n 0, 1), (17, .getfield 133, 3), (20, .iload_n 1, 1), (21, .iload_n 2, 1), (22, .ifCond .eq 10, 3), (25, .aload_n 0, 1), (26, .getfield 384, 3), (29, .goto 4, 3), (32, .iconst (-1), 1), (33, .iastore, 1), (34, .aload_n 0, 1), (35, .getfield 136, 3), (38, .iload_n 1, 1), (39, .aload_n 0, 1), (40, .getfield 387, 3)] : List (Nat × Instr × Nat)).all (fun e => decide (decode prog_14_method_74_code e.1 = .ok e.2)) = true := by decide +kernel
abbrev cl_242_0 : List (Nat × jm_O) := [(0, op_ic 0 1), (1, op_istore 1 1), (2, op_iload 1 1), (3, op_aload 0 1), (4, op_getI 11 3), (7, op_cge 60), (10, op_aload 0 1), (11, op_iload 1 1), (12, op_callV 11 241 2), (15, op_istore 2 1), (16, op_aload 0 1), (17, op_getA 11 56), (20, op_iload 1 1), (21, op_iload 2 1), (22, op_ifeq 32), (25, op_aload 0 1), (26, op_getI 11 49), (29, op_goto 33), (32, op_ic (-1) 1), (33, op_iast), (34, op_aload 0 1), (35, op_getA 11 57), (38, op_iload 1 1), (39, op_aload 0 1), (40, op_getI 11 50)]
set_option maxRecDepth 100000 in
theorem gl_242_0 : jm_gl "FrescoWallModel" prog_14_method_74_code 3 (Option.none : Option Jvm.ClassFile.FieldType) false cl_242_0 :=
  jm_gc (pu_ic _ _) (sn_iconst (jm_dc dc_242_0 0 rfl) (by decide)) (
  jm_gc (pu_istore _ _) (sn_istore_n (i := 1) (jm_dc dc_242_0 1 rfl)) (
  jm_gc (pu_iload _ _) (sn_iload_n (i := 1) (jm_dc dc_242_0 2 rfl)) (
  jm_gc (pu_aload _ _) (sn_aload_n (i := 0) (jm_dc dc_242_0 3 rfl)) (
  jm_gc (pu_getI _ _) (sn_getI (jm_dc dc_242_0 4 rfl) fl_11_215 (Or.inl rfl)) (
  jm_gc (pu_cge _) (sn_cge (jm_dc dc_242_0 5 rfl) (by decide)) (
  jm_gc (pu_aload _ _) (sn_aload_n (i := 0) (jm_dc dc_242_0 6 rfl)) (
  jm_gc (pu_iload _ _) (sn_iload_n (i := 1) (jm_dc dc_242_0 7 rfl)) (
  jm_gc (pu_callV _ _ _) (sn_callV (jm_dc dc_242_0 8 rfl) lk_11_435) (
  jm_gc (pu_istore _ _) (sn_istore_n (i := 2) (jm_dc dc_242_0 9 rfl)) (
  jm_gc (pu_aload _ _) (sn_aload_n (i := 0) (jm_dc dc_242_0 10 rfl)) (
  jm_gc (pu_getA _ _) (sn_getA (jm_dc dc_242_0 11 rfl) fl_11_133 rfl) (
  jm_gc (pu_iload _ _) (sn_iload_n (i := 1) (jm_dc dc_242_0 12 rfl)) (
  jm_gc (pu_iload _ _) (sn_iload_n (i := 2) (jm_dc dc_242_0 13 rfl)) (
  jm_gc (pu_ifeq _) (sn_ifeq (jm_dc dc_242_0 14 rfl) (by decide)) (
  jm_gc (pu_aload _ _) (sn_aload_n (i := 0) (jm_dc dc_242_0 15 rfl)) (
  jm_gc (pu_getI _ _) (sn_getI (jm_dc dc_242_0 16 rfl) fl_11_384 (Or.inl rfl)) (
  jm_gc (pu_goto _) (sn_goto (jm_dc dc_242_0 17 rfl) (by decide)) (
  jm_gc (pu_ic _ _) (sn_iconst (jm_dc dc_242_0 18 rfl) (by decide)) (
  jm_gc (pu_iast) (sn_iast (jm_dc dc_242_0 19 rfl)) (
  jm_gc (pu_aload _ _) (sn_aload_n (i := 0) (jm_dc dc_242_0 20 rfl)) (
  jm_gc (pu_getA _ _) (sn_getA (jm_dc dc_242_0 21 rfl) fl_11_136 rfl) (
  jm_gc (pu_iload _ _) (sn_iload_n (i := 1) (jm_dc dc_242_0 22 rfl)) (
  jm_gc (pu_aload _ _) (sn_aload_n (i := 0) (jm_dc dc_242_0 23 rfl)) (
  jm_gc (pu_getI _ _) (sn_getI (jm_dc dc_242_0 24 rfl) fl_11_387 (Or.inl rfl)) (
  jm_gn)))))))))))))))))))))))))
theorem dc_242_1 : ([(43, .iastore, 1), (44, .aload_n 0, 1), (45, .getfield 139, 3), (48, .iload_n 1, 1), (49, .aload_n 0, 1), (50, .getfield 390, 3), (53, .iastore, 1), (54, .iinc 1 1, 3), (57, .goto (-55), 3), (60, .return_, 1)] : List (Nat × Instr × Nat)).all (fun e => decide (decode prog_14_method_74_code e.1 = .ok e.2)) = true := by decide +kernel
abbrev cl_242_1 : List (Nat × jm_O) := [(43, op_iast), (44, op_aload 0 1), (45, op_getA 11 58), (48, op_iload 1 1), (49, op_aload 0 1), (50, op_getI 11 51), (53, op_iast), (54, op_iinc 1 1), (57, op_goto 2), (60, op_vret)]
set_option maxRecDepth 100000 in
theorem gl_242_1 : jm_gl "FrescoWallModel" prog_14_method_74_code 3 (Option.none : Option Jvm.ClassFile.FieldType) false cl_242_1 :=
  jm_gc (pu_iast) (sn_iast (jm_dc dc_242_1 0 rfl)) (
  jm_gc (pu_aload _ _) (sn_aload_n (i := 0) (jm_dc dc_242_1 1 rfl)) (
  jm_gc (pu_getA _ _) (sn_getA (jm_dc dc_242_1 2 rfl) fl_11_139 rfl) (
  jm_gc (pu_iload _ _) (sn_iload_n (i := 1) (jm_dc dc_242_1 3 rfl)) (
  jm_gc (pu_aload _ _) (sn_aload_n (i := 0) (jm_dc dc_242_1 4 rfl)) (
  jm_gc (pu_getI _ _) (sn_getI (jm_dc dc_242_1 5 rfl) fl_11_390 (Or.inl rfl)) (
  jm_gc (pu_iast) (sn_iast (jm_dc dc_242_1 6 rfl)) (
  jm_gc (pu_iinc _ _) (sn_iinc (jm_dc dc_242_1 7 rfl) (by decide)) (
  jm_gc (pu_goto _) (sn_goto (jm_dc dc_242_1 8 rfl) (by decide)) (
  jm_gc (pu_vret) (sn_vret (jm_dc dc_242_1 9 rfl) rfl) (
  jm_gn))))))))))
theorem dc_243_0 : ([(0, .iconst 0, 1), (1, .istore 5, 2), (3, .iload 5, 2), (5, .aload_n 0, 1), (6, .getfield 215, 3), (9, .if_icmp .ge 73, 3), (12, .aload_n 0, 1), (13, .getfield 112, 3), (16, .iload 5, 2), (18, .iaload, 1), (19, .aload_n 0, 1), (20, .getfield 112, 3), (23, .iload_n 1, 1), (24, .iaload, 1), (25, .if_icmp .ne 51, 3), (28, .aload_n 0, 1), (29, .iload_n 2, 1), (30, .iload_n 3, 1), (31, .iload 4, 2), (33, .invokevirtual 393, 3), (36, .aload_n 0, 1), (37, .iload_n 1, 1), (38, .iload 5, 2), (40, .invokevirtual 432, 3), (43, .aload_n 0, 1)] : List (Nat × Instr × Nat)).all (fun e => decide (decode prog_14_method_75_code e.1 = .ok e.2)) = true := by decide +kernel
abbrev cl_243_0 : List (Nat × jm_O) := [(0, op_ic 0 1), (1, op_istore 5 2), (3, op_iload 5 2), (5, op_aload 0 1), (6, op_getI 11 3), (9, op_cge 82), (12, op_aload 0 1), (13, op_getA 11 45), (16, op_iload 5 2), (18, op_iald 13), (19, op_aload 0 1), (20, op_getA 11 45), (23, op_iload 1 1), (24, op_iald 13), (25, op_cne 76), (28, op_aload 0 1), (29, op_iload 2 1), (30, op_iload 3 1), (31, op_iload 4 2), (33, op_callV 11 225 4), (36, op_aload 0 1), (37, op_iload 1 1), (38, op_iload 5 2), (40, op_callV 11 235 3), (43, op_aload 0 1)]
set_option maxRecDepth 100000 in
theorem gl_243_0 : jm_gl "FrescoWallModel" prog_14_method_75_code 6 (Option.none : Option Jvm.ClassFile.FieldType) false cl_243_0 :=
  jm_gc (pu_ic _ _) (sn_iconst (jm_dc dc_243_0 0 rfl) (by decide)) (
  jm_gc (pu_istore _ _) (sn_istore (jm_dc dc_243_0 1 rfl)) (
  jm_gc (pu_iload _ _) (sn_iload (jm_dc dc_243_0 2 rfl)) (
  jm_gc (pu_aload _ _) (sn_aload_n (i := 0) (jm_dc dc_243_0 3 rfl)) (
  jm_gc (pu_getI _ _) (sn_getI (jm_dc dc_243_0 4 rfl) fl_11_215 (Or.inl rfl)) (
  jm_gc (pu_cge _) (sn_cge (jm_dc dc_243_0 5 rfl) (by decide)) (
  jm_gc (pu_aload _ _) (sn_aload_n (i := 0) (jm_dc dc_243_0 6 rfl)) (
  jm_gc (pu_getA _ _) (sn_getA (jm_dc dc_243_0 7 rfl) fl_11_112 rfl) (
  jm_gc (pu_iload _ _) (sn_iload (jm_dc dc_243_0 8 rfl)) (
  jm_gc (pu_iald _) (sn_iald (jm_dc dc_243_0 9 rfl)) (
  jm_gc (pu_aload _ _) (sn_aload_n (i := 0) (jm_dc dc_243_0 10 rfl)) (
  jm_gc (pu_getA _ _) (sn_getA (jm_dc dc_243_0 11 rfl) fl_11_112 rfl) (
  jm_gc (pu_iload _ _) (sn_iload_n (i := 1) (jm_dc dc_243_0 12 rfl)) (
  jm_gc (pu_iald _) (sn_iald (jm_dc dc_243_0 13 rfl)) (
  jm_gc (pu_cne _) (sn_cne (jm_dc dc_243_0 14 rfl) (by decide)) (
  jm_gc (pu_aload _ _) (sn_aload_n (i := 0) (jm_dc dc_243_0 15 rfl)) (
  jm_gc (pu_iload _ _) (sn_iload_n (i := 2) (jm_dc dc_243_0 16 rfl)) (
  jm_gc (pu_iload _ _) (sn_iload_n (i := 3) (jm_dc dc_243_0 17 rfl)) (
  jm_gc (pu_iload _ _) (sn_iload (jm_dc dc_243_0 18 rfl)) (
  jm_gc (pu_callV _ _ _) (sn_callV (jm_dc dc_243_0 19 rfl) lk_11_393) (
  jm_gc (pu_aload _ _) (sn_aload_n (i := 0) (jm_dc dc_243_0 20 rfl)) (
  jm_gc (pu_iload _ _) (sn_iload_n (i := 1) (jm_dc dc_243_0 21 rfl)) (
  jm_gc (pu_iload _ _) (sn_iload (jm_dc dc_243_0 22 rfl)) (
  jm_gc (pu_callV _ _ _) (sn_callV (jm_dc dc_243_0 23 rfl) lk_11_432) (
  jm_gc (pu_aload _ _) (sn_aload_n (i := 0) (jm_dc dc_243_0 24 rfl)) (
  jm_gn)))))))))))))))))))))))))
theorem dc_243_1 : ([(44, .getfield 133, 3), (47, .iload 5, 2), (49, .aload_n 0, 1), (50, .getfield 384, 3), (53, .iastore, 1), (54, .aload_n 0, 1), (55, .getfield 136, 3), (58, .iload 5, 2), (60, .aload_n 0, 1), (61, .getfield 387, 3), (64, .iastore, 1), (65, .aload_n 0, 1), (66, .getfield 139, 3), (69, .iload 5, 2), (71, .aload_n 0, 1), (72, .getfield 390, 3), (75, .iastore, 1), (76, .iinc 5 1, 3), (79, .goto (-76), 3), (82, .return_, 1)] : List (Nat × Instr × Nat)).all (fun e => decide (decode prog_14_method_75_code e.1 = .ok e.2)) = true := by decide +kernel
abbrev cl_243_1 : List (Nat × jm_O) := [(44, op_getA 11 56), (47, op_iload 5 2), (49, op_aload 0 1), (50, op_getI 11 49), (53, op_iast), (54, op_aload 0 1), (55, op_getA 11 57), (58, op_iload 5 2), (60, op_aload 0 1), (61, op_getI 11 50), (64, op_iast), (65, op_aload 0 1), (66, op_getA 11 58), (69, op_iload 5 2), (71, op_aload 0 1), (72, op_getI 11 51), (75, op_iast), (76, op_iinc 5 1), (79, op_goto 3), (82, op_vret)]
set_option maxRecDepth 100000 in
theorem gl_243_1 : jm_gl "FrescoWallModel" prog_14_method_75_code 6 (Option.none : Option Jvm.ClassFile.FieldType) false cl_243_1 :=
  jm_gc (pu_getA _ _) (sn_getA (jm_dc dc_243_1 0 rfl) fl_11_133 rfl) (
  jm_gc (pu_iload _ _) (sn_iload (jm_dc dc_243_1 1 rfl)) (
  jm_gc (pu_aload _ _) (sn_aload_n (i := 0) (jm_dc dc_243_1 2 rfl)) (
  jm_gc (pu_getI _ _) (sn_getI (jm_dc dc_243_1 3 rfl) fl_11_384 (Or.inl rfl)) (
  jm_gc (pu_iast) (sn_iast (jm_dc dc_243_1 4 rfl)) (
  jm_gc (pu_aload _ _) (sn_aload_n (i := 0) (jm_dc dc_243_1 5 rfl)) (
  jm_gc (pu_getA _ _) (sn_getA (jm_dc dc_243_1 6 rfl) fl_11_136 rfl) (
  jm_gc (pu_iload _ _) (sn_iload (jm_dc dc_243_1 7 rfl)) (
  jm_gc (pu_aload _ _) (sn_aload_n (i := 0) (jm_dc dc_243_1 8 rfl)) (
  jm_gc (pu_getI _ _) (sn_getI (jm_dc dc_243_1 9 rfl) fl_11_387 (Or.inl rfl)) (
  jm_gc (pu_iast) (sn_iast (jm_dc dc_243_1 10 rfl)) (
  jm_gc (pu_aload _ _) (sn_aload_n (i := 0) (jm_dc dc_243_1 11 rfl)) (
  jm_gc (pu_getA _ _) (sn_getA (jm_dc dc_243_1 12 rfl) fl_11_139 rfl) (
  jm_gc (pu_iload _ _) (sn_iload (jm_dc dc_243_1 13 rfl)) (
  jm_gc (pu_aload _ _) (sn_aload_n (i := 0) (jm_dc dc_243_1 14 rfl)) (
  jm_gc (pu_getI _ _) (sn_getI (jm_dc dc_243_1 15 rfl) fl_11_390 (Or.inl rfl)) (
  jm_gc (pu_iast) (sn_iast (jm_dc dc_243_1 16 rfl)) (
  jm_gc (pu_iinc _ _) (sn_iinc (jm_dc dc_243_1 17 rfl) (by decide)) (
  jm_gc (pu_goto _) (sn_goto (jm_dc dc_243_1 18 rfl) (by decide)) (
  jm_gc (pu_vret) (sn_vret (jm_dc dc_243_1 19 rfl) rfl) (
  jm_gn))))))))))))))))))))
theorem dc_244_0 : ([(0, .aload_n 0, 1), (1, .iconst 0, 1), (2, .iconst 0, 1), (3, .iconst 0, 1), (4, .invokevirtual 393, 3), (7, .aload_n 0, 1), (8, .aload_n 0, 1), (9, .getfield 133, 3), (12, .iload_n 1, 1), (13, .iaload, 1), (14, .aload_n 0, 1), (15, .getfield 136, 3), (18, .iload_n 1, 1), (19, .iaload, 1), (20, .aload_n 0, 1), (21, .getfield 139, 3), (24, .iload_n 1, 1), (25, .iaload, 1), (26, .invokevirtual 400, 3), (29, .aload_n 0, 1), (30, .aload_n 0, 1), (31, .getfield 133, 3), (34, .iload_n 2, 1), (35, .iaload, 1), (36, .aload_n 0, 1)] : List (Nat × Instr × Nat)).all (fun e => decide (decode prog_14_method_76_code e.1 = .ok e.2)) = true := by decide +kernel
abbrev cl_244_0 : List (Nat × jm_O) := [(0, op_aload 0 1), (1, op_ic 0 1), (2, op_ic 0 1), (3, op_ic 0 1), (4, op_callV 11 225 4), (7, op_aload 0 1), (8, op_aload 0 1), (9, op_getA 11 56), (12, op_iload 1 1), (13, op_iald 13), (14, op_aload 0 1), (15, op_getA 11 57), (18, op_iload 1 1), (19, op_iald 13), (20, op_aload 0 1), (21, op_getA 11 58), (24, op_iload 1 1), (25, op_iald 13), (26, op_callV 11 227 4), (29, op_aload 0 1), (30, op_aload 0 1), (31, op_getA 11 56), (34, op_iload 2 1), (35, op_iald 13), (36, op_aload 0 1)]
set_option maxRecDepth 100000 in
theorem gl_244_0 : jm_gl "FrescoWallModel" prog_14_method_76_code 3 (Option.some Jvm.ClassFile.FieldType.int) false cl_244_0 :=
  jm_gc (pu_aload _ _) (sn_aload_n (i := 0) (jm_dc dc_244_0 0 rfl)) (
  jm_gc (pu_ic _ _) (sn_iconst (jm_dc dc_244_0 1 rfl) (by decide)) (
  jm_gc (pu_ic _ _) (sn_iconst (jm_dc dc_244_0 2 rfl) (by decide)) (
  jm_gc (pu_ic _ _) (sn_iconst (jm_dc dc_244_0 3 rfl) (by decide)) (
  jm_gc (pu_callV _ _ _) (sn_callV (jm_dc dc_244_0 4 rfl) lk_11_393) (
  jm_gc (pu_aload _ _) (sn_aload_n (i := 0) (jm_dc dc_244_0 5 rfl)) (
  jm_gc (pu_aload _ _) (sn_aload_n (i := 0) (jm_dc dc_244_0 6 rfl)) (
  jm_gc (pu_getA _ _) (sn_getA (jm_dc dc_244_0 7 rfl) fl_11_133 rfl) (
  jm_gc (pu_iload _ _) (sn_iload_n (i := 1) (jm_dc dc_244_0 8 rfl)) (
  jm_gc (pu_iald _) (sn_iald (jm_dc dc_244_0 9 rfl)) (
  jm_gc (pu_aload _ _) (sn_aload_n (i := 0) (jm_dc dc_244_0 10 rfl)) (
  jm_gc (pu_getA _ _) (sn_getA (jm_dc dc_244_0 11 rfl) fl_11_136 rfl) (
  jm_gc (pu_iload _ _) (sn_iload_n (i := 1) (jm_dc dc_244_0 12 rfl)) (
  jm_gc (pu_iald _) (sn_iald (jm_dc dc_244_0 13 rfl)) (
  jm_gc (pu_aload _ _) (sn_aload_n (i := 0) (jm_dc dc_244_0 14 rfl)) (
  jm_gc (pu_getA _ _) (sn_getA (jm_dc dc_244_0 15 rfl) fl_11_139 rfl) (
  jm_gc (pu_iload _ _) (sn_iload_n (i := 1) (jm_dc dc_244_0 16 rfl)) (
  jm_gc (pu_iald _) (sn_iald (jm_dc dc_244_0 17 rfl)) (
  jm_gc (pu_callV _ _ _) (sn_callV (jm_dc dc_244_0 18 rfl) lk_11_400) (
  jm_gc (pu_aload _ _) (sn_aload_n (i := 0) (jm_dc dc_244_0 19 rfl)) (
  jm_gc (pu_aload _ _) (sn_aload_n (i := 0) (jm_dc dc_244_0 20 rfl)) (
  jm_gc (pu_getA _ _) (sn_getA (jm_dc dc_244_0 21 rfl) fl_11_133 rfl) (
  jm_gc (pu_iload _ _) (sn_iload_n (i := 2) (jm_dc dc_244_0 22 rfl)) (
  jm_gc (pu_iald _) (sn_iald (jm_dc dc_244_0 23 rfl)) (
  jm_gc (pu_aload _ _) (sn_aload_n (i := 0) (jm_dc dc_244_0 24 rfl)) (
  jm_gn)))))))))))))))))))))))))
theorem dc_244_1 : ([(37, .getfield 136, 3), (40, .iload_n 2, 1), (41, .iaload, 1), (42, .aload_n 0, 1), (43, .getfield 139, 3), (46, .iload_n 2, 1), (47, .iaload, 1), (48, .invokevirtual 397, 3), (51, .aload_n 0, 1), (52, .iload_n 1, 1), (53, .iload_n 2, 1), (54, .aload_n 0, 1), (55, .getfield 384, 3), (58, .aload_n 0, 1), (59, .getfield 387, 3), (62, .aload_n 0, 1), (63, .getfield 390, 3), (66, .invokevirtual 350, 3), (69, .ireturn, 1)] : List (Nat × Instr × Nat)).all (fun e => decide (decode prog_14_method_76_code e.1 = .ok e.2)) = true := by decide +kernel
abbrev cl_244_1 : List (Nat × jm_O) := [(37, op_getA 11 57), (40, op_iload 2 1), (41, op_iald 13), (42, op_aload 0 1), (43, op_getA 11 58), (46, op_iload 2 1), (47, op_iald 13), (48, op_callV 11 226 4), (51, op_aload 0 1), (52, op_iload 1 1), (53, op_iload 2 1), (54, op_aload 0 1), (55, op_getI 11 49), (58, op_aload 0 1), (59, op_getI 11 50), (62, op_aload 0 1), (63, op_getI 11 51), (66, op_callV 11 207 6), (69, op_iret)]
set_option maxRecDepth 100000 in
theorem gl_244_1 : jm_gl "FrescoWallModel" prog_14_method_76_code 3 (Option.some Jvm.ClassFile.FieldType.int) false cl_244_1 :=
  jm_gc (pu_getA _ _) (sn_getA (jm_dc dc_244_1 0 rfl) fl_11_136 rfl) (
  jm_gc (pu_iload _ _) (sn_iload_n (i := 2) (jm_dc dc_244_1 1 rfl)) (
  jm_gc (pu_iald _) (sn_iald (jm_dc dc_244_1 2 rfl)) (
  jm_gc (pu_aload _ _) (sn_aload_n (i := 0) (jm_dc dc_244_1 3 rfl)) (
  jm_gc (pu_getA _ _) (sn_getA (jm_dc dc_244_1 4 rfl) fl_11_139 rfl) (
  jm_gc (pu_iload _ _) (sn_iload_n (i := 2) (jm_dc dc_244_1 5 rfl)) (
  jm_gc (pu_iald _) (sn_iald (jm_dc dc_244_1 6 rfl)) (
  jm_gc (pu_callV _ _ _) (sn_callV (jm_dc dc_244_1 7 rfl) lk_11_397) (
  jm_gc (pu_aload _ _) (sn_aload_n (i := 0) (jm_dc dc_244_1 8 rfl)) (
  jm_gc (pu_iload _ _) (sn_iload_n (i := 1) (jm_dc dc_244_1 9 rfl)) (
  jm_gc (pu_iload _ _) (sn_iload_n (i := 2) (jm_dc dc_244_1 10 rfl)) (
  jm_gc (pu_aload _ _) (sn_aload_n (i := 0) (jm_dc dc_244_1 11 rfl)) (
  jm_gc (pu_getI _ _) (sn_getI (jm_dc dc_244_1 12 rfl) fl_11_384 (Or.inl rfl)) (
  jm_gc (pu_aload _ _) (sn_aload_n (i := 0) (jm_dc dc_244_1 13 rfl)) (
  jm_gc (pu_getI _ _) (sn_getI (jm_dc dc_244_1 14 rfl) fl_11_387 (Or.inl rfl)) (
  jm_gc (pu_aload _ _) (sn_aload_n (i := 0) (jm_dc dc_244_1 15 rfl)) (
  jm_gc (pu_getI _ _) (sn_getI (jm_dc dc_244_1 16 rfl) fl_11_390 (Or.inl rfl)) (
  jm_gc (pu_callV _ _ _) (sn_callV (jm_dc dc_244_1 17 rfl) lk_11_350) (
  jm_gc (pu_iret) (sn_iret (jm_dc dc_244_1 18 rfl) rfl) (
  jm_gn)))))))))))))))))))
theorem dc_245_0 : ([(0, .aload_n 0, 1), (1, .iload_n 1, 1), (2, .putfield 438, 3), (5, .aload_n 0, 1), (6, .iload_n 2, 1), (7, .putfield 441, 3), (10, .aload_n 0, 1), (11, .iload_n 3, 1), (12, .putfield 444, 3), (15, .aload_n 0, 1), (16, .aload_n 0, 1), (17, .getfield 426, 3), (20, .putfield 447, 3), (23, .iconst 0, 1), (24, .istore 4, 2), (26, .iload 4, 2), (28, .aload_n 0, 1), (29, .getfield 426, 3), (32, .if_icmp .ge 23, 3), (35, .aload_n 0, 1), (36, .getfield 103, 3), (39, .iload 4, 2), (41, .aload_n 0, 1), (42, .getfield 130, 3), (45, .iload 4, 2)] : List (Nat × Instr × Nat)).all (fun e => decide (decode prog_14_method_77_code e.1 = .ok e.2)) = true := by decide +kernel
abbrev cl_245_0 : List (Nat × jm_O) := [(0, op_aload 0 1), (1, op_iload 1 1), (2, op_putI 11 35), (5, op_aload 0 1), (6, op_iload 2 1), (7, op_putI 11 37), (10, op_aload 0 1), (11, op_iload 3 1), (12, op_putI 11 38), (15, op_aload 0 1), (16, op_aload 0 1), (17, op_getI 11 55), (20, op_putI 11 36), (23, op_ic 0 1), (24, op_istore 4 2), (26, op_iload 4 2), (28, op_aload 0 1), (29, op_getI 11 55), (32, op_cge 55), (35, op_aload 0 1), (36, op_getA 11 39), (39, op_iload 4 2), (41, op_aload 0 1), (42, op_getA 11 54), (45, op_iload 4 2)]
set_option maxRecDepth 100000 in
theorem gl_245_0 : jm_gl "FrescoWallModel" prog_14_method_77_code 5 (Option.some Jvm.ClassFile.FieldType.int) false cl_245_0 :=
  jm_gc (pu_aload _ _) (sn_aload_n (i := 0) (jm_dc dc_245_0 0 rfl)) (
  jm_gc (pu_iload _ _) (sn_iload_n (i := 1) (jm_dc dc_245_0 1 rfl)) (
  jm_gc (pu_putI _ _) (sn_putI (jm_dc dc_245_0 2 rfl) flw_11_438 rfl) (
  jm_gc (pu_aload _ _) (sn_aload_n (i := 0) (jm_dc dc_245_0 3 rfl)) (
  jm_gc (pu_iload _ _) (sn_iload_n (i := 2) (jm_dc dc_245_0 4 rfl)) (
  jm_gc (pu_putI _ _) (sn_putI (jm_dc dc_245_0 5 rfl) flw_11_441 rfl) (
  jm_gc (pu_aload _ _) (sn_aload_n (i := 0) (jm_dc dc_245_0 6 rfl)) (
  jm_gc (pu_iload _ _) (sn_iload_n (i := 3) (jm_dc dc_245_0 7 rfl)) (
  jm_gc (pu_putI _ _) (sn_putI (jm_dc dc_245_0 8 rfl) flw_11_444 rfl) (
  jm_gc (pu_aload _ _) (sn_aload_n (i := 0) (jm_dc dc_245_0 9 rfl)) (
  jm_gc (pu_aload _ _) (sn_aload_n (i := 0) (jm_dc dc_245_0 10 rfl)) (
  jm_gc (pu_getI _ _) (sn_getI (jm_dc dc_245_0 11 rfl) fl_11_426 (Or.inl rfl)) (
  jm_gc (pu_putI _ _) (sn_putI (jm_dc dc_245_0 12 rfl) flw_11_447 rfl) (
  jm_gc (pu_ic _ _) (sn_iconst (jm_dc dc_245_0 13 rfl) (by decide)) (
  jm_gc (pu_istore _ _) (sn_istore (jm_dc dc_245_0 14 rfl)) (
  jm_gc (pu_iload _ _) (sn_iload (jm_dc dc_245_0 15 rfl)) (
  jm_gc (pu_aload _ _) (sn_aload_n (i := 0) (jm_dc dc_245_0 16 rfl)) (
  jm_gc (pu_getI _ _) (sn_getI (jm_dc dc_245_0 17 rfl) fl_11_426 (Or.inl rfl)) (
  jm_gc (pu_cge _) (sn_cge (jm_dc dc_245_0 18 rfl) (by decide)) (
  jm_gc (pu_aload _ _) (sn_aload_n (i := 0) (jm_dc dc_245_0 19 rfl)) (
  jm_gc (pu_getA _ _) (sn_getA (jm_dc dc_245_0 20 rfl) fl_11_103 rfl) (
  jm_gc (pu_iload _ _) (sn_iload (jm_dc dc_245_0 21 rfl)) (
  jm_gc (pu_aload _ _) (sn_aload_n (i := 0) (jm_dc dc_245_0 22 rfl)) (
  jm_gc (pu_getA _ _) (sn_getA (jm_dc dc_245_0 23 rfl) fl_11_130 rfl) (
  jm_gc (pu_iload _ _) (sn_iload (jm_dc dc_245_0 24 rfl)) (
  jm_gn)))))))))))))))))))))))))
theorem dc_245_1 : ([(47, .iaload, 1), (48, .iastore, 1), (49, .iinc 4 1, 3), (52, .goto (-26), 3), (55, .bipush (-10), 2), (57, .iload_n 1, 1), (58, .isub, 1), (59, .ireturn, 1)] : List (Nat × Instr × Nat)).all (fun e => decide (decode prog_14_method_77_code e.1 = .ok e.2)) = true := by decide +kernel
abbrev cl_245_1 : List (Nat × jm_O) := [(47, op_iald 13), (48, op_iast), (49, op_iinc 4 1), (52, op_goto 26), (55, op_ic (-10) 2), (57, op_iload 1 1), (58, op_ibin (fun x y => x - y)), (59, op_iret)]
set_option maxRecDepth 100000 in
theorem gl_245_1 : jm_gl "FrescoWallModel" prog_14_method_77_code 5 (Option.some Jvm.ClassFile.FieldType.int) false cl_245_1 :=
  jm_gc (pu_iald _) (sn_iald (jm_dc dc_245_1 0 rfl)) (
  jm_gc (pu_iast) (sn_iast (jm_dc dc_245_1 1 rfl)) (
  jm_gc (pu_iinc _ _) (sn_iinc (jm_dc dc_245_1 2 rfl) (by decide)) (
  jm_gc (pu_goto _) (sn_goto (jm_dc dc_245_1 3 rfl) (by decide)) (
  jm_gc (pu_ic _ _) (sn_bipush (jm_dc dc_245_1 4 rfl) (by decide)) (
  jm_gc (pu_iload _ _) (sn_iload_n (i := 1) (jm_dc dc_245_1 5 rfl)) (
  jm_gc (pu_ibin _) (sn_isub (jm_dc dc_245_1 6 rfl)) (
  jm_gc (pu_iret) (sn_iret (jm_dc dc_245_1 7 rfl) rfl) (
  jm_gn))))))))
theorem dc_246_0 : ([(0, .aload_n 0, 1), (1, .iconst 0, 1), (2, .putfield 426, 3), (5, .iconst 0, 1), (6, .istore_n 3, 1), (7, .iload_n 3, 1), (8, .aload_n 0, 1), (9, .getfield 215, 3), (12, .if_icmp .ge 93, 3), (15, .iconst 0, 1), (16, .istore 4, 2), (18, .iload 4, 2), (20, .aload_n 0, 1), (21, .getfield 215, 3), (24, .if_icmp .ge 75, 3), (27, .aload_n 0, 1), (28, .getfield 112, 3), (31, .iload_n 3, 1), (32, .iaload, 1), (33, .iload_n 1, 1), (34, .if_icmp .ne 65, 3), (37, .aload_n 0, 1), (38, .getfield 112, 3), (41, .iload 4, 2), (43, .iaload, 1)] : List (Nat × Instr × Nat)).all (fun e => decide (decode prog_14_method_78_code e.1 = .ok e.2)) = true := by decide +kernel
abbrev cl_246_0 : List (Nat × jm_O) := [(0, op_aload 0 1), (1, op_ic 0 1), (2, op_putI 11 55), (5, op_ic 0 1), (6, op_istore 3 1), (7, op_iload 3 1), (8, op_aload 0 1), (9, op_getI 11 3), (12, op_cge 105), (15, op_ic 0 1), (16, op_istore 4 2), (18, op_iload 4 2), (20, op_aload 0 1), (21, op_getI 11 3), (24, op_cge 99), (27, op_aload 0 1), (28, op_getA 11 45), (31, op_iload 3 1), (32, op_iald 13), (33, op_iload 1 1), (34, op_cne 99), (37, op_aload 0 1), (38, op_getA 11 45), (41, op_iload 4 2), (43, op_iald 13)]
set_option maxRecDepth 100000 in
theorem gl_246_0 : jm_gl "FrescoWallModel" prog_14_method_78_code 5 (Option.some Jvm.ClassFile.FieldType.int) false cl_246_0 :=
  jm_gc (pu_aload _ _) (sn_aload_n (i := 0) (jm_dc dc_246_0 0 rfl)) (
  jm_gc (pu_ic _ _) (sn_iconst (jm_dc dc_246_0 1 rfl) (by decide)) (
  jm_gc (pu_putI _ _) (sn_putI (jm_dc dc_246_0 2 rfl) flw_11_426 rfl) (
  jm_gc (pu_ic _ _) (sn_iconst (jm_dc dc_246_0 3 rfl) (by decide)) (
  jm_gc (pu_istore _ _) (sn_istore_n (i := 3) (jm_dc dc_246_0 4 rfl)) (
  jm_gc (pu_iload _ _) (sn_iload_n (i := 3) (jm_dc dc_246_0 5 rfl)) (
  jm_gc (pu_aload _ _) (sn_aload_n (i := 0) (jm_dc dc_246_0 6 rfl)) (
  jm_gc (pu_getI _ _) (sn_getI (jm_dc dc_246_0 7 rfl) fl_11_215 (Or.inl rfl)) (
  jm_gc (pu_cge _) (sn_cge (jm_dc dc_246_0 8 rfl) (by decide)) (
  jm_gc (pu_ic _ _) (sn_iconst (jm_dc dc_246_0 9 rfl) (by decide)) (
  jm_gc (pu_istore _ _) (sn_istore (jm_dc dc_246_0 10 rfl)) (
  jm_gc (pu_iload _ _) (sn_iload (jm_dc dc_246_0 11 rfl)) (
  jm_gc (pu_aload _ _) (sn_aload_n (i := 0) (jm_dc dc_246_0 12 rfl)) (
  jm_gc (pu_getI _ _) (sn_getI (jm_dc dc_246_0 13 rfl) fl_11_215 (Or.inl rfl)) (
  jm_gc (pu_cge _) (sn_cge (jm_dc dc_246_0 14 rfl) (by decide)) (
  jm_gc (pu_aload _ _) (sn_aload_n (i := 0) (jm_dc dc_246_0 15 rfl)) (
  jm_gc (pu_getA _ _) (sn_getA (jm_dc dc_246_0 16 rfl) fl_11_112 rfl) (
  jm_gc (pu_iload _ _) (sn_iload_n (i := 3) (jm_dc dc_246_0 17 rfl)) (
  jm_gc (pu_iald _) (sn_iald (jm_dc dc_246_0 18 rfl)) (
  jm_gc (pu_iload _ _) (sn_iload_n (i := 1) (jm_dc dc_246_0 19 rfl)) (
  jm_gc (pu_cne _) (sn_cne (jm_dc dc_246_0 20 rfl) (by decide)) (
  jm_gc (pu_aload _ _) (sn_aload_n (i := 0) (jm_dc dc_246_0 21 rfl)) (
  jm_gc (pu_getA _ _) (sn_getA (jm_dc dc_246_0 22 rfl) fl_11_112 rfl) (
  jm_gc (pu_iload _ _) (sn_iload (jm_dc dc_246_0 23 rfl)) (
  jm_gc (pu_iald _) (sn_iald (jm_dc dc_246_0 24 rfl)) (
  jm_gn)))))))))))))))))))))))))
theorem dc_246_1 : ([(44, .iload_n 1, 1), (45, .if_icmp .eq 48, 3), (48, .aload_n 0, 1), (49, .getfield 112, 3), (52, .iload 4, 2), (54, .iaload, 1), (55, .iload_n 2, 1), (56, .if_icmp .eq 37, 3), (59, .aload_n 0, 1), (60, .getfield 133, 3), (63, .iload 4, 2), (65, .iaload, 1), (66, .iconst (-1), 1), (67, .if_icmp .eq 26, 3), (70, .aload_n 0, 1), (71, .iload_n 3, 1), (72, .iload 4, 2), (74, .invokevirtual 450, 3), (77, .aload_n 0, 1), (78, .getfield 354, 3), (81, .if_icmp .le 12, 3), (84, .aload_n 0, 1), (85, .iconst 5, 1), (86, .iload_n 3, 1), (87, .iload 4, 2)] : List (Nat × Instr × Nat)).all (fun e => decide (decode prog_14_method_78_code e.1 = .ok e.2)) = true := by decide +kernel
abbrev cl_246_1 : List (Nat × jm_O) := [(44, op_iload 1 1), (45, op_ceq 93), (48, op_aload 0 1), (49, op_getA 11 45), (52, op_iload 4 2), (54, op_iald 13), (55, op_iload 2 1), (56, op_ceq 93), (59, op_aload 0 1), (60, op_getA 11 56), (63, op_iload 4 2), (65, op_iald 13), (66, op_ic (-1) 1), (67, op_ceq 93), (70, op_aload 0 1), (71, op_iload 3 1), (72, op_iload 4 2), (74, op_callV 11 244 3), (77, op_aload 0 1), (78, op_getI 11 20), (81, op_cle 93), (84, op_aload 0 1), (85, op_ic 5 1), (86, op_iload 3 1), (87, op_iload 4 2)]
set_option maxRecDepth 100000 in
theorem gl_246_1 : jm_gl "FrescoWallModel" prog_14_method_78_code 5 (Option.some Jvm.ClassFile.FieldType.int) false cl_246_1 :=
  jm_gc (pu_iload _ _) (sn_iload_n (i := 1) (jm_dc dc_246_1 0 rfl)) (
  jm_gc (pu_ceq _) (sn_ceq (jm_dc dc_246_1 1 rfl) (by decide)) (
  jm_gc (pu_aload _ _) (sn_aload_n (i := 0) (jm_dc dc_246_1 2 rfl)) (
  jm_gc (pu_getA _ _) (sn_getA (jm_dc dc_246_1 3 rfl) fl_11_112 rfl) (
  jm_gc (pu_iload _ _) (sn_iload (jm_dc dc_246_1 4 rfl)) (
  jm_gc (pu_iald _) (sn_iald (jm_dc dc_246_1 5 rfl)) (
  jm_gc (pu_iload _ _) (sn_iload_n (i := 2) (jm_dc dc_246_1 6 rfl)) (
  jm_gc (pu_ceq _) (sn_ceq (jm_dc dc_246_1 7 rfl) (by decide)) (
  jm_gc (pu_aload _ _) (sn_aload_n (i := 0) (jm_dc dc_246_1 8 rfl)) (
  jm_gc (pu_getA _ _) (sn_getA (jm_dc dc_246_1 9 rfl) fl_11_133 rfl) (
  jm_gc (pu_iload _ _) (sn_iload (jm_dc dc_246_1 10 rfl)) (
  jm_gc (pu_iald _) (sn_iald (jm_dc dc_246_1 11 rfl)) (
  jm_gc (pu_ic _ _) (sn_iconst (jm_dc dc_246_1 12 rfl) (by decide)) (
  jm_gc (pu_ceq _) (sn_ceq (jm_dc dc_246_1 13 rfl) (by decide)) (
  jm_gc (pu_aload _ _) (sn_aload_n (i := 0) (jm_dc dc_246_1 14 rfl)) (
  jm_gc (pu_iload _ _) (sn_iload_n (i := 3) (jm_dc dc_246_1 15 rfl)) (
  jm_gc (pu_iload _ _) (sn_iload (jm_dc dc_246_1 16 rfl)) (
  jm_gc (pu_callV _ _ _) (sn_callV (jm_dc dc_246_1 17 rfl) lk_11_450) (
  jm_gc (pu_aload _ _) (sn_aload_n (i := 0) (jm_dc dc_246_1 18 rfl)) (
  jm_gc (pu_getI _ _) (sn_getI (jm_dc dc_246_1 19 rfl) fl_11_354 (Or.inl rfl)) (
  jm_gc (pu_cle _) (sn_cle (jm_dc dc_246_1 20 rfl) (by decide)) (
  jm_gc (pu_aload _ _) (sn_aload_n (i := 0) (jm_dc dc_246_1 21 rfl)) (
  jm_gc (pu_ic _ _) (sn_iconst (jm_dc dc_246_1 22 rfl) (by decide)) (
  jm_gc (pu_iload _ _) (sn_iload_n (i := 3) (jm_dc dc_246_1 23 rfl)) (
  jm_gc (pu_iload _ _) (sn_iload (jm_dc dc_246_1 24 rfl)) (
  jm_gn)))))))))))))))))))))))))
theorem dc_246_2 : ([(89, .invokevirtual 453, 3), (92, .ireturn, 1), (93, .iinc 4 1, 3), (96, .goto (-78), 3), (99, .iinc 3 1, 3), (102, .goto (-95), 3), (105, .iconst 0, 1), (106, .ireturn, 1)] : List (Nat × Instr × Nat)).all (fun e => decide (decode prog_14_method_78_code e.1 = .ok e.2)) = true := by decide +kernel
abbrev cl_246_2 : List (Nat × jm_O) := [(89, op_callV 11 245 4), (92, op_iret), (93, op_iinc 4 1), (96, op_goto 18), (99, op_iinc 3 1), (102, op_goto 7), (105, op_ic 0 1), (106, op_iret)]
set_option maxRecDepth 100000 in
theorem gl_246_2 : jm_gl "FrescoWallModel" prog_14_method_78_code 5 (Option.some Jvm.ClassFile.FieldType.int) false cl_246_2 :=
  jm_gc (pu_callV _ _ _) (sn_callV (jm_dc dc_246_2 0 rfl) lk_11_453) (
  jm_gc (pu_iret) (sn_iret (jm_dc dc_246_2 1 rfl) rfl) (
  jm_gc (pu_iinc _ _) (sn_iinc (jm_dc dc_246_2 2 rfl) (by decide)) (
  jm_gc (pu_goto _) (sn_goto (jm_dc dc_246_2 3 rfl) (by decide)) (
  jm_gc (pu_iinc _ _) (sn_iinc (jm_dc dc_246_2 4 rfl) (by decide)) (
  jm_gc (pu_goto _) (sn_goto (jm_dc dc_246_2 5 rfl) (by decide)) (
  jm_gc (pu_ic _ _) (sn_iconst (jm_dc dc_246_2 6 rfl) (by decide)) (
  jm_gc (pu_iret) (sn_iret (jm_dc dc_246_2 7 rfl) rfl) (
  jm_gn))))))))
theorem dc_247_0 : ([(0, .iconst 0, 1), (1, .istore_n 3, 1), (2, .iconst 0, 1), (3, .istore 4, 2), (5, .iload 4, 2), (7, .aload_n 0, 1), (8, .getfield 403, 3), (11, .if_icmp .ge 73, 3), (14, .iload_n 3, 1), (15, .ifCond .ne 57, 3), (18, .aload_n 0, 1), (19, .getfield 85, 3), (22, .iload 4, 2), (24, .baload, 1), (25, .ifCond .eq 51, 3), (28, .aload_n 0, 1), (29, .getfield 73, 3), (32, .iload 4, 2), (34, .iaload, 1), (35, .iload_n 1, 1), (36, .if_icmp .ne 14, 3), (39, .aload_n 0, 1), (40, .getfield 76, 3), (43, .iload 4, 2), (45, .iaload, 1)] : List (Nat × Instr × Nat)).all (fun e => decide (decode prog_14_method_79_code e.1 = .ok e.2)) = true := by decide +kernel
abbrev cl_247_0 : List (Nat × jm_O) := [(0, op_ic 0 1), (1, op_istore 3 1), (2, op_ic 0 1), (3, op_istore 4 2), (5, op_iload 4 2), (7, op_aload 0 1), (8, op_getI 11 24), (11, op_cge 84), (14, op_iload 3 1), (15, op_ifne 72), (18, op_aload 0 1), (19, op_getA 11 29), (22, op_iload 4 2), (24, op_iald 15), (25, op_ifeq 76), (28, op_aload 0 1), (29, op_getA 11 25), (32, op_iload 4 2), (34, op_iald 13), (35, op_iload 1 1), (36, op_cne 50), (39, op_aload 0 1), (40, op_getA 11 26), (43, op_iload 4 2), (45, op_iald 13)]
set_option maxRecDepth 100000 in
theorem gl_247_0 : jm_gl "FrescoWallModel" prog_14_method_79_code 5 (Option.some Jvm.ClassFile.FieldType.boolean) false cl_247_0 :=
  jm_gc (pu_ic _ _) (sn_iconst (jm_dc dc_247_0 0 rfl) (by decide)) (
  jm_gc (pu_istore _ _) (sn_istore_n (i := 3) (jm_dc dc_247_0 1 rfl)) (
  jm_gc (pu_ic _ _) (sn_iconst (jm_dc dc_247_0 2 rfl) (by decide)) (
  jm_gc (pu_istore _ _) (sn_istore (jm_dc dc_247_0 3 rfl)) (
  jm_gc (pu_iload _ _) (sn_iload (jm_dc dc_247_0 4 rfl)) (
  jm_gc (pu_aload _ _) (sn_aload_n (i := 0) (jm_dc dc_247_0 5 rfl)) (
  jm_gc (pu_getI _ _) (sn_getI (jm_dc dc_247_0 6 rfl) fl_11_403 (Or.inl rfl)) (
  jm_gc (pu_cge _) (sn_cge (jm_dc dc_247_0 7 rfl) (by decide)) (
  jm_gc (pu_iload _ _) (sn_iload_n (i := 3) (jm_dc dc_247_0 8 rfl)) (
  jm_gc (pu_ifne _) (sn_ifne (jm_dc dc_247_0 9 rfl) (by decide)) (
  jm_gc (pu_aload _ _) (sn_aload_n (i := 0) (jm_dc dc_247_0 10 rfl)) (
  jm_gc (pu_getA _ _) (sn_getA (jm_dc dc_247_0 11 rfl) fl_11_85 rfl) (
  jm_gc (pu_iload _ _) (sn_iload (jm_dc dc_247_0 12 rfl)) (
  jm_gc (pu_iald _) (sn_zald (jm_dc dc_247_0 13 rfl)) (
  jm_gc (pu_ifeq _) (sn_ifeq (jm_dc dc_247_0 14 rfl) (by decide)) (
  jm_gc (pu_aload _ _) (sn_aload_n (i := 0) (jm_dc dc_247_0 15 rfl)) (
  jm_gc (pu_getA _ _) (sn_getA (jm_dc dc_247_0 16 rfl) fl_11_73 rfl) (
  jm_gc (pu_iload _ _) (sn_iload (jm_dc dc_247_0 17 rfl)) (
  jm_gc (pu_iald _) (sn_iald (jm_dc dc_247_0 18 rfl)) (
  jm_gc (pu_iload _ _) (sn_iload_n (i := 1) (jm_dc dc_247_0 19 rfl)) (
  jm_gc (pu_cne _) (sn_cne (jm_dc dc_247_0 20 rfl) (by decide)) (
  jm_gc (pu_aload _ _) (sn_aload_n (i := 0) (jm_dc dc_247_0 21 rfl)) (
  jm_gc (pu_getA _ _) (sn_getA (jm_dc dc_247_0 22 rfl) fl_11_76 rfl) (
  jm_gc (pu_iload _ _) (sn_iload (jm_dc dc_247_0 23 rfl)) (
  jm_gc (pu_iald _) (sn_iald (jm_dc dc_247_0 24 rfl)) (
  jm_gn)))))))))))))))))))))))))
theorem dc_247_1 : ([(46, .iload_n 2, 1), (47, .if_icmp .eq 25, 3), (50, .aload_n 0, 1), (51, .getfield 79, 3), (54, .iload 4, 2), (56, .iaload, 1), (57, .iload_n 1, 1), (58, .if_icmp .ne 18, 3), (61, .aload_n 0, 1), (62, .getfield 82, 3), (65, .iload 4, 2), (67, .iaload, 1), (68, .iload_n 2, 1), (69, .if_icmp .ne 7, 3), (72, .iconst 1, 1), (73, .goto 4, 3), (76, .iconst 0, 1), (77, .istore_n 3, 1), (78, .iinc 4 1, 3), (81, .goto (-76), 3), (84, .iload_n 3, 1), (85, .ireturn, 1)] : List (Nat × Instr × Nat)).all (fun e => decide (decode prog_14_method_79_code e.1 = .ok e.2)) = true := by decide +kernel
abbrev cl_247_1 : List (Nat × jm_O) := [(46, op_iload 2 1), (47, op_ceq 72), (50, op_aload 0 1), (51, op_getA 11 27), (54, op_iload 4 2), (56, op_iald 13), (57, op_iload 1 1), (58, op_cne 76), (61, op_aload 0 1), (62, op_getA 11 28), (65, op_iload 4 2), (67, op_iald 13), (68, op_iload 2 1), (69, op_cne 76), (72, op_ic 1 1), (73, op_goto 77), (76, op_ic 0 1), (77, op_istore 3 1), (78, op_iinc 4 1), (81, op_goto 5), (84, op_iload 3 1), (85, op_zret)]
set_option maxRecDepth 100000 in
theorem gl_247_1 : jm_gl "FrescoWallModel" prog_14_method_79_code 5 (Option.some Jvm.ClassFile.FieldType.boolean) false cl_247_1 :=
  jm_gc (pu_iload _ _) (sn_iload_n (i := 2) (jm_dc dc_247_1 0 rfl)) (
  jm_gc (pu_ceq _) (sn_ceq (jm_dc dc_247_1 1 rfl) (by decide)) (
  jm_gc (pu_aload _ _) (sn_aload_n (i := 0) (jm_dc dc_247_1 2 rfl)) (
  jm_gc (pu_getA _ _) (sn_getA (jm_dc dc_247_1 3 rfl) fl_11_79 rfl) (
  jm_gc (pu_iload _ _) (sn_iload (jm_dc dc_247_1 4 rfl)) (
  jm_gc (pu_iald _) (sn_iald (jm_dc dc_247_1 5 rfl)) (
  jm_gc (pu_iload _ _) (sn_iload_n (i := 1) (jm_dc dc_247_1 6 rfl)) (
  jm_gc (pu_cne _) (sn_cne (jm_dc dc_247_1 7 rfl) (by decide)) (
  jm_gc (pu_aload _ _) (sn_aload_n (i := 0) (jm_dc dc_247_1 8 rfl)) (
  jm_gc (pu_getA _ _) (sn_getA (jm_dc dc_247_1 9 rfl) fl_11_82 rfl) (
  jm_gc (pu_iload _ _) (sn_iload (jm_dc dc_247_1 10 rfl)) (
  jm_gc (pu_iald _) (sn_iald (jm_dc dc_247_1 11 rfl)) (
  jm_gc (pu_iload _ _) (sn_iload_n (i := 2) (jm_dc dc_247_1 12 rfl)) (
  jm_gc (pu_cne _) (sn_cne (jm_dc dc_247_1 13 rfl) (by decide)) (
  jm_gc (pu_ic _ _) (sn_iconst (jm_dc dc_247_1 14 rfl) (by decide)) (
  jm_gc (pu_goto _) (sn_goto (jm_dc dc_247_1 15 rfl) (by decide)) (
  jm_gc (pu_ic _ _) (sn_iconst (jm_dc dc_247_1 16 rfl) (by decide)) (
  jm_gc (pu_istore _ _) (sn_istore_n (i := 3) (jm_dc dc_247_1 17 rfl)) (
  jm_gc (pu_iinc _ _) (sn_iinc (jm_dc dc_247_1 18 rfl) (by decide)) (
  jm_gc (pu_goto _) (sn_goto (jm_dc dc_247_1 19 rfl) (by decide)) (
  jm_gc (pu_iload _ _) (sn_iload_n (i := 3) (jm_dc dc_247_1 20 rfl)) (
  jm_gc (pu_zret) (sn_zret (jm_dc dc_247_1 21 rfl) rfl) (
  jm_gn))))))))))))))))))))))
theorem dc_248_0 : ([(0, .iconst 0, 1), (1, .istore_n 3, 1), (2, .iload_n 3, 1), (3, .aload_n 0, 1), (4, .getfield 215, 3), (7, .if_icmp .ge 134, 3), (10, .iconst 0, 1), (11, .istore 4, 2), (13, .iload 4, 2), (15, .aload_n 0, 1), (16, .getfield 215, 3), (19, .if_icmp .ge 116, 3), (22, .aload_n 0, 1), (23, .getfield 112, 3), (26, .iload_n 3, 1), (27, .iaload, 1), (28, .aload_n 0, 1), (29, .getfield 112, 3), (32, .iload_n 1, 1), (33, .iaload, 1), (34, .if_icmp .ne 101, 3), (37, .aload_n 0, 1), (38, .getfield 112, 3), (41, .iload 4, 2), (43, .iaload, 1)] : List (Nat × Instr × Nat)).all (fun e => decide (decode prog_14_method_80_code e.1 = .ok e.2)) = true := by decide +kernel
abbrev cl_248_0 : List (Nat × jm_O) := [(0, op_ic 0 1), (1, op_istore 3 1), (2, op_iload 3 1), (3, op_aload 0 1), (4, op_getI 11 3), (7, op_cge 141), (10, op_ic 0 1), (11, op_istore 4 2), (13, op_iload 4 2), (15, op_aload 0 1), (16, op_getI 11 3), (19, op_cge 135), (22, op_aload 0 1), (23, op_getA 11 45), (26, op_iload 3 1), (27, op_iald 13), (28, op_aload 0 1), (29, op_getA 11 45), (32, op_iload 1 1), (33, op_iald 13), (34, op_cne 135), (37, op_aload 0 1), (38, op_getA 11 45), (41, op_iload 4 2), (43, op_iald 13)]
set_option maxRecDepth 100000 in
theorem gl_248_0 : jm_gl "FrescoWallModel" prog_14_method_80_code 5 (Option.some Jvm.ClassFile.FieldType.int) false cl_248_0 :=
  jm_gc (pu_ic _ _) (sn_iconst (jm_dc dc_248_0 0 rfl) (by decide)) (
  jm_gc (pu_istore _ _) (sn_istore_n (i := 3) (jm_dc dc_248_0 1 rfl)) (
  jm_gc (pu_iload _ _) (sn_iload_n (i := 3) (jm_dc dc_248_0 2 rfl)) (
  jm_gc (pu_aload _ _) (sn_aload_n (i := 0) (jm_dc dc_248_0 3 rfl)) (
  jm_gc (pu_getI _ _) (sn_getI (jm_dc dc_248_0 4 rfl) fl_11_215 (Or.inl rfl)) (
  jm_gc (pu_cge _) (sn_cge (jm_dc dc_248_0 5 rfl) (by decide)) (
  jm_gc (pu_ic _ _) (sn_iconst (jm_dc dc_248_0 6 rfl) (by decide)) (
  jm_gc (pu_istore _ _) (sn_istore (jm_dc dc_248_0 7 rfl)) (
  jm_gc (pu_iload _ _) (sn_iload (jm_dc dc_248_0 8 rfl)) (
  jm_gc (pu_aload _ _) (sn_aload_n (i := 0) (jm_dc dc_248_0 9 rfl)) (
  jm_gc (pu_getI _ _) (sn_getI (jm_dc dc_248_0 10 rfl) fl_11_215 (Or.inl rfl)) (
  jm_gc (pu_cge _) (sn_cge (jm_dc dc_248_0 11 rfl) (by decide)) (
  jm_gc (pu_aload _ _) (sn_aload_n (i := 0) (jm_dc dc_248_0 12 rfl)) (
  jm_gc (pu_getA _ _) (sn_getA (jm_dc dc_248_0 13 rfl) fl_11_112 rfl) (
  jm_gc (pu_iload _ _) (sn_iload_n (i := 3) (jm_dc dc_248_0 14 rfl)) (
  jm_gc (pu_iald _) (sn_iald (jm_dc dc_248_0 15 rfl)) (
  jm_gc (pu_aload _ _) (sn_aload_n (i := 0) (jm_dc dc_248_0 16 rfl)) (
  jm_gc (pu_getA _ _) (sn_getA (jm_dc dc_248_0 17 rfl) fl_11_112 rfl) (
  jm_gc (pu_iload _ _) (sn_iload_n (i := 1) (jm_dc dc_248_0 18 rfl)) (
  jm_gc (pu_iald _) (sn_iald (jm_dc dc_248_0 19 rfl)) (
  jm_gc (pu_cne _) (sn_cne (jm_dc dc_248_0 20 rfl) (by decide)) (
  jm_gc (pu_aload _ _) (sn_aload_n (i := 0) (jm_dc dc_248_0 21 rfl)) (
  jm_gc (pu_getA _ _) (sn_getA (jm_dc dc_248_0 22 rfl) fl_11_112 rfl) (
  jm_gc (pu_iload _ _) (sn_iload (jm_dc dc_248_0 23 rfl)) (
  jm_gc (pu_iald _) (sn_iald (jm_dc dc_248_0 24 rfl)) (
  jm_gn)))))))))))))))))))))))))
theorem dc_248_1 : ([(44, .aload_n 0, 1), (45, .getfield 112, 3), (48, .iload_n 2, 1), (49, .iaload, 1), (50, .if_icmp .ne 79, 3), (53, .aload_n 0, 1), (54, .iload_n 3, 1), (55, .iload_n 1, 1), (56, .invokevirtual 456, 3), (59, .aload_n 0, 1), (60, .aload_n 0, 1), (61, .getfield 403, 3), (64, .invokevirtual 409, 3), (67, .aload_n 0, 1), (68, .iload_n 2, 1), (69, .iload 4, 2), (71, .invokevirtual 432, 3), (74, .aload_n 0, 1), (75, .iload_n 3, 1), (76, .iload 4, 2), (78, .aload_n 0, 1), (79, .getfield 384, 3), (82, .aload_n 0, 1), (83, .getfield 387, 3), (86, .aload_n 0, 1)] : List (Nat × Instr × Nat)).all (fun e => decide (decode prog_14_method_80_code e.1 = .ok e.2)) = true := by decide +kernel
abbrev cl_248_1 : List (Nat × jm_O) := [(44, op_aload 0 1), (45, op_getA 11 45), (48, op_iload 2 1), (49, op_iald 13), (50, op_cne 129), (53, op_aload 0 1), (54, op_iload 3 1), (55, op_iload 1 1), (56, op_callV 11 234 3), (59, op_aload 0 1), (60, op_aload 0 1), (61, op_getI 11 24), (64, op_callV 11 229 2), (67, op_aload 0 1), (68, op_iload 2 1), (69, op_iload 4 2), (71, op_callV 11 235 3), (74, op_aload 0 1), (75, op_iload 3 1), (76, op_iload 4 2), (78, op_aload 0 1), (79, op_getI 11 49), (82, op_aload 0 1), (83, op_getI 11 50), (86, op_aload 0 1)]
set_option maxRecDepth 100000 in
theorem gl_248_1 : jm_gl "FrescoWallModel" prog_14_method_80_code 5 (Option.some Jvm.ClassFile.FieldType.int) false cl_248_1 :=
  jm_gc (pu_aload _ _) (sn_aload_n (i := 0) (jm_dc dc_248_1 0 rfl)) (
  jm_gc (pu_getA _ _) (sn_getA (jm_dc dc_248_1 1 rfl) fl_11_112 rfl) (
  jm_gc (pu_iload _ _) (sn_iload_n (i := 2) (jm_dc dc_248_1 2 rfl)) (
  jm_gc (pu_iald _) (sn_iald (jm_dc dc_248_1 3 rfl)) (
  jm_gc (pu_cne _) (sn_cne (jm_dc dc_248_1 4 rfl) (by decide)) (
  jm_gc (pu_aload _ _) (sn_aload_n (i := 0) (jm_dc dc_248_1 5 rfl)) (
  jm_gc (pu_iload _ _) (sn_iload_n (i := 3) (jm_dc dc_248_1 6 rfl)) (
  jm_gc (pu_iload _ _) (sn_iload_n (i := 1) (jm_dc dc_248_1 7 rfl)) (
  jm_gc (pu_callV _ _ _) (sn_callV (jm_dc dc_248_1 8 rfl) lk_11_456) (
  jm_gc (pu_aload _ _) (sn_aload_n (i := 0) (jm_dc dc_248_1 9 rfl)) (
  jm_gc (pu_aload _ _) (sn_aload_n (i := 0) (jm_dc dc_248_1 10 rfl)) (
  jm_gc (pu_getI _ _) (sn_getI (jm_dc dc_248_1 11 rfl) fl_11_403 (Or.inl rfl)) (
  jm_gc (pu_callV _ _ _) (sn_callV (jm_dc dc_248_1 12 rfl) lk_11_409) (
  jm_gc (pu_aload _ _) (sn_aload_n (i := 0) (jm_dc dc_248_1 13 rfl)) (
  jm_gc (pu_iload _ _) (sn_iload_n (i := 2) (jm_dc dc_248_1 14 rfl)) (
  jm_gc (pu_iload _ _) (sn_iload (jm_dc dc_248_1 15 rfl)) (
  jm_gc (pu_callV _ _ _) (sn_callV (jm_dc dc_248_1 16 rfl) lk_11_432) (
  jm_gc (pu_aload _ _) (sn_aload_n (i := 0) (jm_dc dc_248_1 17 rfl)) (
  jm_gc (pu_iload _ _) (sn_iload_n (i := 3) (jm_dc dc_248_1 18 rfl)) (
  jm_gc (pu_iload _ _) (sn_iload (jm_dc dc_248_1 19 rfl)) (
  jm_gc (pu_aload _ _) (sn_aload_n (i := 0) (jm_dc dc_248_1 20 rfl)) (
  jm_gc (pu_getI _ _) (sn_getI (jm_dc dc_248_1 21 rfl) fl_11_384 (Or.inl rfl)) (
  jm_gc (pu_aload _ _) (sn_aload_n (i := 0) (jm_dc dc_248_1 22 rfl)) (
  jm_gc (pu_getI _ _) (sn_getI (jm_dc dc_248_1 23 rfl) fl_11_387 (Or.inl rfl)) (
  jm_gc (pu_aload _ _) (sn_aload_n (i := 0) (jm_dc dc_248_1 24 rfl)) (
  jm_gn)))))))))))))))))))))))))
theorem dc_248_2 : ([(87, .getfield 390, 3), (90, .invokevirtual 350, 3), (93, .aload_n 0, 1), (94, .getfield 354, 3), (97, .if_icmp .le 32, 3), (100, .aload_n 0, 1), (101, .iconst 0, 1), (102, .putfield 426, 3), (105, .aload_n 0, 1), (106, .iload_n 3, 1), (107, .iload_n 1, 1), (108, .iconst 0, 1), (109, .invokevirtual 459, 3), (112, .aload_n 0, 1), (113, .iload_n 2, 1), (114, .iload 4, 2), (116, .iconst 0, 1), (117, .invokevirtual 459, 3), (120, .aload_n 0, 1), (121, .iconst 2, 1), (122, .iload_n 3, 1), (123, .iload 4, 2), (125, .invokevirtual 453, 3), (128, .ireturn, 1), (129, .iinc 4 1, 3)] : List (Nat × Instr × Nat)).all (fun e => decide (decode prog_14_method_80_code e.1 = .ok e.2)) = true := by decide +kernel
abbrev cl_248_2 : List (Nat × jm_O) := [(87, op_getI 11 51), (90, op_callV 11 207 6), (93, op_aload 0 1), (94, op_getI 11 20), (97, op_cle 129), (100, op_aload 0 1), (101, op_ic 0 1), (102, op_putI 11 55), (105, op_aload 0 1), (106, op_iload 3 1), (107, op_iload 1 1), (108, op_ic 0 1), (109, op_callV 11 238 4), (112, op_aload 0 1), (113, op_iload 2 1), (114, op_iload 4 2), (116, op_ic 0 1), (117, op_callV 11 238 4), (120, op_aload 0 1), (121, op_ic 2 1), (122, op_iload 3 1), (123, op_iload 4 2), (125, op_callV 11 245 4), (128, op_iret), (129, op_iinc 4 1)]
set_option maxRecDepth 100000 in
theorem gl_248_2 : jm_gl "FrescoWallModel" prog_14_method_80_code 5 (Option.some Jvm.ClassFile.FieldType.int) false cl_248_2 :=
  jm_gc (pu_getI _ _) (sn_getI (jm_dc dc_248_2 0 rfl) fl_11_390 (Or.inl rfl)) (
  jm_gc (pu_callV _ _ _) (sn_callV (jm_dc dc_248_2 1 rfl) lk_11_350) (
  jm_gc (pu_aload _ _) (sn_aload_n (i := 0) (jm_dc dc_248_2 2 rfl)) (
  jm_gc (pu_getI _ _) (sn_getI (jm_dc dc_248_2 3 rfl) fl_11_354 (Or.inl rfl)) (
  jm_gc (pu_cle _) (sn_cle (jm_dc dc_248_2 4 rfl) (by decide)) (
  jm_gc (pu_aload _ _) (sn_aload_n (i := 0) (jm_dc dc_248_2 5 rfl)) (
  jm_gc (pu_ic _ _) (sn_iconst (jm_dc dc_248_2 6 rfl) (by decide)) (
  jm_gc (pu_putI _ _) (sn_putI (jm_dc dc_248_2 7 rfl) flw_11_426 rfl) (
  jm_gc (pu_aload _ _) (sn_aload_n (i := 0) (jm_dc dc_248_2 8 rfl)) (
  jm_gc (pu_iload _ _) (sn_iload_n (i := 3) (jm_dc dc_248_2 9 rfl)) (
  jm_gc (pu_iload _ _) (sn_iload_n (i := 1) (jm_dc dc_248_2 10 rfl)) (
  jm_gc (pu_ic _ _) (sn_iconst (jm_dc dc_248_2 11 rfl) (by decide)) (
  jm_gc (pu_callV _ _ _) (sn_callV (jm_dc dc_248_2 12 rfl) lk_11_459) (
  jm_gc (pu_aload _ _) (sn_aload_n (i := 0) (jm_dc dc_248_2 13 rfl)) (
  jm_gc (pu_iload _ _) (sn_iload_n (i := 2) (jm_dc dc_248_2 14 rfl)) (
  jm_gc (pu_iload _ _) (sn_iload (jm_dc dc_248_2 15 rfl)) (
  jm_gc (pu_ic _ _) (sn_iconst (jm_dc dc_248_2 16 rfl) (by decide)) (
  jm_gc (pu_callV _ _ _) (sn_callV (jm_dc dc_248_2 17 rfl) lk_11_459) (
  jm_gc (pu_aload _ _) (sn_aload_n (i := 0) (jm_dc dc_248_2 18 rfl)) (
  jm_gc (pu_ic _ _) (sn_iconst (jm_dc dc_248_2 19 rfl) (by decide)) (
  jm_gc (pu_iload _ _) (sn_iload_n (i := 3) (jm_dc dc_248_2 20 rfl)) (
  jm_gc (pu_iload _ _) (sn_iload (jm_dc dc_248_2 21 rfl)) (
  jm_gc (pu_callV _ _ _) (sn_callV (jm_dc dc_248_2 22 rfl) lk_11_453) (
  jm_gc (pu_iret) (sn_iret (jm_dc dc_248_2 23 rfl) rfl) (
  jm_gc (pu_iinc _ _) (sn_iinc (jm_dc dc_248_2 24 rfl) (by decide)) (
  jm_gn)))))))))))))))))))))))))
theorem dc_248_3 : ([(132, .goto (-119), 3), (135, .iinc 3 1, 3), (138, .goto (-136), 3), (141, .iconst 0, 1), (142, .ireturn, 1)] : List (Nat × Instr × Nat)).all (fun e => decide (decode prog_14_method_80_code e.1 = .ok e.2)) = true := by decide +kernel
abbrev cl_248_3 : List (Nat × jm_O) := [(132, op_goto 13), (135, op_iinc 3 1), (138, op_goto 2), (141, op_ic 0 1), (142, op_iret)]
set_option maxRecDepth 100000 in
theorem gl_248_3 : jm_gl "FrescoWallModel" prog_14_method_80_code 5 (Option.some Jvm.ClassFile.FieldType.int) false cl_248_3 :=
  jm_gc (pu_goto _) (sn_goto (jm_dc dc_248_3 0 rfl) (by decide)) (
  jm_gc (pu_iinc _ _) (sn_iinc (jm_dc dc_248_3 1 rfl) (by decide)) (
  jm_gc (pu_goto _) (sn_goto (jm_dc dc_248_3 2 rfl) (by decide)) (
  jm_gc (pu_ic _ _) (sn_iconst (jm_dc dc_248_3 3 rfl) (by decide)) (
  jm_gc (pu_iret) (sn_iret (jm_dc dc_248_3 4 rfl) rfl) (
  jm_gn)))))
theorem dc_249_0 : ([(0, .aload_n 0, 1), (1, .aload_n 0, 1), (2, .getfield 112, 3), (5, .iload_n 1, 1), (6, .iaload, 1), (7, .invokevirtual 429, 3), (10, .istore_n 3, 1), (11, .aload_n 0, 1), (12, .aload_n 0, 1), (13, .getfield 112, 3), (16, .iload_n 2, 1), (17, .iaload, 1), (18, .invokevirtual 429, 3), (21, .istore 4, 2), (23, .iload_n 3, 1), (24, .iconst (-1), 1), (25, .if_icmp .ne 11, 3), (28, .iload 4, 2), (30, .iconst (-1), 1), (31, .if_icmp .ne 5, 3), (34, .iconst 0, 1), (35, .ireturn, 1), (36, .aload_n 0, 1), (37, .invokevirtual 463, 3), (40, .iload_n 3, 1)] : List (Nat × Instr × Nat)).all (fun e => decide (decode prog_14_method_81_code e.1 = .ok e.2)) = true := by decide +kernel
abbrev cl_249_0 : List (Nat × jm_O) := [(0, op_aload 0 1), (1, op_aload 0 1), (2, op_getA 11 45), (5, op_iload 1 1), (6, op_iald 13), (7, op_callV 11 239 2), (10, op_istore 3 1), (11, op_aload 0 1), (12, op_aload 0 1), (13, op_getA 11 45), (16, op_iload 2 1), (17, op_iald 13), (18, op_callV 11 239 2), (21, op_istore 4 2), (23, op_iload 3 1), (24, op_ic (-1) 1), (25, op_cne 36), (28, op_iload 4 2), (30, op_ic (-1) 1), (31, op_cne 36), (34, op_ic 0 1), (35, op_iret), (36, op_aload 0 1), (37, op_callV 11 242 1), (40, op_iload 3 1)]
set_option maxRecDepth 100000 in
theorem gl_249_0 : jm_gl "FrescoWallModel" prog_14_method_81_code 5 (Option.some Jvm.ClassFile.FieldType.int) false cl_249_0 :=
  jm_gc (pu_aload _ _) (sn_aload_n (i := 0) (jm_dc dc_249_0 0 rfl)) (
  jm_gc (pu_aload _ _) (sn_aload_n (i := 0) (jm_dc dc_249_0 1 rfl)) (
  jm_gc (pu_getA _ _) (sn_getA (jm_dc dc_249_0 2 rfl) fl_11_112 rfl) (
  jm_gc (pu_iload _ _) (sn_iload_n (i := 1) (jm_dc dc_249_0 3 rfl)) (
  jm_gc (pu_iald _) (sn_iald (jm_dc dc_249_0 4 rfl)) (
  jm_gc (pu_callV _ _ _) (sn_callV (jm_dc dc_249_0 5 rfl) lk_11_429) (
  jm_gc (pu_istore _ _) (sn_istore_n (i := 3) (jm_dc dc_249_0 6 rfl)) (
  jm_gc (pu_aload _ _) (sn_aload_n (i := 0) (jm_dc dc_249_0 7 rfl)) (
  jm_gc (pu_aload _ _) (sn_aload_n (i := 0) (jm_dc dc_249_0 8 rfl)) (
  jm_gc (pu_getA _ _) (sn_getA (jm_dc dc_249_0 9 rfl) fl_11_112 rfl) (
  jm_gc (pu_iload _ _) (sn_iload_n (i := 2) (jm_dc dc_249_0 10 rfl)) (
  jm_gc (pu_iald _) (sn_iald (jm_dc dc_249_0 11 rfl)) (
  jm_gc (pu_callV _ _ _) (sn_callV (jm_dc dc_249_0 12 rfl) lk_11_429) (
  jm_gc (pu_istore _ _) (sn_istore (jm_dc dc_249_0 13 rfl)) (
  jm_gc (pu_iload _ _) (sn_iload_n (i := 3) (jm_dc dc_249_0 14 rfl)) (
  jm_gc (pu_ic _ _) (sn_iconst (jm_dc dc_249_0 15 rfl) (by decide)) (
  jm_gc (pu_cne _) (sn_cne (jm_dc dc_249_0 16 rfl) (by decide)) (
  jm_gc (pu_iload _ _) (sn_iload (jm_dc dc_249_0 17 rfl)) (
  jm_gc (pu_ic _ _) (sn_iconst (jm_dc dc_249_0 18 rfl) (by decide)) (
  jm_gc (pu_cne _) (sn_cne (jm_dc dc_249_0 19 rfl) (by decide)) (
  jm_gc (pu_ic _ _) (sn_iconst (jm_dc dc_249_0 20 rfl) (by decide)) (
  jm_gc (pu_iret) (sn_iret (jm_dc dc_249_0 21 rfl) rfl) (
  jm_gc (pu_aload _ _) (sn_aload_n (i := 0) (jm_dc dc_249_0 22 rfl)) (
  jm_gc (pu_callV _ _ _) (sn_callV (jm_dc dc_249_0 23 rfl) lk_11_463) (
  jm_gc (pu_iload _ _) (sn_iload_n (i := 3) (jm_dc dc_249_0 24 rfl)) (
  jm_gn)))))))))))))))))))))))))
theorem dc_249_1 : ([(41, .iconst (-1), 1), (42, .if_icmp .eq 95, 3), (45, .iload 4, 2), (47, .iconst (-1), 1), (48, .if_icmp .eq 89, 3), (51, .aload_n 0, 1), (52, .aload_n 0, 1), (53, .getfield 133, 3), (56, .iload_n 1, 1), (57, .iaload, 1), (58, .aload_n 0, 1), (59, .getfield 136, 3), (62, .iload_n 1, 1), (63, .iaload, 1), (64, .aload_n 0, 1), (65, .getfield 139, 3), (68, .iload_n 1, 1), (69, .iaload, 1), (70, .invokevirtual 393, 3), (73, .aload_n 0, 1), (74, .aload_n 0, 1), (75, .getfield 403, 3), (78, .invokevirtual 409, 3), (81, .aload_n 0, 1), (82, .aload_n 0, 1)] : List (Nat × Instr × Nat)).all (fun e => decide (decode prog_14_method_81_code e.1 = .ok e.2)) = true := by decide +kernel
abbrev cl_249_1 : List (Nat × jm_O) := [(41, op_ic (-1) 1), (42, op_ceq 137), (45, op_iload 4 2), (47, op_ic (-1) 1), (48, op_ceq 137), (51, op_aload 0 1), (52, op_aload 0 1), (53, op_getA 11 56), (56, op_iload 1 1), (57, op_iald 13), (58, op_aload 0 1), (59, op_getA 11 57), (62, op_iload 1 1), (63, op_iald 13), (64, op_aload 0 1), (65, op_getA 11 58), (68, op_iload 1 1), (69, op_iald 13), (70, op_callV 11 225 4), (73, op_aload 0 1), (74, op_aload 0 1), (75, op_getI 11 24), (78, op_callV 11 229 2), (81, op_aload 0 1), (82, op_aload 0 1)]
set_option maxRecDepth 100000 in
theorem gl_249_1 : jm_gl "FrescoWallModel" prog_14_method_81_code 5 (Option.some Jvm.ClassFile.FieldType.int) false cl_249_1 :=
  jm_gc (pu_ic _ _) (sn_iconst (jm_dc dc_249_1 0 rfl) (by decide)) (
  jm_gc (pu_ceq _) (sn_ceq (jm_dc dc_249_1 1 rfl) (by decide)) (
  jm_gc (pu_iload _ _) (sn_iload (jm_dc dc_249_1 2 rfl)) (
  jm_gc (pu_ic _ _) (sn_iconst (jm_dc dc_249_1 3 rfl) (by decide)) (
  jm_gc (pu_ceq _) (sn_ceq (jm_dc dc_249_1 4 rfl) (by decide)) (
  jm_gc (pu_aload _ _) (sn_aload_n (i := 0) (jm_dc dc_249_1 5 rfl)) (
  jm_gc (pu_aload _ _) (sn_aload_n (i := 0) (jm_dc dc_249_1 6 rfl)) (
  jm_gc (pu_getA _ _) (sn_getA (jm_dc dc_249_1 7 rfl) fl_11_133 rfl) (
  jm_gc (pu_iload _ _) (sn_iload_n (i := 1) (jm_dc dc_249_1 8 rfl)) (
  jm_gc (pu_iald _) (sn_iald (jm_dc dc_249_1 9 rfl)) (
  jm_gc (pu_aload _ _) (sn_aload_n (i := 0) (jm_dc dc_249_1 10 rfl)) (
  jm_gc (pu_getA _ _) (sn_getA (jm_dc dc_249_1 11 rfl) fl_11_136 rfl) (
  jm_gc (pu_iload _ _) (sn_iload_n (i := 1) (jm_dc dc_249_1 12 rfl)) (
  jm_gc (pu_iald _) (sn_iald (jm_dc dc_249_1 13 rfl)) (
  jm_gc (pu_aload _ _) (sn_aload_n (i := 0) (jm_dc dc_249_1 14 rfl)) (
  jm_gc (pu_getA _ _) (sn_getA (jm_dc dc_249_1 15 rfl) fl_11_139 rfl) (
  jm_gc (pu_iload _ _) (sn_iload_n (i := 1) (jm_dc dc_249_1 16 rfl)) (
  jm_gc (pu_iald _) (sn_iald (jm_dc dc_249_1 17 rfl)) (
  jm_gc (pu_callV _ _ _) (sn_callV (jm_dc dc_249_1 18 rfl) lk_11_393) (
  jm_gc (pu_aload _ _) (sn_aload_n (i := 0) (jm_dc dc_249_1 19 rfl)) (
  jm_gc (pu_aload _ _) (sn_aload_n (i := 0) (jm_dc dc_249_1 20 rfl)) (
  jm_gc (pu_getI _ _) (sn_getI (jm_dc dc_249_1 21 rfl) fl_11_403 (Or.inl rfl)) (
  jm_gc (pu_callV _ _ _) (sn_callV (jm_dc dc_249_1 22 rfl) lk_11_409) (
  jm_gc (pu_aload _ _) (sn_aload_n (i := 0) (jm_dc dc_249_1 23 rfl)) (
  jm_gc (pu_aload _ _) (sn_aload_n (i := 0) (jm_dc dc_249_1 24 rfl)) (
  jm_gn)))))))))))))))))))))))))
theorem dc_249_2 : ([(83, .getfield 133, 3), (86, .iload_n 2, 1), (87, .iaload, 1), (88, .aload_n 0, 1), (89, .getfield 136, 3), (92, .iload_n 2, 1), (93, .iaload, 1), (94, .aload_n 0, 1), (95, .getfield 139, 3), (98, .iload_n 2, 1), (99, .iaload, 1), (100, .invokevirtual 466, 3), (103, .ifCond .eq 5, 3), (106, .iconst 0, 1), (107, .ireturn, 1), (108, .aload_n 0, 1), (109, .iconst 0, 1), (110, .putfield 426, 3), (113, .aload_n 0, 1), (114, .iload_n 3, 1), (115, .iload_n 1, 1), (116, .iconst 0, 1), (117, .invokevirtual 459, 3), (120, .aload_n 0, 1), (121, .iload_n 2, 1)] : List (Nat × Instr × Nat)).all (fun e => decide (decode prog_14_method_81_code e.1 = .ok e.2)) = true := by decide +kernel
abbrev cl_249_2 : List (Nat × jm_O) := [(83, op_getA 11 56), (86, op_iload 2 1), (87, op_iald 13), (88, op_aload 0 1), (89, op_getA 11 57), (92, op_iload 2 1), (93, op_iald 13), (94, op_aload 0 1), (95, op_getA 11 58), (98, op_iload 2 1), (99, op_iald 13), (100, op_callV 11 228 4), (103, op_ifeq 108), (106, op_ic 0 1), (107, op_iret), (108, op_aload 0 1), (109, op_ic 0 1), (110, op_putI 11 55), (113, op_aload 0 1), (114, op_iload 3 1), (115, op_iload 1 1), (116, op_ic 0 1), (117, op_callV 11 238 4), (120, op_aload 0 1), (121, op_iload 2 1)]
set_option maxRecDepth 100000 in
theorem gl_249_2 : jm_gl "FrescoWallModel" prog_14_method_81_code 5 (Option.some Jvm.ClassFile.FieldType.int) false cl_249_2 :=
  jm_gc (pu_getA _ _) (sn_getA (jm_dc dc_249_2 0 rfl) fl_11_133 rfl) (
  jm_gc (pu_iload _ _) (sn_iload_n (i := 2) (jm_dc dc_249_2 1 rfl)) (
  jm_gc (pu_iald _) (sn_iald (jm_dc dc_249_2 2 rfl)) (
  jm_gc (pu_aload _ _) (sn_aload_n (i := 0) (jm_dc dc_249_2 3 rfl)) (
  jm_gc (pu_getA _ _) (sn_getA (jm_dc dc_249_2 4 rfl) fl_11_136 rfl) (
  jm_gc (pu_iload _ _) (sn_iload_n (i := 2) (jm_dc dc_249_2 5 rfl)) (
  jm_gc (pu_iald _) (sn_iald (jm_dc dc_249_2 6 rfl)) (
  jm_gc (pu_aload _ _) (sn_aload_n (i := 0) (jm_dc dc_249_2 7 rfl)) (
  jm_gc (pu_getA _ _) (sn_getA (jm_dc dc_249_2 8 rfl) fl_11_139 rfl) (
  jm_gc (pu_iload _ _) (sn_iload_n (i := 2) (jm_dc dc_249_2 9 rfl)) (
  jm_gc (pu_iald _) (sn_iald (jm_dc dc_249_2 10 rfl)) (
  jm_gc (pu_callV _ _ _) (sn_callV (jm_dc dc_249_2 11 rfl) lk_11_466) (
  jm_gc (pu_ifeq _) (sn_ifeq (jm_dc dc_249_2 12 rfl) (by decide)) (
  jm_gc (pu_ic _ _) (sn_iconst (jm_dc dc_249_2 13 rfl) (by decide)) (
  jm_gc (pu_iret) (sn_iret (jm_dc dc_249_2 14 rfl) rfl) (
  jm_gc (pu_aload _ _) (sn_aload_n (i := 0) (jm_dc dc_249_2 15 rfl)) (
  jm_gc (pu_ic _ _) (sn_iconst (jm_dc dc_249_2 16 rfl) (by decide)) (
  jm_gc (pu_putI _ _) (sn_putI (jm_dc dc_249_2 17 rfl) flw_11_426 rfl) (
  jm_gc (pu_aload _ _) (sn_aload_n (i := 0) (jm_dc dc_249_2 18 rfl)) (
  jm_gc (pu_iload _ _) (sn_iload_n (i := 3) (jm_dc dc_249_2 19 rfl)) (
  jm_gc (pu_iload _ _) (sn_iload_n (i := 1) (jm_dc dc_249_2 20 rfl)) (
  jm_gc (pu_ic _ _) (sn_iconst (jm_dc dc_249_2 21 rfl) (by decide)) (
  jm_gc (pu_callV _ _ _) (sn_callV (jm_dc dc_249_2 22 rfl) lk_11_459) (
  jm_gc (pu_aload _ _) (sn_aload_n (i := 0) (jm_dc dc_249_2 23 rfl)) (
  jm_gc (pu_iload _ _) (sn_iload_n (i := 2) (jm_dc dc_249_2 24 rfl)) (
  jm_gn)))))))))))))))))))))))))
theorem dc_249_3 : ([(122, .iload 4, 2), (124, .iconst 0, 1), (125, .invokevirtual 459, 3), (128, .aload_n 0, 1), (129, .iconst 3, 1), (130, .iload_n 3, 1), (131, .iload 4, 2), (133, .invokevirtual 453, 3), (136, .ireturn, 1), (137, .iload_n 3, 1), (138, .iconst (-1), 1), (139, .if_icmp .eq 67, 3), (142, .aload_n 0, 1), (143, .aload_n 0, 1), (144, .getfield 133, 3), (147, .iload_n 1, 1), (148, .iaload, 1), (149, .aload_n 0, 1), (150, .getfield 136, 3), (153, .iload_n 1, 1), (154, .iaload, 1), (155, .aload_n 0, 1), (156, .getfield 139, 3), (159, .iload_n 1, 1), (160, .iaload, 1)] : List (Nat × Instr × Nat)).all (fun e => decide (decode prog_14_method_81_code e.1 = .ok e.2)) = true := by decide +kernel
abbrev cl_249_3 : List (Nat × jm_O) := [(122, op_iload 4 2), (124, op_ic 0 1), (125, op_callV 11 238 4), (128, op_aload 0 1), (129, op_ic 3 1), (130, op_iload 3 1), (131, op_iload 4 2), (133, op_callV 11 245 4), (136, op_iret), (137, op_iload 3 1), (138, op_ic (-1) 1), (139, op_ceq 206), (142, op_aload 0 1), (143, op_aload 0 1), (144, op_getA 11 56), (147, op_iload 1 1), (148, op_iald 13), (149, op_aload 0 1), (150, op_getA 11 57), (153, op_iload 1 1), (154, op_iald 13), (155, op_aload 0 1), (156, op_getA 11 58), (159, op_iload 1 1), (160, op_iald 13)]
set_option maxRecDepth 100000 in
theorem gl_249_3 : jm_gl "FrescoWallModel" prog_14_method_81_code 5 (Option.some Jvm.ClassFile.FieldType.int) false cl_249_3 :=
  jm_gc (pu_iload _ _) (sn_iload (jm_dc dc_249_3 0 rfl)) (
  jm_gc (pu_ic _ _) (sn_iconst (jm_dc dc_249_3 1 rfl) (by decide)) (
  jm_gc (pu_callV _ _ _) (sn_callV (jm_dc dc_249_3 2 rfl) lk_11_459) (
  jm_gc (pu_aload _ _) (sn_aload_n (i := 0) (jm_dc dc_249_3 3 rfl)) (
  jm_gc (pu_ic _ _) (sn_iconst (jm_dc dc_249_3 4 rfl) (by decide)) (
  jm_gc (pu_iload _ _) (sn_iload_n (i := 3) (jm_dc dc_249_3 5 rfl)) (
  jm_gc (pu_iload _ _) (sn_iload (jm_dc dc_249_3 6 rfl)) (
  jm_gc (pu_callV _ _ _) (sn_callV (jm_dc dc_249_3 7 rfl) lk_11_453) (
  jm_gc (pu_iret) (sn_iret (jm_dc dc_249_3 8 rfl) rfl) (
  jm_gc (pu_iload _ _) (sn_iload_n (i := 3) (jm_dc dc_249_3 9 rfl)) (
  jm_gc (pu_ic _ _) (sn_iconst (jm_dc dc_249_3 10 rfl) (by decide)) (
  jm_gc (pu_ceq _) (sn_ceq (jm_dc dc_249_3 11 rfl) (by decide)) (
  jm_gc (pu_aload _ _) (sn_aload_n (i := 0) (jm_dc dc_249_3 12 rfl)) (
  jm_gc (pu_aload _ _) (sn_aload_n (i := 0) (jm_dc dc_249_3 13 rfl)) (
  jm_gc (pu_getA _ _) (sn_getA (jm_dc dc_249_3 14 rfl) fl_11_133 rfl) (
  jm_gc (pu_iload _ _) (sn_iload_n (i := 1) (jm_dc dc_249_3 15 rfl)) (
  jm_gc (pu_iald _) (sn_iald (jm_dc dc_249_3 16 rfl)) (
  jm_gc (pu_aload _ _) (sn_aload_n (i := 0) (jm_dc dc_249_3 17 rfl)) (
  jm_gc (pu_getA _ _) (sn_getA (jm_dc dc_249_3 18 rfl) fl_11_136 rfl) (
  jm_gc (pu_iload _ _) (sn_iload_n (i := 1) (jm_dc dc_249_3 19 rfl)) (
  jm_gc (pu_iald _) (sn_iald (jm_dc dc_249_3 20 rfl)) (
  jm_gc (pu_aload _ _) (sn_aload_n (i := 0) (jm_dc dc_249_3 21 rfl)) (
  jm_gc (pu_getA _ _) (sn_getA (jm_dc dc_249_3 22 rfl) fl_11_139 rfl) (
  jm_gc (pu_iload _ _) (sn_iload_n (i := 1) (jm_dc dc_249_3 23 rfl)) (
  jm_gc (pu_iald _) (sn_iald (jm_dc dc_249_3 24 rfl)) (
  jm_gn)))))))))))))))))))))))))
theorem dc_249_4 : ([(161, .invokevirtual 393, 3), (164, .aload_n 0, 1), (165, .aload_n 0, 1), (166, .getfield 403, 3), (169, .invokevirtual 409, 3), (172, .aload_n 0, 1), (173, .iload_n 2, 1), (174, .aload_n 0, 1), (175, .getfield 384, 3), (178, .aload_n 0, 1), (179, .getfield 387, 3), (182, .aload_n 0, 1), (183, .getfield 390, 3), (186, .invokevirtual 469, 3), (189, .aload_n 0, 1), (190, .aload_n 0, 1), (191, .getfield 112, 3), (194, .iload_n 2, 1), (195, .iaload, 1), (196, .aload_n 0, 1), (197, .getfield 112, 3), (200, .iload_n 1, 1), (201, .iaload, 1), (202, .invokevirtual 473, 3), (205, .ireturn, 1)] : List (Nat × Instr × Nat)).all (fun e => decide (decode prog_14_method_81_code e.1 = .ok e.2)) = true := by decide +kernel
abbrev cl_249_4 : List (Nat × jm_O) := [(161, op_callV 11 225 4), (164, op_aload 0 1), (165, op_aload 0 1), (166, op_getI 11 24), (169, op_callV 11 229 2), (172, op_aload 0 1), (173, op_iload 2 1), (174, op_aload 0 1), (175, op_getI 11 49), (178, op_aload 0 1), (179, op_getI 11 50), (182, op_aload 0 1), (183, op_getI 11 51), (186, op_callV 11 243 5), (189, op_aload 0 1), (190, op_aload 0 1), (191, op_getA 11 45), (194, op_iload 2 1), (195, op_iald 13), (196, op_aload 0 1), (197, op_getA 11 45), (200, op_iload 1 1), (201, op_iald 13), (202, op_callV 11 246 3), (205, op_iret)]
set_option maxRecDepth 100000 in
theorem gl_249_4 : jm_gl "FrescoWallModel" prog_14_method_81_code 5 (Option.some Jvm.ClassFile.FieldType.int) false cl_249_4 :=
  jm_gc (pu_callV _ _ _) (sn_callV (jm_dc dc_249_4 0 rfl) lk_11_393) (
  jm_gc (pu_aload _ _) (sn_aload_n (i := 0) (jm_dc dc_249_4 1 rfl)) (
  jm_gc (pu_aload _ _) (sn_aload_n (i := 0) (jm_dc dc_249_4 2 rfl)) (
  jm_gc (pu_getI _ _) (sn_getI (jm_dc dc_249_4 3 rfl) fl_11_403 (Or.inl rfl)) (
  jm_gc (pu_callV _ _ _) (sn_callV (jm_dc dc_249_4 4 rfl) lk_11_409) (
  jm_gc (pu_aload _ _) (sn_aload_n (i := 0) (jm_dc dc_249_4 5 rfl)) (
  jm_gc (pu_iload _ _) (sn_iload_n (i := 2) (jm_dc dc_249_4 6 rfl)) (
  jm_gc (pu_aload _ _) (sn_aload_n (i := 0) (jm_dc dc_249_4 7 rfl)) (
  jm_gc (pu_getI _ _) (sn_getI (jm_dc dc_249_4 8 rfl) fl_11_384 (Or.inl rfl)) (
  jm_gc (pu_aload _ _) (sn_aload_n (i := 0) (jm_dc dc_249_4 9 rfl)) (
  jm_gc (pu_getI _ _) (sn_getI (jm_dc dc_249_4 10 rfl) fl_11_387 (Or.inl rfl)) (
  jm_gc (pu_aload _ _) (sn_aload_n (i := 0) (jm_dc dc_249_4 11 rfl)) (
  jm_gc (pu_getI _ _) (sn_getI (jm_dc dc_249_4 12 rfl) fl_11_390 (Or.inl rfl)) (
  jm_gc (pu_callV _ _ _) (sn_callV (jm_dc dc_249_4 13 rfl) lk_11_469) (
  jm_gc (pu_aload _ _) (sn_aload_n (i := 0) (jm_dc dc_249_4 14 rfl)) (
  jm_gc (pu_aload _ _) (sn_aload_n (i := 0) (jm_dc dc_249_4 15 rfl)) (
  jm_gc (pu_getA _ _) (sn_getA (jm_dc dc_249_4 16 rfl) fl_11_112 rfl) (
  jm_gc (pu_iload _ _) (sn_iload_n (i := 2) (jm_dc dc_249_4 17 rfl)) (
  jm_gc (pu_iald _) (sn_iald (jm_dc dc_249_4 18 rfl)) (
  jm_gc (pu_aload _ _) (sn_aload_n (i := 0) (jm_dc dc_249_4 19 rfl)) (
  jm_gc (pu_getA _ _) (sn_getA (jm_dc dc_249_4 20 rfl) fl_11_112 rfl) (
  jm_gc (pu_iload _ _) (sn_iload_n (i := 1) (jm_dc dc_249_4 21 rfl)) (
  jm_gc (pu_iald _) (sn_iald (jm_dc dc_249_4 22 rfl)) (
  jm_gc (pu_callV _ _ _) (sn_callV (jm_dc dc_249_4 23 rfl) lk_11_473) (
  jm_gc (pu_iret) (sn_iret (jm_dc dc_249_4 24 rfl) rfl) (
  jm_gn)))))))))))))))))))))))))
theorem dc_249_5 : ([(206, .aload_n 0, 1), (207, .aload_n 0, 1), (208, .getfield 133, 3), (211, .iload_n 2, 1), (212, .iaload, 1), (213, .aload_n 0, 1), (214, .getfield 136, 3), (217, .iload_n 2, 1), (218, .iaload, 1), (219, .aload_n 0, 1), (220, .getfield 139, 3), (223, .iload_n 2, 1), (224, .iaload, 1), (225, .invokevirtual 393, 3), (228, .aload_n 0, 1), (229, .aload_n 0, 1), (230, .getfield 403, 3), (233, .invokevirtual 415, 3), (236, .aload_n 0, 1), (237, .iload_n 1, 1), (238, .aload_n 0, 1), (239, .getfield 384, 3), (242, .aload_n 0, 1), (243, .getfield 387, 3), (246, .aload_n 0, 1)] : List (Nat × Instr × Nat)).all (fun e => decide (decode prog_14_method_81_code e.1 = .ok e.2)) = true := by decide +kernel
abbrev cl_249_5 : List (Nat × jm_O) := [(206, op_aload 0 1), (207, op_aload 0 1), (208, op_getA 11 56), (211, op_iload 2 1), (212, op_iald 13), (213, op_aload 0 1), (214, op_getA 11 57), (217, op_iload 2 1), (218, op_iald 13), (219, op_aload 0 1), (220, op_getA 11 58), (223, op_iload 2 1), (224, op_iald 13), (225, op_callV 11 225 4), (228, op_aload 0 1), (229, op_aload 0 1), (230, op_getI 11 24), (233, op_callV 11 230 2), (236, op_aload 0 1), (237, op_iload 1 1), (238, op_aload 0 1), (239, op_getI 11 49), (242, op_aload 0 1), (243, op_getI 11 50), (246, op_aload 0 1)]
set_option maxRecDepth 100000 in
theorem gl_249_5 : jm_gl "FrescoWallModel" prog_14_method_81_code 5 (Option.some Jvm.ClassFile.FieldType.int) false cl_249_5 :=
  jm_gc (pu_aload _ _) (sn_aload_n (i := 0) (jm_dc dc_249_5 0 rfl)) (
  jm_gc (pu_aload _ _) (sn_aload_n (i := 0) (jm_dc dc_249_5 1 rfl)) (
  jm_gc (pu_getA _ _) (sn_getA (jm_dc dc_249_5 2 rfl) fl_11_133 rfl) (
  jm_gc (pu_iload _ _) (sn_iload_n (i := 2) (jm_dc dc_249_5 3 rfl)) (
  jm_gc (pu_iald _) (sn_iald (jm_dc dc_249_5 4 rfl)) (
  jm_gc (pu_aload _ _) (sn_aload_n (i := 0) (jm_dc dc_249_5 5 rfl)) (
  jm_gc (pu_getA _ _) (sn_getA (jm_dc dc_249_5 6 rfl) fl_11_136 rfl) (
  jm_gc (pu_iload _ _) (sn_iload_n (i := 2) (jm_dc dc_249_5 7 rfl)) (
  jm_gc (pu_iald _) (sn_iald (jm_dc dc_249_5 8 rfl)) (
  jm_gc (pu_aload _ _) (sn_aload_n (i := 0) (jm_dc dc_249_5 9 rfl)) (
  jm_gc (pu_getA _ _) (sn_getA (jm_dc dc_249_5 10 rfl) fl_11_139 rfl) (
  jm_gc (pu_iload _ _) (sn_iload_n (i := 2) (jm_dc dc_249_5 11 rfl)) (
  jm_gc (pu_iald _) (sn_iald (jm_dc dc_249_5 12 rfl)) (
  jm_gc (pu_callV _ _ _) (sn_callV (jm_dc dc_249_5 13 rfl) lk_11_393) (
  jm_gc (pu_aload _ _) (sn_aload_n (i := 0) (jm_dc dc_249_5 14 rfl)) (
  jm_gc (pu_aload _ _) (sn_aload_n (i := 0) (jm_dc dc_249_5 15 rfl)) (
  jm_gc (pu_getI _ _) (sn_getI (jm_dc dc_249_5 16 rfl) fl_11_403 (Or.inl rfl)) (
  jm_gc (pu_callV _ _ _) (sn_callV (jm_dc dc_249_5 17 rfl) lk_11_415) (
  jm_gc (pu_aload _ _) (sn_aload_n (i := 0) (jm_dc dc_249_5 18 rfl)) (
  jm_gc (pu_iload _ _) (sn_iload_n (i := 1) (jm_dc dc_249_5 19 rfl)) (
  jm_gc (pu_aload _ _) (sn_aload_n (i := 0) (jm_dc dc_249_5 20 rfl)) (
  jm_gc (pu_getI _ _) (sn_getI (jm_dc dc_249_5 21 rfl) fl_11_384 (Or.inl rfl)) (
  jm_gc (pu_aload _ _) (sn_aload_n (i := 0) (jm_dc dc_249_5 22 rfl)) (
  jm_gc (pu_getI _ _) (sn_getI (jm_dc dc_249_5 23 rfl) fl_11_387 (Or.inl rfl)) (
  jm_gc (pu_aload _ _) (sn_aload_n (i := 0) (jm_dc dc_249_5 24 rfl)) (
  jm_gn)))))))))))))))))))))))))
theorem dc_249_6 : ([(247, .getfield 390, 3), (250, .invokevirtual 469, 3), (253, .aload_n 0, 1), (254, .aload_n 0, 1), (255, .getfield 112, 3), (258, .iload_n 1, 1), (259, .iaload, 1), (260, .aload_n 0, 1), (261, .getfield 112, 3), (264, .iload_n 2, 1), (265, .iaload, 1), (266, .invokevirtual 473, 3), (269, .ireturn, 1)] : List (Nat × Instr × Nat)).all (fun e => decide (decode prog_14_method_81_code e.1 = .ok e.2)) = true := by decide +kernel
abbrev cl_249_6 : List (Nat × jm_O) := [(247, op_getI 11 51), (250, op_callV 11 243 5), (253, op_aload 0 1), (254, op_aload 0 1), (255, op_getA 11 45), (258, op_iload 1 1), (259, op_iald 13), (260, op_aload 0 1), (261, op_getA 11 45), (264, op_iload 2 1), (265, op_iald 13), (266, op_callV 11 246 3), (269, op_iret)]
set_option maxRecDepth 100000 in
theorem gl_249_6 : jm_gl "FrescoWallModel" prog_14_method_81_code 5 (Option.some Jvm.ClassFile.FieldType.int) false cl_249_6 :=
  jm_gc (pu_getI _ _) (sn_getI (jm_dc dc_249_6 0 rfl) fl_11_390 (Or.inl rfl)) (
  jm_gc (pu_callV _ _ _) (sn_callV (jm_dc dc_249_6 1 rfl) lk_11_469) (
  jm_gc (pu_aload _ _) (sn_aload_n (i := 0) (jm_dc dc_249_6 2 rfl)) (
  jm_gc (pu_aload _ _) (sn_aload_n (i := 0) (jm_dc dc_249_6 3 rfl)) (
  jm_gc (pu_getA _ _) (sn_getA (jm_dc dc_249_6 4 rfl) fl_11_112 rfl) (
  jm_gc (pu_iload _ _) (sn_iload_n (i := 1) (jm_dc dc_249_6 5 rfl)) (
  jm_gc (pu_iald _) (sn_iald (jm_dc dc_249_6 6 rfl)) (
  jm_gc (pu_aload _ _) (sn_aload_n (i := 0) (jm_dc dc_249_6 7 rfl)) (
  jm_gc (pu_getA _ _) (sn_getA (jm_dc dc_249_6 8 rfl) fl_11_112 rfl) (
  jm_gc (pu_iload _ _) (sn_iload_n (i := 2) (jm_dc dc_249_6 9 rfl)) (
  jm_gc (pu_iald _) (sn_iald (jm_dc dc_249_6 10 rfl)) (
  jm_gc (pu_callV _ _ _) (sn_callV (jm_dc dc_249_6 11 rfl) lk_11_473) (
  jm_gc (pu_iret) (sn_iret (jm_dc dc_249_6 12 rfl) rfl) (
  jm_gn)))))))))))))
theorem dc_250_0 : ([(0, .aload_n 0, 1), (1, .invokevirtual 476, 3), (4, .aload_n 0, 1), (5, .getfield 112, 3), (8, .iload_n 1, 1), (9, .iaload, 1), (10, .aload_n 0, 1), (11, .getfield 112, 3), (14, .iload_n 2, 1), (15, .iaload, 1), (16, .if_icmp .ne 102, 3), (19, .aload_n 0, 1), (20, .iload_n 1, 1), (21, .iload_n 2, 1), (22, .invokevirtual 456, 3), (25, .aload_n 0, 1), (26, .getfield 403, 3), (29, .istore_n 3, 1), (30, .aload_n 0, 1), (31, .aload_n 0, 1), (32, .getfield 67, 3), (35, .aload_n 0, 1), (36, .iload_n 1, 1), (37, .aload_n 0, 1), (38, .getfield 76, 3)] : List (Nat × Instr × Nat)).all (fun e => decide (decode prog_14_method_82_code e.1 = .ok e.2)) = true := by decide +kernel
abbrev cl_250_0 : List (Nat × jm_O) := [(0, op_aload 0 1), (1, op_callV 11 231 1), (4, op_aload 0 1), (5, op_getA 11 45), (8, op_iload 1 1), (9, op_iald 13), (10, op_aload 0 1), (11, op_getA 11 45), (14, op_iload 2 1), (15, op_iald 13), (16, op_cne 118), (19, op_aload 0 1), (20, op_iload 1 1), (21, op_iload 2 1), (22, op_callV 11 234 3), (25, op_aload 0 1), (26, op_getI 11 24), (29, op_istore 3 1), (30, op_aload 0 1), (31, op_aload 0 1), (32, op_getA 11 22), (35, op_aload 0 1), (36, op_iload 1 1), (37, op_aload 0 1), (38, op_getA 11 26)]
set_option maxRecDepth 100000 in
theorem gl_250_0 : jm_gl "FrescoWallModel" prog_14_method_82_code 4 (Option.some Jvm.ClassFile.FieldType.int) false cl_250_0 :=
  jm_gc (pu_aload _ _) (sn_aload_n (i := 0) (jm_dc dc_250_0 0 rfl)) (
  jm_gc (pu_callV _ _ _) (sn_callV (jm_dc dc_250_0 1 rfl) lk_11_476) (
  jm_gc (pu_aload _ _) (sn_aload_n (i := 0) (jm_dc dc_250_0 2 rfl)) (
  jm_gc (pu_getA _ _) (sn_getA (jm_dc dc_250_0 3 rfl) fl_11_112 rfl) (
  jm_gc (pu_iload _ _) (sn_iload_n (i := 1) (jm_dc dc_250_0 4 rfl)) (
  jm_gc (pu_iald _) (sn_iald (jm_dc dc_250_0 5 rfl)) (
  jm_gc (pu_aload _ _) (sn_aload_n (i := 0) (jm_dc dc_250_0 6 rfl)) (
  jm_gc (pu_getA _ _) (sn_getA (jm_dc dc_250_0 7 rfl) fl_11_112 rfl) (
  jm_gc (pu_iload _ _) (sn_iload_n (i := 2) (jm_dc dc_250_0 8 rfl)) (
  jm_gc (pu_iald _) (sn_iald (jm_dc dc_250_0 9 rfl)) (
  jm_gc (pu_cne _) (sn_cne (jm_dc dc_250_0 10 rfl) (by decide)) (
  jm_gc (pu_aload _ _) (sn_aload_n (i := 0) (jm_dc dc_250_0 11 rfl)) (
  jm_gc (pu_iload _ _) (sn_iload_n (i := 1) (jm_dc dc_250_0 12 rfl)) (
  jm_gc (pu_iload _ _) (sn_iload_n (i := 2) (jm_dc dc_250_0 13 rfl)) (
  jm_gc (pu_callV _ _ _) (sn_callV (jm_dc dc_250_0 14 rfl) lk_11_456) (
  jm_gc (pu_aload _ _) (sn_aload_n (i := 0) (jm_dc dc_250_0 15 rfl)) (
  jm_gc (pu_getI _ _) (sn_getI (jm_dc dc_250_0 16 rfl) fl_11_403 (Or.inl rfl)) (
  jm_gc (pu_istore _ _) (sn_istore_n (i := 3) (jm_dc dc_250_0 17 rfl)) (
  jm_gc (pu_aload _ _) (sn_aload_n (i := 0) (jm_dc dc_250_0 18 rfl)) (
  jm_gc (pu_aload _ _) (sn_aload_n (i := 0) (jm_dc dc_250_0 19 rfl)) (
  jm_gc (pu_getA _ _) (sn_getA (jm_dc dc_250_0 20 rfl) fl_11_67 rfl) (
  jm_gc (pu_aload _ _) (sn_aload_n (i := 0) (jm_dc dc_250_0 21 rfl)) (
  jm_gc (pu_iload _ _) (sn_iload_n (i := 1) (jm_dc dc_250_0 22 rfl)) (
  jm_gc (pu_aload _ _) (sn_aload_n (i := 0) (jm_dc dc_250_0 23 rfl)) (
  jm_gc (pu_getA _ _) (sn_getA (jm_dc dc_250_0 24 rfl) fl_11_76 rfl) (
  jm_gn)))))))))))))))))))))))))
theorem dc_250_1 : ([(41, .iload_n 3, 1), (42, .iaload, 1), (43, .iload_n 2, 1), (44, .aload_n 0, 1), (45, .getfield 82, 3), (48, .iload_n 3, 1), (49, .iaload, 1), (50, .invokevirtual 363, 3), (53, .iaload, 1), (54, .aload_n 0, 1), (55, .iload_n 1, 1), (56, .aload_n 0, 1), (57, .getfield 76, 3), (60, .iload_n 3, 1), (61, .iaload, 1), (62, .iload_n 2, 1), (63, .aload_n 0, 1), (64, .getfield 82, 3), (67, .iload_n 3, 1), (68, .iaload, 1), (69, .invokevirtual 357, 3), (72, .aload_n 0, 1), (73, .iload_n 1, 1), (74, .aload_n 0, 1), (75, .getfield 76, 3)] : List (Nat × Instr × Nat)).all (fun e => decide (decode prog_14_method_82_code e.1 = .ok e.2)) = true := by decide +kernel
abbrev cl_250_1 : List (Nat × jm_O) := [(41, op_iload 3 1), (42, op_iald 13), (43, op_iload 2 1), (44, op_aload 0 1), (45, op_getA 11 28), (48, op_iload 3 1), (49, op_iald 13), (50, op_callV 11 211 5), (53, op_iald 13), (54, op_aload 0 1), (55, op_iload 1 1), (56, op_aload 0 1), (57, op_getA 11 26), (60, op_iload 3 1), (61, op_iald 13), (62, op_iload 2 1), (63, op_aload 0 1), (64, op_getA 11 28), (67, op_iload 3 1), (68, op_iald 13), (69, op_callV 11 212 5), (72, op_aload 0 1), (73, op_iload 1 1), (74, op_aload 0 1), (75, op_getA 11 26)]
set_option maxRecDepth 100000 in
theorem gl_250_1 : jm_gl "FrescoWallModel" prog_14_method_82_code 4 (Option.some Jvm.ClassFile.FieldType.int) false cl_250_1 :=
  jm_gc (pu_iload _ _) (sn_iload_n (i := 3) (jm_dc dc_250_1 0 rfl)) (
  jm_gc (pu_iald _) (sn_iald (jm_dc dc_250_1 1 rfl)) (
  jm_gc (pu_iload _ _) (sn_iload_n (i := 2) (jm_dc dc_250_1 2 rfl)) (
  jm_gc (pu_aload _ _) (sn_aload_n (i := 0) (jm_dc dc_250_1 3 rfl)) (
  jm_gc (pu_getA _ _) (sn_getA (jm_dc dc_250_1 4 rfl) fl_11_82 rfl) (
  jm_gc (pu_iload _ _) (sn_iload_n (i := 3) (jm_dc dc_250_1 5 rfl)) (
  jm_gc (pu_iald _) (sn_iald (jm_dc dc_250_1 6 rfl)) (
  jm_gc (pu_callV _ _ _) (sn_callV (jm_dc dc_250_1 7 rfl) lk_11_363) (
  jm_gc (pu_iald _) (sn_iald (jm_dc dc_250_1 8 rfl)) (
  jm_gc (pu_aload _ _) (sn_aload_n (i := 0) (jm_dc dc_250_1 9 rfl)) (
  jm_gc (pu_iload _ _) (sn_iload_n (i := 1) (jm_dc dc_250_1 10 rfl)) (
  jm_gc (pu_aload _ _) (sn_aload_n (i := 0) (jm_dc dc_250_1 11 rfl)) (
  jm_gc (pu_getA _ _) (sn_getA (jm_dc dc_250_1 12 rfl) fl_11_76 rfl) (
  jm_gc (pu_iload _ _) (sn_iload_n (i := 3) (jm_dc dc_250_1 13 rfl)) (
  jm_gc (pu_iald _) (sn_iald (jm_dc dc_250_1 14 rfl)) (
  jm_gc (pu_iload _ _) (sn_iload_n (i := 2) (jm_dc dc_250_1 15 rfl)) (
  jm_gc (pu_aload _ _) (sn_aload_n (i := 0) (jm_dc dc_250_1 16 rfl)) (
  jm_gc (pu_getA _ _) (sn_getA (jm_dc dc_250_1 17 rfl) fl_11_82 rfl) (
  jm_gc (pu_iload _ _) (sn_iload_n (i := 3) (jm_dc dc_250_1 18 rfl)) (
  jm_gc (pu_iald _) (sn_iald (jm_dc dc_250_1 19 rfl)) (
  jm_gc (pu_callV _ _ _) (sn_callV (jm_dc dc_250_1 20 rfl) lk_11_357) (
  jm_gc (pu_aload _ _) (sn_aload_n (i := 0) (jm_dc dc_250_1 21 rfl)) (
  jm_gc (pu_iload _ _) (sn_iload_n (i := 1) (jm_dc dc_250_1 22 rfl)) (
  jm_gc (pu_aload _ _) (sn_aload_n (i := 0) (jm_dc dc_250_1 23 rfl)) (
  jm_gc (pu_getA _ _) (sn_getA (jm_dc dc_250_1 24 rfl) fl_11_76 rfl) (
  jm_gn)))))))))))))))))))))))))
theorem dc_250_2 : ([(78, .iload_n 3, 1), (79, .iaload, 1), (80, .iload_n 2, 1), (81, .aload_n 0, 1), (82, .getfield 82, 3), (85, .iload_n 3, 1), (86, .iaload, 1), (87, .invokevirtual 360, 3), (90, .invokevirtual 466, 3), (93, .ifCond .eq 5, 3), (96, .iconst 0, 1), (97, .ireturn, 1), (98, .aload_n 0, 1), (99, .iconst 0, 1), (100, .putfield 426, 3), (103, .aload_n 0, 1), (104, .iload_n 1, 1), (105, .iload_n 2, 1), (106, .iconst 0, 1), (107, .invokevirtual 459, 3), (110, .aload_n 0, 1), (111, .iconst 1, 1), (112, .iload_n 1, 1), (113, .iload_n 2, 1), (114, .invokevirtual 453, 3)] : List (Nat × Instr × Nat)).all (fun e => decide (decode prog_14_method_82_code e.1 = .ok e.2)) = true := by decide +kernel
abbrev cl_250_2 : List (Nat × jm_O) := [(78, op_iload 3 1), (79, op_iald 13), (80, op_iload 2 1), (81, op_aload 0 1), (82, op_getA 11 28), (85, op_iload 3 1), (86, op_iald 13), (87, op_callV 11 213 5), (90, op_callV 11 228 4), (93, op_ifeq 98), (96, op_ic 0 1), (97, op_iret), (98, op_aload 0 1), (99, op_ic 0 1), (100, op_putI 11 55), (103, op_aload 0 1), (104, op_iload 1 1), (105, op_iload 2 1), (106, op_ic 0 1), (107, op_callV 11 238 4), (110, op_aload 0 1), (111, op_ic 1 1), (112, op_iload 1 1), (113, op_iload 2 1), (114, op_callV 11 245 4)]
set_option maxRecDepth 100000 in
theorem gl_250_2 : jm_gl "FrescoWallModel" prog_14_method_82_code 4 (Option.some Jvm.ClassFile.FieldType.int) false cl_250_2 :=
  jm_gc (pu_iload _ _) (sn_iload_n (i := 3) (jm_dc dc_250_2 0 rfl)) (
  jm_gc (pu_iald _) (sn_iald (jm_dc dc_250_2 1 rfl)) (
  jm_gc (pu_iload _ _) (sn_iload_n (i := 2) (jm_dc dc_250_2 2 rfl)) (
  jm_gc (pu_aload _ _) (sn_aload_n (i := 0) (jm_dc dc_250_2 3 rfl)) (
  jm_gc (pu_getA _ _) (sn_getA (jm_dc dc_250_2 4 rfl) fl_11_82 rfl) (
  jm_gc (pu_iload _ _) (sn_iload_n (i := 3) (jm_dc dc_250_2 5 rfl)) (
  jm_gc (pu_iald _) (sn_iald (jm_dc dc_250_2 6 rfl)) (
  jm_gc (pu_callV _ _ _) (sn_callV (jm_dc dc_250_2 7 rfl) lk_11_360) (
  jm_gc (pu_callV _ _ _) (sn_callV (jm_dc dc_250_2 8 rfl) lk_11_466) (
  jm_gc (pu_ifeq _) (sn_ifeq (jm_dc dc_250_2 9 rfl) (by decide)) (
  jm_gc (pu_ic _ _) (sn_iconst (jm_dc dc_250_2 10 rfl) (by decide)) (
  jm_gc (pu_iret) (sn_iret (jm_dc dc_250_2 11 rfl) rfl) (
  jm_gc (pu_aload _ _) (sn_aload_n (i := 0) (jm_dc dc_250_2 12 rfl)) (
  jm_gc (pu_ic _ _) (sn_iconst (jm_dc dc_250_2 13 rfl) (by decide)) (
  jm_gc (pu_putI _ _) (sn_putI (jm_dc dc_250_2 14 rfl) flw_11_426 rfl) (
  jm_gc (pu_aload _ _) (sn_aload_n (i := 0) (jm_dc dc_250_2 15 rfl)) (
  jm_gc (pu_iload _ _) (sn_iload_n (i := 1) (jm_dc dc_250_2 16 rfl)) (
  jm_gc (pu_iload _ _) (sn_iload_n (i := 2) (jm_dc dc_250_2 17 rfl)) (
  jm_gc (pu_ic _ _) (sn_iconst (jm_dc dc_250_2 18 rfl) (by decide)) (
  jm_gc (pu_callV _ _ _) (sn_callV (jm_dc dc_250_2 19 rfl) lk_11_459) (
  jm_gc (pu_aload _ _) (sn_aload_n (i := 0) (jm_dc dc_250_2 20 rfl)) (
  jm_gc (pu_ic _ _) (sn_iconst (jm_dc dc_250_2 21 rfl) (by decide)) (
  jm_gc (pu_iload _ _) (sn_iload_n (i := 1) (jm_dc dc_250_2 22 rfl)) (
  jm_gc (pu_iload _ _) (sn_iload_n (i := 2) (jm_dc dc_250_2 23 rfl)) (
  jm_gc (pu_callV _ _ _) (sn_callV (jm_dc dc_250_2 24 rfl) lk_11_453) (
  jm_gn)))))))))))))))))))))))))
theorem dc_250_3 : ([(117, .ireturn, 1), (118, .aload_n 0, 1), (119, .iload_n 1, 1), (120, .iload_n 2, 1), (121, .invokevirtual 479, 3), (124, .istore_n 3, 1), (125, .iload_n 3, 1), (126, .ifCond .eq 7, 3), (129, .iload_n 3, 1), (130, .goto 9, 3), (133, .aload_n 0, 1), (134, .iload_n 1, 1), (135, .iload_n 2, 1), (136, .invokevirtual 482, 3), (139, .ireturn, 1)] : List (Nat × Instr × Nat)).all (fun e => decide (decode prog_14_method_82_code e.1 = .ok e.2)) = true := by decide +kernel
abbrev cl_250_3 : List (Nat × jm_O) := [(117, op_iret), (118, op_aload 0 1), (119, op_iload 1 1), (120, op_iload 2 1), (121, op_callV 11 248 3), (124, op_istore 3 1), (125, op_iload 3 1), (126, op_ifeq 133), (129, op_iload 3 1), (130, op_goto 139), (133, op_aload 0 1), (134, op_iload 1 1), (135, op_iload 2 1), (136, op_callV 11 249 3), (139, op_iret)]
set_option maxRecDepth 100000 in
theorem gl_250_3 : jm_gl "FrescoWallModel" prog_14_method_82_code 4 (Option.some Jvm.ClassFile.FieldType.int) false cl_250_3 :=
  jm_gc (pu_iret) (sn_iret (jm_dc dc_250_3 0 rfl) rfl) (
  jm_gc (pu_aload _ _) (sn_aload_n (i := 0) (jm_dc dc_250_3 1 rfl)) (
  jm_gc (pu_iload _ _) (sn_iload_n (i := 1) (jm_dc dc_250_3 2 rfl)) (
  jm_gc (pu_iload _ _) (sn_iload_n (i := 2) (jm_dc dc_250_3 3 rfl)) (
  jm_gc (pu_callV _ _ _) (sn_callV (jm_dc dc_250_3 4 rfl) lk_11_479) (
  jm_gc (pu_istore _ _) (sn_istore_n (i := 3) (jm_dc dc_250_3 5 rfl)) (
  jm_gc (pu_iload _ _) (sn_iload_n (i := 3) (jm_dc dc_250_3 6 rfl)) (
  jm_gc (pu_ifeq _) (sn_ifeq (jm_dc dc_250_3 7 rfl) (by decide)) (
  jm_gc (pu_iload _ _) (sn_iload_n (i := 3) (jm_dc dc_250_3 8 rfl)) (
  jm_gc (pu_goto _) (sn_goto (jm_dc dc_250_3 9 rfl) (by decide)) (
  jm_gc (pu_aload _ _) (sn_aload_n (i := 0) (jm_dc dc_250_3 10 rfl)) (
  jm_gc (pu_iload _ _) (sn_iload_n (i := 1) (jm_dc dc_250_3 11 rfl)) (
  jm_gc (pu_iload _ _) (sn_iload_n (i := 2) (jm_dc dc_250_3 12 rfl)) (
  jm_gc (pu_callV _ _ _) (sn_callV (jm_dc dc_250_3 13 rfl) lk_11_482) (
  jm_gc (pu_iret) (sn_iret (jm_dc dc_250_3 14 rfl) rfl) (
  jm_gn)))))))))))))))
theorem dc_251_0 : ([(0, .aload_n 0, 1), (1, .iload_n 1, 1), (2, .iload_n 2, 1), (3, .invokevirtual 335, 3), (6, .ifCond .eq 13, 3), (9, .aload_n 0, 1), (10, .iload_n 3, 1), (11, .iload 4, 2), (13, .invokevirtual 335, 3), (16, .ifCond .ne 5, 3), (19, .iconst (-1), 1), (20, .ireturn, 1), (21, .iload_n 1, 1), (22, .iload_n 3, 1), (23, .if_icmp .ne 6, 3), (26, .bipush (-2), 2), (28, .ireturn, 1), (29, .aload_n 0, 1), (30, .iload_n 1, 1), (31, .iload_n 2, 1), (32, .iload_n 3, 1), (33, .iload 4, 2), (35, .invokevirtual 366, 3), (38, .ifCond .eq 22, 3), (41, .aload_n 0, 1)] : List (Nat × Instr × Nat)).all (fun e => decide (decode prog_14_method_83_code e.1 = .ok e.2)) = true := by decide +kernel
abbrev cl_251_0 : List (Nat × jm_O) := [(0, op_aload 0 1), (1, op_iload 1 1), (2, op_iload 2 1), (3, op_callV 11 173 3), (6, op_ifeq 19), (9, op_aload 0 1), (10, op_iload 3 1), (11, op_iload 4 2), (13, op_callV 11 173 3), (16, op_ifne 21), (19, op_ic (-1) 1), (20, op_iret), (21, op_iload 1 1), (22, op_iload 3 1), (23, op_cne 29), (26, op_ic (-2) 2), (28, op_iret), (29, op_aload 0 1), (30, op_iload 1 1), (31, op_iload 2 1), (32, op_iload 3 1), (33, op_iload 4 2), (35, op_callV 11 214 5), (38, op_ifeq 60), (41, op_aload 0 1)]
set_option maxRecDepth 100000 in
theorem gl_251_0 : jm_gl "FrescoWallModel" prog_14_method_83_code 6 (Option.some Jvm.ClassFile.FieldType.int) false cl_251_0 :=
  jm_gc (pu_aload _ _) (sn_aload_n (i := 0) (jm_dc dc_251_0 0 rfl)) (
  jm_gc (pu_iload _ _) (sn_iload_n (i := 1) (jm_dc dc_251_0 1 rfl)) (
  jm_gc (pu_iload _ _) (sn_iload_n (i := 2) (jm_dc dc_251_0 2 rfl)) (
  jm_gc (pu_callV _ _ _) (sn_callV (jm_dc dc_251_0 3 rfl) lk_11_335) (
  jm_gc (pu_ifeq _) (sn_ifeq (jm_dc dc_251_0 4 rfl) (by decide)) (
  jm_gc (pu_aload _ _) (sn_aload_n (i := 0) (jm_dc dc_251_0 5 rfl)) (
  jm_gc (pu_iload _ _) (sn_iload_n (i := 3) (jm_dc dc_251_0 6 rfl)) (
  jm_gc (pu_iload _ _) (sn_iload (jm_dc dc_251_0 7 rfl)) (
  jm_gc (pu_callV _ _ _) (sn_callV (jm_dc dc_251_0 8 rfl) lk_11_335) (
  jm_gc (pu_ifne _) (sn_ifne (jm_dc dc_251_0 9 rfl) (by decide)) (
  jm_gc (pu_ic _ _) (sn_iconst (jm_dc dc_251_0 10 rfl) (by decide)) (
  jm_gc (pu_iret) (sn_iret (jm_dc dc_251_0 11 rfl) rfl) (
  jm_gc (pu_iload _ _) (sn_iload_n (i := 1) (jm_dc dc_251_0 12 rfl)) (
  jm_gc (pu_iload _ _) (sn_iload_n (i := 3) (jm_dc dc_251_0 13 rfl)) (
  jm_gc (pu_cne _) (sn_cne (jm_dc dc_251_0 14 rfl) (by decide)) (
  jm_gc (pu_ic _ _) (sn_bipush (jm_dc dc_251_0 15 rfl) (by decide)) (
  jm_gc (pu_iret) (sn_iret (jm_dc dc_251_0 16 rfl) rfl) (
  jm_gc (pu_aload _ _) (sn_aload_n (i := 0) (jm_dc dc_251_0 17 rfl)) (
  jm_gc (pu_iload _ _) (sn_iload_n (i := 1) (jm_dc dc_251_0 18 rfl)) (
  jm_gc (pu_iload _ _) (sn_iload_n (i := 2) (jm_dc dc_251_0 19 rfl)) (
  jm_gc (pu_iload _ _) (sn_iload_n (i := 3) (jm_dc dc_251_0 20 rfl)) (
  jm_gc (pu_iload _ _) (sn_iload (jm_dc dc_251_0 21 rfl)) (
  jm_gc (pu_callV _ _ _) (sn_callV (jm_dc dc_251_0 22 rfl) lk_11_366) (
  jm_gc (pu_ifeq _) (sn_ifeq (jm_dc dc_251_0 23 rfl) (by decide)) (
  jm_gc (pu_aload _ _) (sn_aload_n (i := 0) (jm_dc dc_251_0 24 rfl)) (
  jm_gn)))))))))))))))))))))))))
theorem dc_251_1 : ([(42, .iload_n 1, 1), (43, .iload_n 2, 1), (44, .invokevirtual 485, 3), (47, .ifCond .ne 13, 3), (50, .aload_n 0, 1), (51, .iload_n 3, 1), (52, .iload 4, 2), (54, .invokevirtual 485, 3), (57, .ifCond .eq 6, 3), (60, .bipush (-3), 2), (62, .ireturn, 1), (63, .aload_n 0, 1), (64, .getfield 403, 3), (67, .bipush 60, 2), (69, .if_icmp .ne 6, 3), (72, .bipush (-4), 2), (74, .ireturn, 1), (75, .aload_n 0, 1), (76, .getfield 73, 3), (79, .aload_n 0, 1), (80, .getfield 403, 3), (83, .iload_n 1, 1), (84, .iastore, 1), (85, .aload_n 0, 1), (86, .getfield 76, 3)] : List (Nat × Instr × Nat)).all (fun e => decide (decode prog_14_method_83_code e.1 = .ok e.2)) = true := by decide +kernel
abbrev cl_251_1 : List (Nat × jm_O) := [(42, op_iload 1 1), (43, op_iload 2 1), (44, op_callV 11 247 3), (47, op_ifne 60), (50, op_aload 0 1), (51, op_iload 3 1), (52, op_iload 4 2), (54, op_callV 11 247 3), (57, op_ifeq 63), (60, op_ic (-3) 2), (62, op_iret), (63, op_aload 0 1), (64, op_getI 11 24), (67, op_ic 60 2), (69, op_cne 75), (72, op_ic (-4) 2), (74, op_iret), (75, op_aload 0 1), (76, op_getA 11 25), (79, op_aload 0 1), (80, op_getI 11 24), (83, op_iload 1 1), (84, op_iast), (85, op_aload 0 1), (86, op_getA 11 26)]
set_option maxRecDepth 100000 in
theorem gl_251_1 : jm_gl "FrescoWallModel" prog_14_method_83_code 6 (Option.some Jvm.ClassFile.FieldType.int) false cl_251_1 :=
  jm_gc (pu_iload _ _) (sn_iload_n (i := 1) (jm_dc dc_251_1 0 rfl)) (
  jm_gc (pu_iload _ _) (sn_iload_n (i := 2) (jm_dc dc_251_1 1 rfl)) (
  jm_gc (pu_callV _ _ _) (sn_callV (jm_dc dc_251_1 2 rfl) lk_11_485) (
  jm_gc (pu_ifne _) (sn_ifne (jm_dc dc_251_1 3 rfl) (by decide)) (
  jm_gc (pu_aload _ _) (sn_aload_n (i := 0) (jm_dc dc_251_1 4 rfl)) (
  jm_gc (pu_iload _ _) (sn_iload_n (i := 3) (jm_dc dc_251_1 5 rfl)) (
  jm_gc (pu_iload _ _) (sn_iload (jm_dc dc_251_1 6 rfl)) (
  jm_gc (pu_callV _ _ _) (sn_callV (jm_dc dc_251_1 7 rfl) lk_11_485) (
  jm_gc (pu_ifeq _) (sn_ifeq (jm_dc dc_251_1 8 rfl) (by decide)) (
  jm_gc (pu_ic _ _) (sn_bipush (jm_dc dc_251_1 9 rfl) (by decide)) (
  jm_gc (pu_iret) (sn_iret (jm_dc dc_251_1 10 rfl) rfl) (
  jm_gc (pu_aload _ _) (sn_aload_n (i := 0) (jm_dc dc_251_1 11 rfl)) (
  jm_gc (pu_getI _ _) (sn_getI (jm_dc dc_251_1 12 rfl) fl_11_403 (Or.inl rfl)) (
  jm_gc (pu_ic _ _) (sn_bipush (jm_dc dc_251_1 13 rfl) (by decide)) (
  jm_gc (pu_cne _) (sn_cne (jm_dc dc_251_1 14 rfl) (by decide)) (
  jm_gc (pu_ic _ _) (sn_bipush (jm_dc dc_251_1 15 rfl) (by decide)) (
  jm_gc (pu_iret) (sn_iret (jm_dc dc_251_1 16 rfl) rfl) (
  jm_gc (pu_aload _ _) (sn_aload_n (i := 0) (jm_dc dc_251_1 17 rfl)) (
  jm_gc (pu_getA _ _) (sn_getA (jm_dc dc_251_1 18 rfl) fl_11_73 rfl) (
  jm_gc (pu_aload _ _) (sn_aload_n (i := 0) (jm_dc dc_251_1 19 rfl)) (
  jm_gc (pu_getI _ _) (sn_getI (jm_dc dc_251_1 20 rfl) fl_11_403 (Or.inl rfl)) (
  jm_gc (pu_iload _ _) (sn_iload_n (i := 1) (jm_dc dc_251_1 21 rfl)) (
  jm_gc (pu_iast) (sn_iast (jm_dc dc_251_1 22 rfl)) (
  jm_gc (pu_aload _ _) (sn_aload_n (i := 0) (jm_dc dc_251_1 23 rfl)) (
  jm_gc (pu_getA _ _) (sn_getA (jm_dc dc_251_1 24 rfl) fl_11_76 rfl) (
  jm_gn)))))))))))))))))))))))))
theorem dc_251_2 : ([(89, .aload_n 0, 1), (90, .getfield 403, 3), (93, .iload_n 2, 1), (94, .iastore, 1), (95, .aload_n 0, 1), (96, .getfield 79, 3), (99, .aload_n 0, 1), (100, .getfield 403, 3), (103, .iload_n 3, 1), (104, .iastore, 1), (105, .aload_n 0, 1), (106, .getfield 82, 3), (109, .aload_n 0, 1), (110, .getfield 403, 3), (113, .iload 4, 2), (115, .iastore, 1), (116, .aload_n 0, 1), (117, .getfield 85, 3), (120, .aload_n 0, 1), (121, .getfield 403, 3), (124, .iconst 0, 1), (125, .bastore, 1), (126, .aload_n 0, 1), (127, .iload_n 1, 1), (128, .iload_n 3, 1)] : List (Nat × Instr × Nat)).all (fun e => decide (decode prog_14_method_83_code e.1 = .ok e.2)) = true := by decide +kernel
abbrev cl_251_2 : List (Nat × jm_O) := [(89, op_aload 0 1), (90, op_getI 11 24), (93, op_iload 2 1), (94, op_iast), (95, op_aload 0 1), (96, op_getA 11 27), (99, op_aload 0 1), (100, op_getI 11 24), (103, op_iload 3 1), (104, op_iast), (105, op_aload 0 1), (106, op_getA 11 28), (109, op_aload 0 1), (110, op_getI 11 24), (113, op_iload 4 2), (115, op_iast), (116, op_aload 0 1), (117, op_getA 11 29), (120, op_aload 0 1), (121, op_getI 11 24), (124, op_ic 0 1), (125, op_zast), (126, op_aload 0 1), (127, op_iload 1 1), (128, op_iload 3 1)]
set_option maxRecDepth 100000 in
theorem gl_251_2 : jm_gl "FrescoWallModel" prog_14_method_83_code 6 (Option.some Jvm.ClassFile.FieldType.int) false cl_251_2 :=
  jm_gc (pu_aload _ _) (sn_aload_n (i := 0) (jm_dc dc_251_2 0 rfl)) (
  jm_gc (pu_getI _ _) (sn_getI (jm_dc dc_251_2 1 rfl) fl_11_403 (Or.inl rfl)) (
  jm_gc (pu_iload _ _) (sn_iload_n (i := 2) (jm_dc dc_251_2 2 rfl)) (
  jm_gc (pu_iast) (sn_iast (jm_dc dc_251_2 3 rfl)) (
  jm_gc (pu_aload _ _) (sn_aload_n (i := 0) (jm_dc dc_251_2 4 rfl)) (
  jm_gc (pu_getA _ _) (sn_getA (jm_dc dc_251_2 5 rfl) fl_11_79 rfl) (
  jm_gc (pu_aload _ _) (sn_aload_n (i := 0) (jm_dc dc_251_2 6 rfl)) (
  jm_gc (pu_getI _ _) (sn_getI (jm_dc dc_251_2 7 rfl) fl_11_403 (Or.inl rfl)) (
  jm_gc (pu_iload _ _) (sn_iload_n (i := 3) (jm_dc dc_251_2 8 rfl)) (
  jm_gc (pu_iast) (sn_iast (jm_dc dc_251_2 9 rfl)) (
  jm_gc (pu_aload _ _) (sn_aload_n (i := 0) (jm_dc dc_251_2 10 rfl)) (
  jm_gc (pu_getA _ _) (sn_getA (jm_dc dc_251_2 11 rfl) fl_11_82 rfl) (
  jm_gc (pu_aload _ _) (sn_aload_n (i := 0) (jm_dc dc_251_2 12 rfl)) (
  jm_gc (pu_getI _ _) (sn_getI (jm_dc dc_251_2 13 rfl) fl_11_403 (Or.inl rfl)) (
  jm_gc (pu_iload _ _) (sn_iload (jm_dc dc_251_2 14 rfl)) (
  jm_gc (pu_iast) (sn_iast (jm_dc dc_251_2 15 rfl)) (
  jm_gc (pu_aload _ _) (sn_aload_n (i := 0) (jm_dc dc_251_2 16 rfl)) (
  jm_gc (pu_getA _ _) (sn_getA (jm_dc dc_251_2 17 rfl) fl_11_85 rfl) (
  jm_gc (pu_aload _ _) (sn_aload_n (i := 0) (jm_dc dc_251_2 18 rfl)) (
  jm_gc (pu_getI _ _) (sn_getI (jm_dc dc_251_2 19 rfl) fl_11_403 (Or.inl rfl)) (
  jm_gc (pu_ic _ _) (sn_iconst (jm_dc dc_251_2 20 rfl) (by decide)) (
  jm_gc (pu_zast) (sn_zast (jm_dc dc_251_2 21 rfl)) (
  jm_gc (pu_aload _ _) (sn_aload_n (i := 0) (jm_dc dc_251_2 22 rfl)) (
  jm_gc (pu_iload _ _) (sn_iload_n (i := 1) (jm_dc dc_251_2 23 rfl)) (
  jm_gc (pu_iload _ _) (sn_iload_n (i := 3) (jm_dc dc_251_2 24 rfl)) (
  jm_gn)))))))))))))))))))))))))
theorem dc_251_3 : ([(129, .invokevirtual 488, 3), (132, .istore 5, 2), (134, .iload 5, 2), (136, .ifCond .eq 6, 3), (139, .iload 5, 2), (141, .ireturn, 1), (142, .aload_n 0, 1), (143, .getfield 85, 3), (146, .aload_n 0, 1), (147, .getfield 403, 3), (150, .iconst 1, 1), (151, .bastore, 1), (152, .aload_n 0, 1), (153, .dup, 1), (154, .getfield 403, 3), (157, .iconst 1, 1), (158, .iadd, 1), (159, .putfield 403, 3), (162, .aload_n 0, 1), (163, .getfield 403, 3), (166, .iconst 1, 1), (167, .isub, 1), (168, .ireturn, 1)] : List (Nat × Instr × Nat)).all (fun e => decide (decode prog_14_method_83_code e.1 = .ok e.2)) = true := by decide +kernel
abbrev cl_251_3 : List (Nat × jm_O) := [(129, op_callV 11 250 3), (132, op_istore 5 2), (134, op_iload 5 2), (136, op_ifeq 142), (139, op_iload 5 2), (141, op_iret), (142, op_aload 0 1), (143, op_getA 11 29), (146, op_aload 0 1), (147, op_getI 11 24), (150, op_ic 1 1), (151, op_zast), (152, op_aload 0 1), (153, op_dup), (154, op_getI 11 24), (157, op_ic 1 1), (158, op_ibin (fun x y => x + y)), (159, op_putI 11 24), (162, op_aload 0 1), (163, op_getI 11 24), (166, op_ic 1 1), (167, op_ibin (fun x y => x - y)), (168, op_iret)]
set_option maxRecDepth 100000 in
theorem gl_251_3 : jm_gl "FrescoWallModel" prog_14_method_83_code 6 (Option.some Jvm.ClassFile.FieldType.int) false cl_251_3 :=
  jm_gc (pu_callV _ _ _) (sn_callV (jm_dc dc_251_3 0 rfl) lk_11_488) (
  jm_gc (pu_istore _ _) (sn_istore (jm_dc dc_251_3 1 rfl)) (
  jm_gc (pu_iload _ _) (sn_iload (jm_dc dc_251_3 2 rfl)) (
  jm_gc (pu_ifeq _) (sn_ifeq (jm_dc dc_251_3 3 rfl) (by decide)) (
  jm_gc (pu_iload _ _) (sn_iload (jm_dc dc_251_3 4 rfl)) (
  jm_gc (pu_iret) (sn_iret (jm_dc dc_251_3 5 rfl) rfl) (
  jm_gc (pu_aload _ _) (sn_aload_n (i := 0) (jm_dc dc_251_3 6 rfl)) (
  jm_gc (pu_getA _ _) (sn_getA (jm_dc dc_251_3 7 rfl) fl_11_85 rfl) (
  jm_gc (pu_aload _ _) (sn_aload_n (i := 0) (jm_dc dc_251_3 8 rfl)) (
  jm_gc (pu_getI _ _) (sn_getI (jm_dc dc_251_3 9 rfl) fl_11_403 (Or.inl rfl)) (
  jm_gc (pu_ic _ _) (sn_iconst (jm_dc dc_251_3 10 rfl) (by decide)) (
  jm_gc (pu_zast) (sn_zast (jm_dc dc_251_3 11 rfl)) (
  jm_gc (pu_aload _ _) (sn_aload_n (i := 0) (jm_dc dc_251_3 12 rfl)) (
  jm_gc (pu_dup) (sn_dup (jm_dc dc_251_3 13 rfl)) (
  jm_gc (pu_getI _ _) (sn_getI (jm_dc dc_251_3 14 rfl) fl_11_403 (Or.inl rfl)) (
  jm_gc (pu_ic _ _) (sn_iconst (jm_dc dc_251_3 15 rfl) (by decide)) (
  jm_gc (pu_ibin _) (sn_iadd (jm_dc dc_251_3 16 rfl)) (
  jm_gc (pu_putI _ _) (sn_putI (jm_dc dc_251_3 17 rfl) flw_11_403 rfl) (
  jm_gc (pu_aload _ _) (sn_aload_n (i := 0) (jm_dc dc_251_3 18 rfl)) (
  jm_gc (pu_getI _ _) (sn_getI (jm_dc dc_251_3 19 rfl) fl_11_403 (Or.inl rfl)) (
  jm_gc (pu_ic _ _) (sn_iconst (jm_dc dc_251_3 20 rfl) (by decide)) (
  jm_gc (pu_ibin _) (sn_isub (jm_dc dc_251_3 21 rfl)) (
  jm_gc (pu_iret) (sn_iret (jm_dc dc_251_3 22 rfl) rfl) (
  jm_gn)))))))))))))))))))))))
theorem dc_252_0 : ([(0, .iload_n 1, 1), (1, .iconst 0, 1), (2, .aload_n 0, 1), (3, .getfield 403, 3), (6, .iconst 1, 1), (7, .isub, 1), (8, .invokestatic 218, 3), (11, .ifCond .eq 16, 3), (14, .aload_n 0, 1), (15, .getfield 85, 3), (18, .iload_n 1, 1), (19, .baload, 1), (20, .ifCond .eq 7, 3), (23, .iconst 1, 1), (24, .goto 4, 3), (27, .iconst 0, 1), (28, .ireturn, 1)] : List (Nat × Instr × Nat)).all (fun e => decide (decode prog_14_method_84_code e.1 = .ok e.2)) = true := by decide +kernel
abbrev cl_252_0 : List (Nat × jm_O) := [(0, op_iload 1 1), (1, op_ic 0 1), (2, op_aload 0 1), (3, op_getI 11 24), (6, op_ic 1 1), (7, op_ibin (fun x y => x - y)), (8, op_callS 171 3), (11, op_ifeq 27), (14, op_aload 0 1), (15, op_getA 11 29), (18, op_iload 1 1), (19, op_iald 15), (20, op_ifeq 27), (23, op_ic 1 1), (24, op_goto 28), (27, op_ic 0 1), (28, op_zret)]
set_option maxRecDepth 100000 in
theorem gl_252_0 : jm_gl "FrescoWallModel" prog_14_method_84_code 2 (Option.some Jvm.ClassFile.FieldType.boolean) false cl_252_0 :=
  jm_gc (pu_iload _ _) (sn_iload_n (i := 1) (jm_dc dc_252_0 0 rfl)) (
  jm_gc (pu_ic _ _) (sn_iconst (jm_dc dc_252_0 1 rfl) (by decide)) (
  jm_gc (pu_aload _ _) (sn_aload_n (i := 0) (jm_dc dc_252_0 2 rfl)) (
  jm_gc (pu_getI _ _) (sn_getI (jm_dc dc_252_0 3 rfl) fl_11_403 (Or.inl rfl)) (
  jm_gc (pu_ic _ _) (sn_iconst (jm_dc dc_252_0 4 rfl) (by decide)) (
  jm_gc (pu_ibin _) (sn_isub (jm_dc dc_252_0 5 rfl)) (
  jm_gc (pu_callS _ _) (sn_callS (jm_dc dc_252_0 6 rfl) lk_11_218) (
  jm_gc (pu_ifeq _) (sn_ifeq (jm_dc dc_252_0 7 rfl) (by decide)) (
  jm_gc (pu_aload _ _) (sn_aload_n (i := 0) (jm_dc dc_252_0 8 rfl)) (
  jm_gc (pu_getA _ _) (sn_getA (jm_dc dc_252_0 9 rfl) fl_11_85 rfl) (
  jm_gc (pu_iload _ _) (sn_iload_n (i := 1) (jm_dc dc_252_0 10 rfl)) (
  jm_gc (pu_iald _) (sn_zald (jm_dc dc_252_0 11 rfl)) (
  jm_gc (pu_ifeq _) (sn_ifeq (jm_dc dc_252_0 12 rfl) (by decide)) (
  jm_gc (pu_ic _ _) (sn_iconst (jm_dc dc_252_0 13 rfl) (by decide)) (
  jm_gc (pu_goto _) (sn_goto (jm_dc dc_252_0 14 rfl) (by decide)) (
  jm_gc (pu_ic _ _) (sn_iconst (jm_dc dc_252_0 15 rfl) (by decide)) (
  jm_gc (pu_zret) (sn_zret (jm_dc dc_252_0 16 rfl) rfl) (
  jm_gn)))))))))))))))))
theorem dc_253_0 : ([(0, .iconst 0, 1), (1, .istore_n 2, 1), (2, .iconst 0, 1), (3, .istore_n 3, 1), (4, .iload_n 3, 1), (5, .aload_n 0, 1), (6, .getfield 215, 3), (9, .if_icmp .ge 27, 3), (12, .iload_n 2, 1), (13, .aload_n 0, 1), (14, .getfield 112, 3), (17, .iload_n 3, 1), (18, .iaload, 1), (19, .iload_n 1, 1), (20, .if_icmp .ne 7, 3), (23, .iconst 1, 1), (24, .goto 4, 3), (27, .iconst 0, 1), (28, .iadd, 1), (29, .istore_n 2, 1), (30, .iinc 3 1, 3), (33, .goto (-29), 3), (36, .iload_n 2, 1), (37, .ireturn, 1)] : List (Nat × Instr × Nat)).all (fun e => decide (decode prog_14_method_85_code e.1 = .ok e.2)) = true := by decide +kernel
abbrev cl_253_0 : List (Nat × jm_O) := [(0, op_ic 0 1), (1, op_istore 2 1), (2, op_ic 0 1), (3, op_istore 3 1), (4, op_iload 3 1), (5, op_aload 0 1), (6, op_getI 11 3), (9, op_cge 36), (12, op_iload 2 1), (13, op_aload 0 1), (14, op_getA 11 45), (17, op_iload 3 1), (18, op_iald 13), (19, op_iload 1 1), (20, op_cne 27), (23, op_ic 1 1), (24, op_goto 28), (27, op_ic 0 1), (28, op_ibin (fun x y => x + y)), (29, op_istore 2 1), (30, op_iinc 3 1), (33, op_goto 4), (36, op_iload 2 1), (37, op_iret)]
set_option maxRecDepth 100000 in
theorem gl_253_0 : jm_gl "FrescoWallModel" prog_14_method_85_code 4 (Option.some Jvm.ClassFile.FieldType.int) false cl_253_0 :=
  jm_gc (pu_ic _ _) (sn_iconst (jm_dc dc_253_0 0 rfl) (by decide)) (
  jm_gc (pu_istore _ _) (sn_istore_n (i := 2) (jm_dc dc_253_0 1 rfl)) (
  jm_gc (pu_ic _ _) (sn_iconst (jm_dc dc_253_0 2 rfl) (by decide)) (
  jm_gc (pu_istore _ _) (sn_istore_n (i := 3) (jm_dc dc_253_0 3 rfl)) (
  jm_gc (pu_iload _ _) (sn_iload_n (i := 3) (jm_dc dc_253_0 4 rfl)) (
  jm_gc (pu_aload _ _) (sn_aload_n (i := 0) (jm_dc dc_253_0 5 rfl)) (
  jm_gc (pu_getI _ _) (sn_getI (jm_dc dc_253_0 6 rfl) fl_11_215 (Or.inl rfl)) (
  jm_gc (pu_cge _) (sn_cge (jm_dc dc_253_0 7 rfl) (by decide)) (
  jm_gc (pu_iload _ _) (sn_iload_n (i := 2) (jm_dc dc_253_0 8 rfl)) (
  jm_gc (pu_aload _ _) (sn_aload_n (i := 0) (jm_dc dc_253_0 9 rfl)) (
  jm_gc (pu_getA _ _) (sn_getA (jm_dc dc_253_0 10 rfl) fl_11_112 rfl) (
  jm_gc (pu_iload _ _) (sn_iload_n (i := 3) (jm_dc dc_253_0 11 rfl)) (
  jm_gc (pu_iald _) (sn_iald (jm_dc dc_253_0 12 rfl)) (
  jm_gc (pu_iload _ _) (sn_iload_n (i := 1) (jm_dc dc_253_0 13 rfl)) (
  jm_gc (pu_cne _) (sn_cne (jm_dc dc_253_0 14 rfl) (by decide)) (
  jm_gc (pu_ic _ _) (sn_iconst (jm_dc dc_253_0 15 rfl) (by decide)) (
  jm_gc (pu_goto _) (sn_goto (jm_dc dc_253_0 16 rfl) (by decide)) (
  jm_gc (pu_ic _ _) (sn_iconst (jm_dc dc_253_0 17 rfl) (by decide)) (
  jm_gc (pu_ibin _) (sn_iadd (jm_dc dc_253_0 18 rfl)) (
  jm_gc (pu_istore _ _) (sn_istore_n (i := 2) (jm_dc dc_253_0 19 rfl)) (
  jm_gc (pu_iinc _ _) (sn_iinc (jm_dc dc_253_0 20 rfl) (by decide)) (
  jm_gc (pu_goto _) (sn_goto (jm_dc dc_253_0 21 rfl) (by decide)) (
  jm_gc (pu_iload _ _) (sn_iload_n (i := 2) (jm_dc dc_253_0 22 rfl)) (
  jm_gc (pu_iret) (sn_iret (jm_dc dc_253_0 23 rfl) rfl) (
  jm_gn))))))))))))))))))))))))
theorem dc_254_0 : ([(0, .aload_n 0, 1), (1, .iload_n 1, 1), (2, .invokevirtual 491, 3), (5, .ifCond .ne 5, 3), (8, .iconst (-1), 1), (9, .ireturn, 1), (10, .aload_n 0, 1), (11, .getfield 85, 3), (14, .iload_n 1, 1), (15, .iconst 0, 1), (16, .bastore, 1), (17, .aload_n 0, 1), (18, .invokevirtual 476, 3), (21, .aload_n 0, 1), (22, .getfield 112, 3), (25, .aload_n 0, 1), (26, .getfield 73, 3), (29, .iload_n 1, 1), (30, .iaload, 1), (31, .iaload, 1), (32, .istore_n 2, 1), (33, .aload_n 0, 1), (34, .getfield 112, 3), (37, .aload_n 0, 1), (38, .getfield 79, 3)] : List (Nat × Instr × Nat)).all (fun e => decide (decode prog_14_method_86_code e.1 = .ok e.2)) = true := by decide +kernel
abbrev cl_254_0 : List (Nat × jm_O) := [(0, op_aload 0 1), (1, op_iload 1 1), (2, op_callV 11 252 2), (5, op_ifne 10), (8, op_ic (-1) 1), (9, op_iret), (10, op_aload 0 1), (11, op_getA 11 29), (14, op_iload 1 1), (15, op_ic 0 1), (16, op_zast), (17, op_aload 0 1), (18, op_callV 11 231 1), (21, op_aload 0 1), (22, op_getA 11 45), (25, op_aload 0 1), (26, op_getA 11 25), (29, op_iload 1 1), (30, op_iald 13), (31, op_iald 13), (32, op_istore 2 1), (33, op_aload 0 1), (34, op_getA 11 45), (37, op_aload 0 1), (38, op_getA 11 27)]
set_option maxRecDepth 100000 in
theorem gl_254_0 : jm_gl "FrescoWallModel" prog_14_method_86_code 4 (Option.some Jvm.ClassFile.FieldType.int) false cl_254_0 :=
  jm_gc (pu_aload _ _) (sn_aload_n (i := 0) (jm_dc dc_254_0 0 rfl)) (
  jm_gc (pu_iload _ _) (sn_iload_n (i := 1) (jm_dc dc_254_0 1 rfl)) (
  jm_gc (pu_callV _ _ _) (sn_callV (jm_dc dc_254_0 2 rfl) lk_11_491) (
  jm_gc (pu_ifne _) (sn_ifne (jm_dc dc_254_0 3 rfl) (by decide)) (
  jm_gc (pu_ic _ _) (sn_iconst (jm_dc dc_254_0 4 rfl) (by decide)) (
  jm_gc (pu_iret) (sn_iret (jm_dc dc_254_0 5 rfl) rfl) (
  jm_gc (pu_aload _ _) (sn_aload_n (i := 0) (jm_dc dc_254_0 6 rfl)) (
  jm_gc (pu_getA _ _) (sn_getA (jm_dc dc_254_0 7 rfl) fl_11_85 rfl) (
  jm_gc (pu_iload _ _) (sn_iload_n (i := 1) (jm_dc dc_254_0 8 rfl)) (
  jm_gc (pu_ic _ _) (sn_iconst (jm_dc dc_254_0 9 rfl) (by decide)) (
  jm_gc (pu_zast) (sn_zast (jm_dc dc_254_0 10 rfl)) (
  jm_gc (pu_aload _ _) (sn_aload_n (i := 0) (jm_dc dc_254_0 11 rfl)) (
  jm_gc (pu_callV _ _ _) (sn_callV (jm_dc dc_254_0 12 rfl) lk_11_476) (
  jm_gc (pu_aload _ _) (sn_aload_n (i := 0) (jm_dc dc_254_0 13 rfl)) (
  jm_gc (pu_getA _ _) (sn_getA (jm_dc dc_254_0 14 rfl) fl_11_112 rfl) (
  jm_gc (pu_aload _ _) (sn_aload_n (i := 0) (jm_dc dc_254_0 15 rfl)) (
  jm_gc (pu_getA _ _) (sn_getA (jm_dc dc_254_0 16 rfl) fl_11_73 rfl) (
  jm_gc (pu_iload _ _) (sn_iload_n (i := 1) (jm_dc dc_254_0 17 rfl)) (
  jm_gc (pu_iald _) (sn_iald (jm_dc dc_254_0 18 rfl)) (
  jm_gc (pu_iald _) (sn_iald (jm_dc dc_254_0 19 rfl)) (
  jm_gc (pu_istore _ _) (sn_istore_n (i := 2) (jm_dc dc_254_0 20 rfl)) (
  jm_gc (pu_aload _ _) (sn_aload_n (i := 0) (jm_dc dc_254_0 21 rfl)) (
  jm_gc (pu_getA _ _) (sn_getA (jm_dc dc_254_0 22 rfl) fl_11_112 rfl) (
  jm_gc (pu_aload _ _) (sn_aload_n (i := 0) (jm_dc dc_254_0 23 rfl)) (
  jm_gc (pu_getA _ _) (sn_getA (jm_dc dc_254_0 24 rfl) fl_11_79 rfl) (
  jm_gn)))))))))))))))))))))))))
theorem dc_254_1 : ([(41, .iload_n 1, 1), (42, .iaload, 1), (43, .iaload, 1), (44, .istore_n 3, 1), (45, .aload_n 0, 1), (46, .iload_n 2, 1), (47, .invokevirtual 494, 3), (50, .iload_n 2, 1), (51, .iload_n 3, 1), (52, .if_icmp .ne 7, 3), (55, .iconst 0, 1), (56, .goto 8, 3), (59, .aload_n 0, 1), (60, .iload_n 3, 1), (61, .invokevirtual 494, 3), (64, .iadd, 1), (65, .ireturn, 1)] : List (Nat × Instr × Nat)).all (fun e => decide (decode prog_14_method_86_code e.1 = .ok e.2)) = true := by decide +kernel
abbrev cl_254_1 : List (Nat × jm_O) := [(41, op_iload 1 1), (42, op_iald 13), (43, op_iald 13), (44, op_istore 3 1), (45, op_aload 0 1), (46, op_iload 2 1), (47, op_callV 11 253 2), (50, op_iload 2 1), (51, op_iload 3 1), (52, op_cne 59), (55, op_ic 0 1), (56, op_goto 64), (59, op_aload 0 1), (60, op_iload 3 1), (61, op_callV 11 253 2), (64, op_ibin (fun x y => x + y)), (65, op_iret)]
set_option maxRecDepth 100000 in
theorem gl_254_1 : jm_gl "FrescoWallModel" prog_14_method_86_code 4 (Option.some Jvm.ClassFile.FieldType.int) false cl_254_1 :=
  jm_gc (pu_iload _ _) (sn_iload_n (i := 1) (jm_dc dc_254_1 0 rfl)) (
  jm_gc (pu_iald _) (sn_iald (jm_dc dc_254_1 1 rfl)) (
  jm_gc (pu_iald _) (sn_iald (jm_dc dc_254_1 2 rfl)) (
  jm_gc (pu_istore _ _) (sn_istore_n (i := 3) (jm_dc dc_254_1 3 rfl)) (
  jm_gc (pu_aload _ _) (sn_aload_n (i := 0) (jm_dc dc_254_1 4 rfl)) (
  jm_gc (pu_iload _ _) (sn_iload_n (i := 2) (jm_dc dc_254_1 5 rfl)) (
  jm_gc (pu_callV _ _ _) (sn_callV (jm_dc dc_254_1 6 rfl) lk_11_494) (
  jm_gc (pu_iload _ _) (sn_iload_n (i := 2) (jm_dc dc_254_1 7 rfl)) (
  jm_gc (pu_iload _ _) (sn_iload_n (i := 3) (jm_dc dc_254_1 8 rfl)) (
  jm_gc (pu_cne _) (sn_cne (jm_dc dc_254_1 9 rfl) (by decide)) (
  jm_gc (pu_ic _ _) (sn_iconst (jm_dc dc_254_1 10 rfl) (by decide)) (
  jm_gc (pu_goto _) (sn_goto (jm_dc dc_254_1 11 rfl) (by decide)) (
  jm_gc (pu_aload _ _) (sn_aload_n (i := 0) (jm_dc dc_254_1 12 rfl)) (
  jm_gc (pu_iload _ _) (sn_iload_n (i := 3) (jm_dc dc_254_1 13 rfl)) (
  jm_gc (pu_callV _ _ _) (sn_callV (jm_dc dc_254_1 14 rfl) lk_11_494) (
  jm_gc (pu_ibin _) (sn_iadd (jm_dc dc_254_1 15 rfl)) (
  jm_gc (pu_iret) (sn_iret (jm_dc dc_254_1 16 rfl) rfl) (
  jm_gn)))))))))))))))))
theorem dc_255_0 : ([(0, .aload_n 0, 1), (1, .aload_n 0, 1), (2, .getfield 73, 3), (5, .iload_n 1, 1), (6, .iaload, 1), (7, .aload_n 0, 1), (8, .getfield 76, 3), (11, .iload_n 1, 1), (12, .iaload, 1), (13, .aload_n 0, 1), (14, .getfield 79, 3), (17, .iload_n 1, 1), (18, .iaload, 1), (19, .aload_n 0, 1), (20, .getfield 82, 3), (23, .iload_n 1, 1), (24, .iaload, 1), (25, .invokevirtual 366, 3), (28, .ifCond .eq 40, 3), (31, .aload_n 0, 1), (32, .aload_n 0, 1), (33, .getfield 73, 3), (36, .iload_n 1, 1), (37, .iaload, 1), (38, .aload_n 0, 1)] : List (Nat × Instr × Nat)).all (fun e => decide (decode prog_14_method_87_code e.1 = .ok e.2)) = true := by decide +kernel
abbrev cl_255_0 : List (Nat × jm_O) := [(0, op_aload 0 1), (1, op_aload 0 1), (2, op_getA 11 25), (5, op_iload 1 1), (6, op_iald 13), (7, op_aload 0 1), (8, op_getA 11 26), (11, op_iload 1 1), (12, op_iald 13), (13, op_aload 0 1), (14, op_getA 11 27), (17, op_iload 1 1), (18, op_iald 13), (19, op_aload 0 1), (20, op_getA 11 28), (23, op_iload 1 1), (24, op_iald 13), (25, op_callV 11 214 5), (28, op_ifeq 68), (31, op_aload 0 1), (32, op_aload 0 1), (33, op_getA 11 25), (36, op_iload 1 1), (37, op_iald 13), (38, op_aload 0 1)]
set_option maxRecDepth 100000 in
theorem gl_255_0 : jm_gl "FrescoWallModel" prog_14_method_87_code 2 (Option.some Jvm.ClassFile.FieldType.boolean) false cl_255_0 :=
  jm_gc (pu_aload _ _) (sn_aload_n (i := 0) (jm_dc dc_255_0 0 rfl)) (
  jm_gc (pu_aload _ _) (sn_aload_n (i := 0) (jm_dc dc_255_0 1 rfl)) (
  jm_gc (pu_getA _ _) (sn_getA (jm_dc dc_255_0 2 rfl) fl_11_73 rfl) (
  jm_gc (pu_iload _ _) (sn_iload_n (i := 1) (jm_dc dc_255_0 3 rfl)) (
  jm_gc (pu_iald _) (sn_iald (jm_dc dc_255_0 4 rfl)) (
  jm_gc (pu_aload _ _) (sn_aload_n (i := 0) (jm_dc dc_255_0 5 rfl)) (
  jm_gc (pu_getA _ _) (sn_getA (jm_dc dc_255_0 6 rfl) fl_11_76 rfl) (
  jm_gc (pu_iload _ _) (sn_iload_n (i := 1) (jm_dc dc_255_0 7 rfl)) (
  jm_gc (pu_iald _) (sn_iald (jm_dc dc_255_0 8 rfl)) (
  jm_gc (pu_aload _ _) (sn_aload_n (i := 0) (jm_dc dc_255_0 9 rfl)) (
  jm_gc (pu_getA _ _) (sn_getA (jm_dc dc_255_0 10 rfl) fl_11_79 rfl) (
  jm_gc (pu_iload _ _) (sn_iload_n (i := 1) (jm_dc dc_255_0 11 rfl)) (
  jm_gc (pu_iald _) (sn_iald (jm_dc dc_255_0 12 rfl)) (
  jm_gc (pu_aload _ _) (sn_aload_n (i := 0) (jm_dc dc_255_0 13 rfl)) (
  jm_gc (pu_getA _ _) (sn_getA (jm_dc dc_255_0 14 rfl) fl_11_82 rfl) (
  jm_gc (pu_iload _ _) (sn_iload_n (i := 1) (jm_dc dc_255_0 15 rfl)) (
  jm_gc (pu_iald _) (sn_iald (jm_dc dc_255_0 16 rfl)) (
  jm_gc (pu_callV _ _ _) (sn_callV (jm_dc dc_255_0 17 rfl) lk_11_366) (
  jm_gc (pu_ifeq _) (sn_ifeq (jm_dc dc_255_0 18 rfl) (by decide)) (
  jm_gc (pu_aload _ _) (sn_aload_n (i := 0) (jm_dc dc_255_0 19 rfl)) (
  jm_gc (pu_aload _ _) (sn_aload_n (i := 0) (jm_dc dc_255_0 20 rfl)) (
  jm_gc (pu_getA _ _) (sn_getA (jm_dc dc_255_0 21 rfl) fl_11_73 rfl) (
  jm_gc (pu_iload _ _) (sn_iload_n (i := 1) (jm_dc dc_255_0 22 rfl)) (
  jm_gc (pu_iald _) (sn_iald (jm_dc dc_255_0 23 rfl)) (
  jm_gc (pu_aload _ _) (sn_aload_n (i := 0) (jm_dc dc_255_0 24 rfl)) (
  jm_gn)))))))))))))))))))))))))
theorem dc_255_1 : ([(39, .getfield 76, 3), (42, .iload_n 1, 1), (43, .iaload, 1), (44, .aload_n 0, 1), (45, .getfield 79, 3), (48, .iload_n 1, 1), (49, .iaload, 1), (50, .aload_n 0, 1), (51, .getfield 82, 3), (54, .iload_n 1, 1), (55, .iaload, 1), (56, .invokevirtual 381, 3), (59, .bipush (-5), 2), (61, .if_icmp .ne 7, 3), (64, .iconst 1, 1), (65, .goto 4, 3), (68, .iconst 0, 1), (69, .ireturn, 1)] : List (Nat × Instr × Nat)).all (fun e => decide (decode prog_14_method_87_code e.1 = .ok e.2)) = true := by decide +kernel
abbrev cl_255_1 : List (Nat × jm_O) := [(39, op_getA 11 26), (42, op_iload 1 1), (43, op_iald 13), (44, op_aload 0 1), (45, op_getA 11 27), (48, op_iload 1 1), (49, op_iald 13), (50, op_aload 0 1), (51, op_getA 11 28), (54, op_iload 1 1), (55, op_iald 13), (56, op_callV 11 223 5), (59, op_ic (-5) 2), (61, op_cne 68), (64, op_ic 1 1), (65, op_goto 69), (68, op_ic 0 1), (69, op_zret)]
set_option maxRecDepth 100000 in
theorem gl_255_1 : jm_gl "FrescoWallModel" prog_14_method_87_code 2 (Option.some Jvm.ClassFile.FieldType.boolean) false cl_255_1 :=
  jm_gc (pu_getA _ _) (sn_getA (jm_dc dc_255_1 0 rfl) fl_11_76 rfl) (
  jm_gc (pu_iload _ _) (sn_iload_n (i := 1) (jm_dc dc_255_1 1 rfl)) (
  jm_gc (pu_iald _) (sn_iald (jm_dc dc_255_1 2 rfl)) (
  jm_gc (pu_aload _ _) (sn_aload_n (i := 0) (jm_dc dc_255_1 3 rfl)) (
  jm_gc (pu_getA _ _) (sn_getA (jm_dc dc_255_1 4 rfl) fl_11_79 rfl) (
  jm_gc (pu_iload _ _) (sn_iload_n (i := 1) (jm_dc dc_255_1 5 rfl)) (
  jm_gc (pu_iald _) (sn_iald (jm_dc dc_255_1 6 rfl)) (
  jm_gc (pu_aload _ _) (sn_aload_n (i := 0) (jm_dc dc_255_1 7 rfl)) (
  jm_gc (pu_getA _ _) (sn_getA (jm_dc dc_255_1 8 rfl) fl_11_82 rfl) (
  jm_gc (pu_iload _ _) (sn_iload_n (i := 1) (jm_dc dc_255_1 9 rfl)) (
  jm_gc (pu_iald _) (sn_iald (jm_dc dc_255_1 10 rfl)) (
  jm_gc (pu_callV _ _ _) (sn_callV (jm_dc dc_255_1 11 rfl) lk_11_381) (
  jm_gc (pu_ic _ _) (sn_bipush (jm_dc dc_255_1 12 rfl) (by decide)) (
  jm_gc (pu_cne _) (sn_cne (jm_dc dc_255_1 13 rfl) (by decide)) (
  jm_gc (pu_ic _ _) (sn_iconst (jm_dc dc_255_1 14 rfl) (by decide)) (
  jm_gc (pu_goto _) (sn_goto (jm_dc dc_255_1 15 rfl) (by decide)) (
  jm_gc (pu_ic _ _) (sn_iconst (jm_dc dc_255_1 16 rfl) (by decide)) (
  jm_gc (pu_zret) (sn_zret (jm_dc dc_255_1 17 rfl) rfl) (
  jm_gn))))))))))))))))))
theorem dc_256_0 : ([(0, .aload_n 0, 1), (1, .iload_n 1, 1), (2, .invokevirtual 491, 3), (5, .ifCond .ne 5, 3), (8, .iconst (-1), 1), (9, .ireturn, 1), (10, .iload_n 2, 1), (11, .tableswitch 75 0 4 #[33, 40, 47, 54, 61], 33), (44, .aload_n 0, 1), (45, .getfield 73, 3), (48, .iload_n 1, 1), (49, .iaload, 1), (50, .ireturn, 1), (51, .aload_n 0, 1), (52, .getfield 76, 3), (55, .iload_n 1, 1), (56, .iaload, 1), (57, .ireturn, 1), (58, .aload_n 0, 1), (59, .getfield 79, 3), (62, .iload_n 1, 1), (63, .iaload, 1), (64, .ireturn, 1), (65, .aload_n 0, 1), (66, .getfield 82, 3)] : List (Nat × Instr × Nat)).all (fun e => decide (decode prog_14_method_88_code e.1 = .ok e.2)) = true := by decide +kernel
abbrev cl_256_0 : List (Nat × jm_O) := [(0, op_aload 0 1), (1, op_iload 1 1), (2, op_callV 11 252 2), (5, op_ifne 10), (8, op_ic (-1) 1), (9, op_iret), (10, op_iload 2 1), (11, op_sw 86 [(0, 44), (1, 51), (2, 58), (3, 65), (4, 72)]), (44, op_aload 0 1), (45, op_getA 11 25), (48, op_iload 1 1), (49, op_iald 13), (50, op_iret), (51, op_aload 0 1), (52, op_getA 11 26), (55, op_iload 1 1), (56, op_iald 13), (57, op_iret), (58, op_aload 0 1), (59, op_getA 11 27), (62, op_iload 1 1), (63, op_iald 13), (64, op_iret), (65, op_aload 0 1), (66, op_getA 11 28)]
set_option maxRecDepth 100000 in
theorem gl_256_0 : jm_gl "FrescoWallModel" prog_14_method_88_code 3 (Option.some Jvm.ClassFile.FieldType.int) false cl_256_0 :=
  jm_gc (pu_aload _ _) (sn_aload_n (i := 0) (jm_dc dc_256_0 0 rfl)) (
  jm_gc (pu_iload _ _) (sn_iload_n (i := 1) (jm_dc dc_256_0 1 rfl)) (
  jm_gc (pu_callV _ _ _) (sn_callV (jm_dc dc_256_0 2 rfl) lk_11_491) (
  jm_gc (pu_ifne _) (sn_ifne (jm_dc dc_256_0 3 rfl) (by decide)) (
  jm_gc (pu_ic _ _) (sn_iconst (jm_dc dc_256_0 4 rfl) (by decide)) (
  jm_gc (pu_iret) (sn_iret (jm_dc dc_256_0 5 rfl) rfl) (
  jm_gc (pu_iload _ _) (sn_iload_n (i := 2) (jm_dc dc_256_0 6 rfl)) (
  jm_gc (pu_sw _ _) (sn_tsw (jm_dc dc_256_0 7 rfl) (by decide) (by decide) (by decide)) (
  jm_gc (pu_aload _ _) (sn_aload_n (i := 0) (jm_dc dc_256_0 8 rfl)) (
  jm_gc (pu_getA _ _) (sn_getA (jm_dc dc_256_0 9 rfl) fl_11_73 rfl) (
  jm_gc (pu_iload _ _) (sn_iload_n (i := 1) (jm_dc dc_256_0 10 rfl)) (
  jm_gc (pu_iald _) (sn_iald (jm_dc dc_256_0 11 rfl)) (
  jm_gc (pu_iret) (sn_iret (jm_dc dc_256_0 12 rfl) rfl) (
  jm_gc (pu_aload _ _) (sn_aload_n (i := 0) (jm_dc dc_256_0 13 rfl)) (
  jm_gc (pu_getA _ _) (sn_getA (jm_dc dc_256_0 14 rfl) fl_11_76 rfl) (
  jm_gc (pu_iload _ _) (sn_iload_n (i := 1) (jm_dc dc_256_0 15 rfl)) (
  jm_gc (pu_iald _) (sn_iald (jm_dc dc_256_0 16 rfl)) (
  jm_gc (pu_iret) (sn_iret (jm_dc dc_256_0 17 rfl) rfl) (
  jm_gc (pu_aload _ _) (sn_aload_n (i := 0) (jm_dc dc_256_0 18 rfl)) (
  jm_gc (pu_getA _ _) (sn_getA (jm_dc dc_256_0 19 rfl) fl_11_79 rfl) (
  jm_gc (pu_iload _ _) (sn_iload_n (i := 1) (jm_dc dc_256_0 20 rfl)) (
  jm_gc (pu_iald _) (sn_iald (jm_dc dc_256_0 21 rfl)) (
  jm_gc (pu_iret) (sn_iret (jm_dc dc_256_0 22 rfl) rfl) (
  jm_gc (pu_aload _ _) (sn_aload_n (i := 0) (jm_dc dc_256_0 23 rfl)) (
  jm_gc (pu_getA _ _) (sn_getA (jm_dc dc_256_0 24 rfl) fl_11_82 rfl) (
  jm_gn)))))))))))))))))))))))))
theorem dc_256_1 : ([(69, .iload_n 1, 1), (70, .iaload, 1), (71, .ireturn, 1), (72, .aload_n 0, 1), (73, .iload_n 1, 1), (74, .invokevirtual 497, 3), (77, .ifCond .eq 7, 3), (80, .iconst 1, 1), (81, .goto 4, 3), (84, .iconst 0, 1), (85, .ireturn, 1), (86, .iconst (-1), 1), (87, .ireturn, 1)] : List (Nat × Instr × Nat)).all (fun e => decide (decode prog_14_method_88_code e.1 = .ok e.2)) = true := by decide +kernel
abbrev cl_256_1 : List (Nat × jm_O) := [(69, op_iload 1 1), (70, op_iald 13), (71, op_iret), (72, op_aload 0 1), (73, op_iload 1 1), (74, op_callV 11 255 2), (77, op_ifeq 84), (80, op_ic 1 1), (81, op_goto 85), (84, op_ic 0 1), (85, op_iret), (86, op_ic (-1) 1), (87, op_iret)]
set_option maxRecDepth 100000 in
theorem gl_256_1 : jm_gl "FrescoWallModel" prog_14_method_88_code 3 (Option.some Jvm.ClassFile.FieldType.int) false cl_256_1 :=
  jm_gc (pu_iload _ _) (sn_iload_n (i := 1) (jm_dc dc_256_1 0 rfl)) (
  jm_gc (pu_iald _) (sn_iald (jm_dc dc_256_1 1 rfl)) (
  jm_gc (pu_iret) (sn_iret (jm_dc dc_256_1 2 rfl) rfl) (
  jm_gc (pu_aload _ _) (sn_aload_n (i := 0) (jm_dc dc_256_1 3 rfl)) (
  jm_gc (pu_iload _ _) (sn_iload_n (i := 1) (jm_dc dc_256_1 4 rfl)) (
  jm_gc (pu_callV _ _ _) (sn_callV (jm_dc dc_256_1 5 rfl) lk_11_497) (
  jm_gc (pu_ifeq _) (sn_ifeq (jm_dc dc_256_1 6 rfl) (by decide)) (
  jm_gc (pu_ic _ _) (sn_iconst (jm_dc dc_256_1 7 rfl) (by decide)) (
  jm_gc (pu_goto _) (sn_goto (jm_dc dc_256_1 8 rfl) (by decide)) (
  jm_gc (pu_ic _ _) (sn_iconst (jm_dc dc_256_1 9 rfl) (by decide)) (
  jm_gc (pu_iret) (sn_iret (jm_dc dc_256_1 10 rfl) rfl) (
  jm_gc (pu_ic _ _) (sn_iconst (jm_dc dc_256_1 11 rfl) (by decide)) (
  jm_gc (pu_iret) (sn_iret (jm_dc dc_256_1 12 rfl) rfl) (
  jm_gn)))))))))))))
theorem dc_257_0 : ([(0, .iconst 0, 1), (1, .istore_n 2, 1), (2, .iconst 0, 1), (3, .istore_n 3, 1), (4, .iload_n 3, 1), (5, .aload_n 0, 1), (6, .getfield 403, 3), (9, .if_icmp .ge 41, 3), (12, .iload_n 2, 1), (13, .aload_n 0, 1), (14, .getfield 85, 3), (17, .iload_n 3, 1), (18, .baload, 1), (19, .ifCond .eq 22, 3), (22, .aload_n 0, 1), (23, .getfield 112, 3), (26, .aload_n 0, 1), (27, .getfield 73, 3), (30, .iload_n 3, 1), (31, .iaload, 1), (32, .iaload, 1), (33, .iload_n 1, 1), (34, .if_icmp .ne 7, 3), (37, .iconst 1, 1), (38, .goto 4, 3)] : List (Nat × Instr × Nat)).all (fun e => decide (decode prog_14_method_89_code e.1 = .ok e.2)) = true := by decide +kernel
abbrev cl_257_0 : List (Nat × jm_O) := [(0, op_ic 0 1), (1, op_istore 2 1), (2, op_ic 0 1), (3, op_istore 3 1), (4, op_iload 3 1), (5, op_aload 0 1), (6, op_getI 11 24), (9, op_cge 50), (12, op_iload 2 1), (13, op_aload 0 1), (14, op_getA 11 29), (17, op_iload 3 1), (18, op_iald 15), (19, op_ifeq 41), (22, op_aload 0 1), (23, op_getA 11 45), (26, op_aload 0 1), (27, op_getA 11 25), (30, op_iload 3 1), (31, op_iald 13), (32, op_iald 13), (33, op_iload 1 1), (34, op_cne 41), (37, op_ic 1 1), (38, op_goto 42)]
set_option maxRecDepth 100000 in
theorem gl_257_0 : jm_gl "FrescoWallModel" prog_14_method_89_code 4 (Option.some Jvm.ClassFile.FieldType.int) false cl_257_0 :=
  jm_gc (pu_ic _ _) (sn_iconst (jm_dc dc_257_0 0 rfl) (by decide)) (
  jm_gc (pu_istore _ _) (sn_istore_n (i := 2) (jm_dc dc_257_0 1 rfl)) (
  jm_gc (pu_ic _ _) (sn_iconst (jm_dc dc_257_0 2 rfl) (by decide)) (
  jm_gc (pu_istore _ _) (sn_istore_n (i := 3) (jm_dc dc_257_0 3 rfl)) (
  jm_gc (pu_iload _ _) (sn_iload_n (i := 3) (jm_dc dc_257_0 4 rfl)) (
  jm_gc (pu_aload _ _) (sn_aload_n (i := 0) (jm_dc dc_257_0 5 rfl)) (
  jm_gc (pu_getI _ _) (sn_getI (jm_dc dc_257_0 6 rfl) fl_11_403 (Or.inl rfl)) (
  jm_gc (pu_cge _) (sn_cge (jm_dc dc_257_0 7 rfl) (by decide)) (
  jm_gc (pu_iload _ _) (sn_iload_n (i := 2) (jm_dc dc_257_0 8 rfl)) (
  jm_gc (pu_aload _ _) (sn_aload_n (i := 0) (jm_dc dc_257_0 9 rfl)) (
  jm_gc (pu_getA _ _) (sn_getA (jm_dc dc_257_0 10 rfl) fl_11_85 rfl) (
  jm_gc (pu_iload _ _) (sn_iload_n (i := 3) (jm_dc dc_257_0 11 rfl)) (
  jm_gc (pu_iald _) (sn_zald (jm_dc dc_257_0 12 rfl)) (
  jm_gc (pu_ifeq _) (sn_ifeq (jm_dc dc_257_0 13 rfl) (by decide)) (
  jm_gc (pu_aload _ _) (sn_aload_n (i := 0) (jm_dc dc_257_0 14 rfl)) (
  jm_gc (pu_getA _ _) (sn_getA (jm_dc dc_257_0 15 rfl) fl_11_112 rfl) (
  jm_gc (pu_aload _ _) (sn_aload_n (i := 0) (jm_dc dc_257_0 16 rfl)) (
  jm_gc (pu_getA _ _) (sn_getA (jm_dc dc_257_0 17 rfl) fl_11_73 rfl) (
  jm_gc (pu_iload _ _) (sn_iload_n (i := 3) (jm_dc dc_257_0 18 rfl)) (
  jm_gc (pu_iald _) (sn_iald (jm_dc dc_257_0 19 rfl)) (
  jm_gc (pu_iald _) (sn_iald (jm_dc dc_257_0 20 rfl)) (
  jm_gc (pu_iload _ _) (sn_iload_n (i := 1) (jm_dc dc_257_0 21 rfl)) (
  jm_gc (pu_cne _) (sn_cne (jm_dc dc_257_0 22 rfl) (by decide)) (
  jm_gc (pu_ic _ _) (sn_iconst (jm_dc dc_257_0 23 rfl) (by decide)) (
  jm_gc (pu_goto _) (sn_goto (jm_dc dc_257_0 24 rfl) (by decide)) (
  jm_gn)))))))))))))))))))))))))
theorem dc_257_1 : ([(41, .iconst 0, 1), (42, .iadd, 1), (43, .istore_n 2, 1), (44, .iinc 3 1, 3), (47, .goto (-43), 3), (50, .iload_n 2, 1), (51, .ireturn, 1)] : List (Nat × Instr × Nat)).all (fun e => decide (decode prog_14_method_89_code e.1 = .ok e.2)) = true := by decide +kernel
abbrev cl_257_1 : List (Nat × jm_O) := [(41, op_ic 0 1), (42, op_ibin (fun x y => x + y)), (43, op_istore 2 1), (44, op_iinc 3 1), (47, op_goto 4), (50, op_iload 2 1), (51, op_iret)]
set_option maxRecDepth 100000 in
theorem gl_257_1 : jm_gl "FrescoWallModel" prog_14_method_89_code 4 (Option.some Jvm.ClassFile.FieldType.int) false cl_257_1 :=
  jm_gc (pu_ic _ _) (sn_iconst (jm_dc dc_257_1 0 rfl) (by decide)) (
  jm_gc (pu_ibin _) (sn_iadd (jm_dc dc_257_1 1 rfl)) (
  jm_gc (pu_istore _ _) (sn_istore_n (i := 2) (jm_dc dc_257_1 2 rfl)) (
  jm_gc (pu_iinc _ _) (sn_iinc (jm_dc dc_257_1 3 rfl) (by decide)) (
  jm_gc (pu_goto _) (sn_goto (jm_dc dc_257_1 4 rfl) (by decide)) (
  jm_gc (pu_iload _ _) (sn_iload_n (i := 2) (jm_dc dc_257_1 5 rfl)) (
  jm_gc (pu_iret) (sn_iret (jm_dc dc_257_1 6 rfl) rfl) (
  jm_gn)))))))
theorem dc_258_0 : ([(0, .aload_n 0, 1), (1, .iload_n 1, 1), (2, .invokevirtual 222, 3), (5, .ifCond .ne 5, 3), (8, .iconst (-1), 1), (9, .ireturn, 1), (10, .aload_n 0, 1), (11, .invokevirtual 476, 3), (14, .iload_n 2, 1), (15, .ifCond .ne 12, 3), (18, .aload_n 0, 1), (19, .getfield 112, 3), (22, .iload_n 1, 1), (23, .iaload, 1), (24, .goto 40, 3), (27, .iload_n 2, 1), (28, .iconst 1, 1), (29, .if_icmp .ne 16, 3), (32, .aload_n 0, 1), (33, .aload_n 0, 1), (34, .getfield 112, 3), (37, .iload_n 1, 1), (38, .iaload, 1), (39, .invokevirtual 494, 3), (42, .goto 22, 3)] : List (Nat × Instr × Nat)).all (fun e => decide (decode prog_14_method_90_code e.1 = .ok e.2)) = true := by decide +kernel
abbrev cl_258_0 : List (Nat × jm_O) := [(0, op_aload 0 1), (1, op_iload 1 1), (2, op_callV 11 172 2), (5, op_ifne 10), (8, op_ic (-1) 1), (9, op_iret), (10, op_aload 0 1), (11, op_callV 11 231 1), (14, op_iload 2 1), (15, op_ifne 27), (18, op_aload 0 1), (19, op_getA 11 45), (22, op_iload 1 1), (23, op_iald 13), (24, op_goto 64), (27, op_iload 2 1), (28, op_ic 1 1), (29, op_cne 45), (32, op_aload 0 1), (33, op_aload 0 1), (34, op_getA 11 45), (37, op_iload 1 1), (38, op_iald 13), (39, op_callV 11 253 2), (42, op_goto 64)]
set_option maxRecDepth 100000 in
theorem gl_258_0 : jm_gl "FrescoWallModel" prog_14_method_90_code 3 (Option.some Jvm.ClassFile.FieldType.int) false cl_258_0 :=
  jm_gc (pu_aload _ _) (sn_aload_n (i := 0) (jm_dc dc_258_0 0 rfl)) (
  jm_gc (pu_iload _ _) (sn_iload_n (i := 1) (jm_dc dc_258_0 1 rfl)) (
  jm_gc (pu_callV _ _ _) (sn_callV (jm_dc dc_258_0 2 rfl) lk_11_222) (
  jm_gc (pu_ifne _) (sn_ifne (jm_dc dc_258_0 3 rfl) (by decide)) (
  jm_gc (pu_ic _ _) (sn_iconst (jm_dc dc_258_0 4 rfl) (by decide)) (
  jm_gc (pu_iret) (sn_iret (jm_dc dc_258_0 5 rfl) rfl) (
  jm_gc (pu_aload _ _) (sn_aload_n (i := 0) (jm_dc dc_258_0 6 rfl)) (
  jm_gc (pu_callV _ _ _) (sn_callV (jm_dc dc_258_0 7 rfl) lk_11_476) (
  jm_gc (pu_iload _ _) (sn_iload_n (i := 2) (jm_dc dc_258_0 8 rfl)) (
  jm_gc (pu_ifne _) (sn_ifne (jm_dc dc_258_0 9 rfl) (by decide)) (
  jm_gc (pu_aload _ _) (sn_aload_n (i := 0) (jm_dc dc_258_0 10 rfl)) (
  jm_gc (pu_getA _ _) (sn_getA (jm_dc dc_258_0 11 rfl) fl_11_112 rfl) (
  jm_gc (pu_iload _ _) (sn_iload_n (i := 1) (jm_dc dc_258_0 12 rfl)) (
  jm_gc (pu_iald _) (sn_iald (jm_dc dc_258_0 13 rfl)) (
  jm_gc (pu_goto _) (sn_goto (jm_dc dc_258_0 14 rfl) (by decide)) (
  jm_gc (pu_iload _ _) (sn_iload_n (i := 2) (jm_dc dc_258_0 15 rfl)) (
  jm_gc (pu_ic _ _) (sn_iconst (jm_dc dc_258_0 16 rfl) (by decide)) (
  jm_gc (pu_cne _) (sn_cne (jm_dc dc_258_0 17 rfl) (by decide)) (
  jm_gc (pu_aload _ _) (sn_aload_n (i := 0) (jm_dc dc_258_0 18 rfl)) (
  jm_gc (pu_aload _ _) (sn_aload_n (i := 0) (jm_dc dc_258_0 19 rfl)) (
  jm_gc (pu_getA _ _) (sn_getA (jm_dc dc_258_0 20 rfl) fl_11_112 rfl) (
  jm_gc (pu_iload _ _) (sn_iload_n (i := 1) (jm_dc dc_258_0 21 rfl)) (
  jm_gc (pu_iald _) (sn_iald (jm_dc dc_258_0 22 rfl)) (
  jm_gc (pu_callV _ _ _) (sn_callV (jm_dc dc_258_0 23 rfl) lk_11_494) (
  jm_gc (pu_goto _) (sn_goto (jm_dc dc_258_0 24 rfl) (by decide)) (
  jm_gn)))))))))))))))))))))))))
theorem dc_258_1 : ([(45, .iload_n 2, 1), (46, .iconst 2, 1), (47, .if_icmp .ne 16, 3), (50, .aload_n 0, 1), (51, .aload_n 0, 1), (52, .getfield 112, 3), (55, .iload_n 1, 1), (56, .iaload, 1), (57, .invokevirtual 500, 3), (60, .goto 4, 3), (63, .iconst (-1), 1), (64, .ireturn, 1)] : List (Nat × Instr × Nat)).all (fun e => decide (decode prog_14_method_90_code e.1 = .ok e.2)) = true := by decide +kernel
abbrev cl_258_1 : List (Nat × jm_O) := [(45, op_iload 2 1), (46, op_ic 2 1), (47, op_cne 63), (50, op_aload 0 1), (51, op_aload 0 1), (52, op_getA 11 45), (55, op_iload 1 1), (56, op_iald 13), (57, op_callV 11 257 2), (60, op_goto 64), (63, op_ic (-1) 1), (64, op_iret)]
set_option maxRecDepth 100000 in
theorem gl_258_1 : jm_gl "FrescoWallModel" prog_14_method_90_code 3 (Option.some Jvm.ClassFile.FieldType.int) false cl_258_1 :=
  jm_gc (pu_iload _ _) (sn_iload_n (i := 2) (jm_dc dc_258_1 0 rfl)) (
  jm_gc (pu_ic _ _) (sn_iconst (jm_dc dc_258_1 1 rfl) (by decide)) (
  jm_gc (pu_cne _) (sn_cne (jm_dc dc_258_1 2 rfl) (by decide)) (
  jm_gc (pu_aload _ _) (sn_aload_n (i := 0) (jm_dc dc_258_1 3 rfl)) (
  jm_gc (pu_aload _ _) (sn_aload_n (i := 0) (jm_dc dc_258_1 4 rfl)) (
  jm_gc (pu_getA _ _) (sn_getA (jm_dc dc_258_1 5 rfl) fl_11_112 rfl) (
  jm_gc (pu_iload _ _) (sn_iload_n (i := 1) (jm_dc dc_258_1 6 rfl)) (
  jm_gc (pu_iald _) (sn_iald (jm_dc dc_258_1 7 rfl)) (
  jm_gc (pu_callV _ _ _) (sn_callV (jm_dc dc_258_1 8 rfl) lk_11_500) (
  jm_gc (pu_goto _) (sn_goto (jm_dc dc_258_1 9 rfl) (by decide)) (
  jm_gc (pu_ic _ _) (sn_iconst (jm_dc dc_258_1 10 rfl) (by decide)) (
  jm_gc (pu_iret) (sn_iret (jm_dc dc_258_1 11 rfl) rfl) (
  jm_gn))))))))))))
theorem dc_259_0 : ([(0, .aload_n 0, 1), (1, .getfield 438, 3), (4, .ifCond .ne 5, 3), (7, .iconst (-1), 1), (8, .ireturn, 1), (9, .iload_n 1, 1), (10, .tableswitch 50 0 3 #[30, 35, 40, 45], 30), (40, .aload_n 0, 1), (41, .getfield 438, 3), (44, .ireturn, 1), (45, .aload_n 0, 1), (46, .getfield 447, 3), (49, .ireturn, 1), (50, .aload_n 0, 1), (51, .getfield 441, 3), (54, .ireturn, 1), (55, .aload_n 0, 1), (56, .getfield 444, 3), (59, .ireturn, 1), (60, .iload_n 1, 1), (61, .bipush 10, 2), (63, .isub, 1), (64, .iconst 0, 1), (65, .aload_n 0, 1), (66, .getfield 447, 3)] : List (Nat × Instr × Nat)).all (fun e => decide (decode prog_14_method_91_code e.1 = .ok e.2)) = true := by decide +kernel
abbrev cl_259_0 : List (Nat × jm_O) := [(0, op_aload 0 1), (1, op_getI 11 35), (4, op_ifne 9), (7, op_ic (-1) 1), (8, op_iret), (9, op_iload 1 1), (10, op_sw 60 [(0, 40), (1, 45), (2, 50), (3, 55)]), (40, op_aload 0 1), (41, op_getI 11 35), (44, op_iret), (45, op_aload 0 1), (46, op_getI 11 36), (49, op_iret), (50, op_aload 0 1), (51, op_getI 11 37), (54, op_iret), (55, op_aload 0 1), (56, op_getI 11 38), (59, op_iret), (60, op_iload 1 1), (61, op_ic 10 2), (63, op_ibin (fun x y => x - y)), (64, op_ic 0 1), (65, op_aload 0 1), (66, op_getI 11 36)]
set_option maxRecDepth 100000 in
theorem gl_259_0 : jm_gl "FrescoWallModel" prog_14_method_91_code 2 (Option.some Jvm.ClassFile.FieldType.int) false cl_259_0 :=
  jm_gc (pu_aload _ _) (sn_aload_n (i := 0) (jm_dc dc_259_0 0 rfl)) (
  jm_gc (pu_getI _ _) (sn_getI (jm_dc dc_259_0 1 rfl) fl_11_438 (Or.inl rfl)) (
  jm_gc (pu_ifne _) (sn_ifne (jm_dc dc_259_0 2 rfl) (by decide)) (
  jm_gc (pu_ic _ _) (sn_iconst (jm_dc dc_259_0 3 rfl) (by decide)) (
  jm_gc (pu_iret) (sn_iret (jm_dc dc_259_0 4 rfl) rfl) (
  jm_gc (pu_iload _ _) (sn_iload_n (i := 1) (jm_dc dc_259_0 5 rfl)) (
  jm_gc (pu_sw _ _) (sn_tsw (jm_dc dc_259_0 6 rfl) (by decide) (by decide) (by decide)) (
  jm_gc (pu_aload _ _) (sn_aload_n (i := 0) (jm_dc dc_259_0 7 rfl)) (
  jm_gc (pu_getI _ _) (sn_getI (jm_dc dc_259_0 8 rfl) fl_11_438 (Or.inl rfl)) (
  jm_gc (pu_iret) (sn_iret (jm_dc dc_259_0 9 rfl) rfl) (
  jm_gc (pu_aload _ _) (sn_aload_n (i := 0) (jm_dc dc_259_0 10 rfl)) (
  jm_gc (pu_getI _ _) (sn_getI (jm_dc dc_259_0 11 rfl) fl_11_447 (Or.inl rfl)) (
  jm_gc (pu_iret) (sn_iret (jm_dc dc_259_0 12 rfl) rfl) (
  jm_gc (pu_aload _ _) (sn_aload_n (i := 0) (jm_dc dc_259_0 13 rfl)) (
  jm_gc (pu_getI _ _) (sn_getI (jm_dc dc_259_0 14 rfl) fl_11_441 (Or.inl rfl)) (
  jm_gc (pu_iret) (sn_iret (jm_dc dc_259_0 15 rfl) rfl) (
  jm_gc (pu_aload _ _) (sn_aload_n (i := 0) (jm_dc dc_259_0 16 rfl)) (
  jm_gc (pu_getI _ _) (sn_getI (jm_dc dc_259_0 17 rfl) fl_11_444 (Or.inl rfl)) (
  jm_gc (pu_iret) (sn_iret (jm_dc dc_259_0 18 rfl) rfl) (
  jm_gc (pu_iload _ _) (sn_iload_n (i := 1) (jm_dc dc_259_0 19 rfl)) (
  jm_gc (pu_ic _ _) (sn_bipush (jm_dc dc_259_0 20 rfl) (by decide)) (
  jm_gc (pu_ibin _) (sn_isub (jm_dc dc_259_0 21 rfl)) (
  jm_gc (pu_ic _ _) (sn_iconst (jm_dc dc_259_0 22 rfl) (by decide)) (
  jm_gc (pu_aload _ _) (sn_aload_n (i := 0) (jm_dc dc_259_0 23 rfl)) (
  jm_gc (pu_getI _ _) (sn_getI (jm_dc dc_259_0 24 rfl) fl_11_447 (Or.inl rfl)) (
  jm_gn)))))))))))))))))))))))))
theorem dc_259_1 : ([(69, .iconst 1, 1), (70, .isub, 1), (71, .invokestatic 218, 3), (74, .ifCond .eq 15, 3), (77, .aload_n 0, 1), (78, .getfield 103, 3), (81, .iload_n 1, 1), (82, .bipush 10, 2), (84, .isub, 1), (85, .iaload, 1), (86, .goto 4, 3), (89, .iconst (-1), 1), (90, .ireturn, 1)] : List (Nat × Instr × Nat)).all (fun e => decide (decode prog_14_method_91_code e.1 = .ok e.2)) = true := by decide +kernel
abbrev cl_259_1 : List (Nat × jm_O) := [(69, op_ic 1 1), (70, op_ibin (fun x y => x - y)), (71, op_callS 171 3), (74, op_ifeq 89), (77, op_aload 0 1), (78, op_getA 11 39), (81, op_iload 1 1), (82, op_ic 10 2), (84, op_ibin (fun x y => x - y)), (85, op_iald 13), (86, op_goto 90), (89, op_ic (-1) 1), (90, op_iret)]
set_option maxRecDepth 100000 in
theorem gl_259_1 : jm_gl "FrescoWallModel" prog_14_method_91_code 2 (Option.some Jvm.ClassFile.FieldType.int) false cl_259_1 :=
  jm_gc (pu_ic _ _) (sn_iconst (jm_dc dc_259_1 0 rfl) (by decide)) (
  jm_gc (pu_ibin _) (sn_isub (jm_dc dc_259_1 1 rfl)) (
  jm_gc (pu_callS _ _) (sn_callS (jm_dc dc_259_1 2 rfl) lk_11_218) (
  jm_gc (pu_ifeq _) (sn_ifeq (jm_dc dc_259_1 3 rfl) (by decide)) (
  jm_gc (pu_aload _ _) (sn_aload_n (i := 0) (jm_dc dc_259_1 4 rfl)) (
  jm_gc (pu_getA _ _) (sn_getA (jm_dc dc_259_1 5 rfl) fl_11_103 rfl) (
  jm_gc (pu_iload _ _) (sn_iload_n (i := 1) (jm_dc dc_259_1 6 rfl)) (
  jm_gc (pu_ic _ _) (sn_bipush (jm_dc dc_259_1 7 rfl) (by decide)) (
  jm_gc (pu_ibin _) (sn_isub (jm_dc dc_259_1 8 rfl)) (
  jm_gc (pu_iald _) (sn_iald (jm_dc dc_259_1 9 rfl)) (
  jm_gc (pu_goto _) (sn_goto (jm_dc dc_259_1 10 rfl) (by decide)) (
  jm_gc (pu_ic _ _) (sn_iconst (jm_dc dc_259_1 11 rfl) (by decide)) (
  jm_gc (pu_iret) (sn_iret (jm_dc dc_259_1 12 rfl) rfl) (
  jm_gn)))))))))))))
theorem dc_260_0 : ([(0, .iload_n 0, 1), (1, .iconst 0, 1), (2, .iconst 3, 1), (3, .invokestatic 218, 3), (6, .ifCond .eq 33, 3), (9, .iload_n 1, 1), (10, .sipush (-500), 3), (13, .sipush 500, 3), (16, .invokestatic 218, 3), (19, .ifCond .eq 20, 3), (22, .iload_n 2, 1), (23, .sipush (-500), 3), (26, .sipush 500, 3), (29, .invokestatic 218, 3), (32, .ifCond .eq 7, 3), (35, .iconst 1, 1), (36, .goto 4, 3), (39, .iconst 0, 1), (40, .ireturn, 1)] : List (Nat × Instr × Nat)).all (fun e => decide (decode prog_14_method_92_code e.1 = .ok e.2)) = true := by decide +kernel
abbrev cl_260_0 : List (Nat × jm_O) := [(0, op_iload 0 1), (1, op_ic 0 1), (2, op_ic 3 1), (3, op_callS 171 3), (6, op_ifeq 39), (9, op_iload 1 1), (10, op_ic (-500) 3), (13, op_ic 500 3), (16, op_callS 171 3), (19, op_ifeq 39), (22, op_iload 2 1), (23, op_ic (-500) 3), (26, op_ic 500 3), (29, op_callS 171 3), (32, op_ifeq 39), (35, op_ic 1 1), (36, op_goto 40), (39, op_ic 0 1), (40, op_zret)]
set_option maxRecDepth 100000 in
theorem gl_260_0 : jm_gl "FrescoWallModel" prog_14_method_92_code 3 (Option.some Jvm.ClassFile.FieldType.boolean) false cl_260_0 :=
  jm_gc (pu_iload _ _) (sn_iload_n (i := 0) (jm_dc dc_260_0 0 rfl)) (
  jm_gc (pu_ic _ _) (sn_iconst (jm_dc dc_260_0 1 rfl) (by decide)) (
  jm_gc (pu_ic _ _) (sn_iconst (jm_dc dc_260_0 2 rfl) (by decide)) (
  jm_gc (pu_callS _ _) (sn_callS (jm_dc dc_260_0 3 rfl) lk_11_218) (
  jm_gc (pu_ifeq _) (sn_ifeq (jm_dc dc_260_0 4 rfl) (by decide)) (
  jm_gc (pu_iload _ _) (sn_iload_n (i := 1) (jm_dc dc_260_0 5 rfl)) (
  jm_gc (pu_ic _ _) (sn_sipush (jm_dc dc_260_0 6 rfl) (by decide)) (
  jm_gc (pu_ic _ _) (sn_sipush (jm_dc dc_260_0 7 rfl) (by decide)) (
  jm_gc (pu_callS _ _) (sn_callS (jm_dc dc_260_0 8 rfl) lk_11_218) (
  jm_gc (pu_ifeq _) (sn_ifeq (jm_dc dc_260_0 9 rfl) (by decide)) (
  jm_gc (pu_iload _ _) (sn_iload_n (i := 2) (jm_dc dc_260_0 10 rfl)) (
  jm_gc (pu_ic _ _) (sn_sipush (jm_dc dc_260_0 11 rfl) (by decide)) (
  jm_gc (pu_ic _ _) (sn_sipush (jm_dc dc_260_0 12 rfl) (by decide)) (
  jm_gc (pu_callS _ _) (sn_callS (jm_dc dc_260_0 13 rfl) lk_11_218) (
  jm_gc (pu_ifeq _) (sn_ifeq (jm_dc dc_260_0 14 rfl) (by decide)) (
  jm_gc (pu_ic _ _) (sn_iconst (jm_dc dc_260_0 15 rfl) (by decide)) (
  jm_gc (pu_goto _) (sn_goto (jm_dc dc_260_0 16 rfl) (by decide)) (
  jm_gc (pu_ic _ _) (sn_iconst (jm_dc dc_260_0 17 rfl) (by decide)) (
  jm_gc (pu_zret) (sn_zret (jm_dc dc_260_0 18 rfl) rfl) (
  jm_gn)))))))))))))))))))
theorem dc_261_0 : ([(0, .aload_n 0, 1), (1, .getfield 94, 3), (4, .iload_n 1, 1), (5, .iload_n 2, 1), (6, .iastore, 1), (7, .aload_n 0, 1), (8, .getfield 97, 3), (11, .iload_n 1, 1), (12, .iload_n 3, 1), (13, .iastore, 1), (14, .aload_n 0, 1), (15, .getfield 100, 3), (18, .iload_n 1, 1), (19, .iload 4, 2), (21, .iastore, 1), (22, .return_, 1)] : List (Nat × Instr × Nat)).all (fun e => decide (decode prog_14_method_93_code e.1 = .ok e.2)) = true := by decide +kernel
abbrev cl_261_0 : List (Nat × jm_O) := [(0, op_aload 0 1), (1, op_getA 11 32), (4, op_iload 1 1), (5, op_iload 2 1), (6, op_iast), (7, op_aload 0 1), (8, op_getA 11 33), (11, op_iload 1 1), (12, op_iload 3 1), (13, op_iast), (14, op_aload 0 1), (15, op_getA 11 34), (18, op_iload 1 1), (19, op_iload 4 2), (21, op_iast), (22, op_vret)]
set_option maxRecDepth 100000 in
theorem gl_261_0 : jm_gl "FrescoWallModel" prog_14_method_93_code 5 (Option.none : Option Jvm.ClassFile.FieldType) false cl_261_0 :=
  jm_gc (pu_aload _ _) (sn_aload_n (i := 0) (jm_dc dc_261_0 0 rfl)) (
  jm_gc (pu_getA _ _) (sn_getA (jm_dc dc_261_0 1 rfl) fl_11_94 rfl) (
  jm_gc (pu_iload _ _) (sn_iload_n (i := 1) (jm_dc dc_261_0 2 rfl)) (
  jm_gc (pu_iload _ _) (sn_iload_n (i := 2) (jm_dc dc_261_0 3 rfl)) (
  jm_gc (pu_iast) (sn_iast (jm_dc dc_261_0 4 rfl)) (
  jm_gc (pu_aload _ _) (sn_aload_n (i := 0) (jm_dc dc_261_0 5 rfl)) (
  jm_gc (pu_getA _ _) (sn_getA (jm_dc dc_261_0 6 rfl) fl_11_97 rfl) (
  jm_gc (pu_iload _ _) (sn_iload_n (i := 1) (jm_dc dc_261_0 7 rfl)) (
  jm_gc (pu_iload _ _) (sn_iload_n (i := 3) (jm_dc dc_261_0 8 rfl)) (
  jm_gc (pu_iast) (sn_iast (jm_dc dc_261_0 9 rfl)) (
  jm_gc (pu_aload _ _) (sn_aload_n (i := 0) (jm_dc dc_261_0 10 rfl)) (
  jm_gc (pu_getA _ _) (sn_getA (jm_dc dc_261_0 11 rfl) fl_11_100 rfl) (
  jm_gc (pu_iload _ _) (sn_iload_n (i := 1) (jm_dc dc_261_0 12 rfl)) (
  jm_gc (pu_iload _ _) (sn_iload (jm_dc dc_261_0 13 rfl)) (
  jm_gc (pu_iast) (sn_iast (jm_dc dc_261_0 14 rfl)) (
  jm_gc (pu_vret) (sn_vret (jm_dc dc_261_0 15 rfl) rfl) (
  jm_gn))))))))))))))))
theorem dc_262_0 : ([(0, .iconst 0, 1), (1, .istore_n 2, 1), (2, .iload_n 2, 1), (3, .aload_n 0, 1), (4, .getfield 215, 3), (7, .if_icmp .ge 39, 3), (10, .aload_n 0, 1), (11, .getfield 91, 3), (14, .iload_n 2, 1), (15, .aload_n 0, 1), (16, .getfield 91, 3), (19, .iload_n 2, 1), (20, .baload, 1), (21, .ifCond .eq 17, 3), (24, .aload_n 0, 1), (25, .getfield 112, 3), (28, .iload_n 2, 1), (29, .iaload, 1), (30, .iload_n 1, 1), (31, .if_icmp .eq 7, 3), (34, .iconst 1, 1), (35, .goto 4, 3), (38, .iconst 0, 1), (39, .bastore, 1), (40, .iinc 2 1, 3)] : List (Nat × Instr × Nat)).all (fun e => decide (decode prog_14_method_94_code e.1 = .ok e.2)) = true := by decide +kernel
abbrev cl_262_0 : List (Nat × jm_O) := [(0, op_ic 0 1), (1, op_istore 2 1), (2, op_iload 2 1), (3, op_aload 0 1), (4, op_getI 11 3), (7, op_cge 46), (10, op_aload 0 1), (11, op_getA 11 31), (14, op_iload 2 1), (15, op_aload 0 1), (16, op_getA 11 31), (19, op_iload 2 1), (20, op_iald 15), (21, op_ifeq 38), (24, op_aload 0 1), (25, op_getA 11 45), (28, op_iload 2 1), (29, op_iald 13), (30, op_iload 1 1), (31, op_ceq 38), (34, op_ic 1 1), (35, op_goto 39), (38, op_ic 0 1), (39, op_zast), (40, op_iinc 2 1)]
set_option maxRecDepth 100000 in
theorem gl_262_0 : jm_gl "FrescoWallModel" prog_14_method_94_code 3 (Option.none : Option Jvm.ClassFile.FieldType) false cl_262_0 :=
  jm_gc (pu_ic _ _) (sn_iconst (jm_dc dc_262_0 0 rfl) (by decide)) (
  jm_gc (pu_istore _ _) (sn_istore_n (i := 2) (jm_dc dc_262_0 1 rfl)) (
  jm_gc (pu_iload _ _) (sn_iload_n (i := 2) (jm_dc dc_262_0 2 rfl)) (
  jm_gc (pu_aload _ _) (sn_aload_n (i := 0) (jm_dc dc_262_0 3 rfl)) (
  jm_gc (pu_getI _ _) (sn_getI (jm_dc dc_262_0 4 rfl) fl_11_215 (Or.inl rfl)) (
  jm_gc (pu_cge _) (sn_cge (jm_dc dc_262_0 5 rfl) (by decide)) (
  jm_gc (pu_aload _ _) (sn_aload_n (i := 0) (jm_dc dc_262_0 6 rfl)) (
  jm_gc (pu_getA _ _) (sn_getA (jm_dc dc_262_0 7 rfl) fl_11_91 rfl) (
  jm_gc (pu_iload _ _) (sn_iload_n (i := 2) (jm_dc dc_262_0 8 rfl)) (
  jm_gc (pu_aload _ _) (sn_aload_n (i := 0) (jm_dc dc_262_0 9 rfl)) (
  jm_gc (pu_getA _ _) (sn_getA (jm_dc dc_262_0 10 rfl) fl_11_91 rfl) (
  jm_gc (pu_iload _ _) (sn_iload_n (i := 2) (jm_dc dc_262_0 11 rfl)) (
  jm_gc (pu_iald _) (sn_zald (jm_dc dc_262_0 12 rfl)) (
  jm_gc (pu_ifeq _) (sn_ifeq (jm_dc dc_262_0 13 rfl) (by decide)) (
  jm_gc (pu_aload _ _) (sn_aload_n (i := 0) (jm_dc dc_262_0 14 rfl)) (
  jm_gc (pu_getA _ _) (sn_getA (jm_dc dc_262_0 15 rfl) fl_11_112 rfl) (
  jm_gc (pu_iload _ _) (sn_iload_n (i := 2) (jm_dc dc_262_0 16 rfl)) (
  jm_gc (pu_iald _) (sn_iald (jm_dc dc_262_0 17 rfl)) (
  jm_gc (pu_iload _ _) (sn_iload_n (i := 1) (jm_dc dc_262_0 18 rfl)) (
  jm_gc (pu_ceq _) (sn_ceq (jm_dc dc_262_0 19 rfl) (by decide)) (
  jm_gc (pu_ic _ _) (sn_iconst (jm_dc dc_262_0 20 rfl) (by decide)) (
  jm_gc (pu_goto _) (sn_goto (jm_dc dc_262_0 21 rfl) (by decide)) (
  jm_gc (pu_ic _ _) (sn_iconst (jm_dc dc_262_0 22 rfl) (by decide)) (
  jm_gc (pu_zast) (sn_zast (jm_dc dc_262_0 23 rfl)) (
  jm_gc (pu_iinc _ _) (sn_iinc (jm_dc dc_262_0 24 rfl) (by decide)) (
  jm_gn)))))))))))))))))))))))))
theorem dc_262_1 : ([(43, .goto (-41), 3), (46, .return_, 1)] : List (Nat × Instr × Nat)).all (fun e => decide (decode prog_14_method_94_code e.1 = .ok e.2)) = true := by decide +kernel
abbrev cl_262_1 : List (Nat × jm_O) := [(43, op_goto 2), (46, op_vret)]
set_option maxRecDepth 100000 in
theorem gl_262_1 : jm_gl "FrescoWallModel" prog_14_method_94_code 3 (Option.none : Option Jvm.ClassFile.FieldType) false cl_262_1 :=
  jm_gc (pu_goto _) (sn_goto (jm_dc dc_262_1 0 rfl) (by decide)) (
  jm_gc (pu_vret) (sn_vret (jm_dc dc_262_1 1 rfl) rfl) (
  jm_gn))
theorem dc_263_0 : ([(0, .iconst 0, 1), (1, .istore 5, 2), (3, .iload 5, 2), (5, .aload_n 0, 1), (6, .getfield 215, 3), (9, .if_icmp .ge 106, 3), (12, .iload 5, 2), (14, .iload_n 1, 1), (15, .if_icmp .eq 94, 3), (18, .aload_n 0, 1), (19, .getfield 112, 3), (22, .iload 5, 2), (24, .iaload, 1), (25, .aload_n 0, 1), (26, .getfield 112, 3), (29, .iload_n 1, 1), (30, .iaload, 1), (31, .if_icmp .ne 78, 3), (34, .aload_n 0, 1), (35, .getfield 88, 3), (38, .iload 5, 2), (40, .baload, 1), (41, .ifCond .eq 68, 3), (44, .aload_n 0, 1), (45, .iload_n 2, 1)] : List (Nat × Instr × Nat)).all (fun e => decide (decode prog_14_method_95_code e.1 = .ok e.2)) = true := by decide +kernel
abbrev cl_263_0 : List (Nat × jm_O) := [(0, op_ic 0 1), (1, op_istore 5 2), (3, op_iload 5 2), (5, op_aload 0 1), (6, op_getI 11 3), (9, op_cge 115), (12, op_iload 5 2), (14, op_iload 1 1), (15, op_ceq 109), (18, op_aload 0 1), (19, op_getA 11 45), (22, op_iload 5 2), (24, op_iald 13), (25, op_aload 0 1), (26, op_getA 11 45), (29, op_iload 1 1), (30, op_iald 13), (31, op_cne 109), (34, op_aload 0 1), (35, op_getA 11 30), (38, op_iload 5 2), (40, op_iald 15), (41, op_ifeq 109), (44, op_aload 0 1), (45, op_iload 2 1)]
set_option maxRecDepth 100000 in
theorem gl_263_0 : jm_gl "FrescoWallModel" prog_14_method_95_code 6 (Option.some Jvm.ClassFile.FieldType.int) false cl_263_0 :=
  jm_gc (pu_ic _ _) (sn_iconst (jm_dc dc_263_0 0 rfl) (by decide)) (
  jm_gc (pu_istore _ _) (sn_istore (jm_dc dc_263_0 1 rfl)) (
  jm_gc (pu_iload _ _) (sn_iload (jm_dc dc_263_0 2 rfl)) (
  jm_gc (pu_aload _ _) (sn_aload_n (i := 0) (jm_dc dc_263_0 3 rfl)) (
  jm_gc (pu_getI _ _) (sn_getI (jm_dc dc_263_0 4 rfl) fl_11_215 (Or.inl rfl)) (
  jm_gc (pu_cge _) (sn_cge (jm_dc dc_263_0 5 rfl) (by decide)) (
  jm_gc (pu_iload _ _) (sn_iload (jm_dc dc_263_0 6 rfl)) (
  jm_gc (pu_iload _ _) (sn_iload_n (i := 1) (jm_dc dc_263_0 7 rfl)) (
  jm_gc (pu_ceq _) (sn_ceq (jm_dc dc_263_0 8 rfl) (by decide)) (
  jm_gc (pu_aload _ _) (sn_aload_n (i := 0) (jm_dc dc_263_0 9 rfl)) (
  jm_gc (pu_getA _ _) (sn_getA (jm_dc dc_263_0 10 rfl) fl_11_112 rfl) (
  jm_gc (pu_iload _ _) (sn_iload (jm_dc dc_263_0 11 rfl)) (
  jm_gc (pu_iald _) (sn_iald (jm_dc dc_263_0 12 rfl)) (
  jm_gc (pu_aload _ _) (sn_aload_n (i := 0) (jm_dc dc_263_0 13 rfl)) (
  jm_gc (pu_getA _ _) (sn_getA (jm_dc dc_263_0 14 rfl) fl_11_112 rfl) (
  jm_gc (pu_iload _ _) (sn_iload_n (i := 1) (jm_dc dc_263_0 15 rfl)) (
  jm_gc (pu_iald _) (sn_iald (jm_dc dc_263_0 16 rfl)) (
  jm_gc (pu_cne _) (sn_cne (jm_dc dc_263_0 17 rfl) (by decide)) (
  jm_gc (pu_aload _ _) (sn_aload_n (i := 0) (jm_dc dc_263_0 18 rfl)) (
  jm_gc (pu_getA _ _) (sn_getA (jm_dc dc_263_0 19 rfl) fl_11_88 rfl) (
  jm_gc (pu_iload _ _) (sn_iload (jm_dc dc_263_0 20 rfl)) (
  jm_gc (pu_iald _) (sn_zald (jm_dc dc_263_0 21 rfl)) (
  jm_gc (pu_ifeq _) (sn_ifeq (jm_dc dc_263_0 22 rfl) (by decide)) (
  jm_gc (pu_aload _ _) (sn_aload_n (i := 0) (jm_dc dc_263_0 23 rfl)) (
  jm_gc (pu_iload _ _) (sn_iload_n (i := 2) (jm_dc dc_263_0 24 rfl)) (
  jm_gn)))))))))))))))))))))))))
theorem dc_263_1 : ([(46, .iload_n 3, 1), (47, .iload 4, 2), (49, .invokevirtual 393, 3), (52, .aload_n 0, 1), (53, .iload_n 1, 1), (54, .iload 5, 2), (56, .invokevirtual 432, 3), (59, .aload_n 0, 1), (60, .aload_n 0, 1), (61, .getfield 94, 3), (64, .iload 5, 2), (66, .iaload, 1), (67, .aload_n 0, 1), (68, .getfield 97, 3), (71, .iload 5, 2), (73, .iaload, 1), (74, .aload_n 0, 1), (75, .getfield 100, 3), (78, .iload 5, 2), (80, .iaload, 1), (81, .invokevirtual 466, 3), (84, .ifCond .ne 25, 3), (87, .aload_n 0, 1), (88, .iconst 0, 1), (89, .putfield 426, 3)] : List (Nat × Instr × Nat)).all (fun e => decide (decode prog_14_method_95_code e.1 = .ok e.2)) = true := by decide +kernel
abbrev cl_263_1 : List (Nat × jm_O) := [(46, op_iload 3 1), (47, op_iload 4 2), (49, op_callV 11 225 4), (52, op_aload 0 1), (53, op_iload 1 1), (54, op_iload 5 2), (56, op_callV 11 235 3), (59, op_aload 0 1), (60, op_aload 0 1), (61, op_getA 11 32), (64, op_iload 5 2), (66, op_iald 13), (67, op_aload 0 1), (68, op_getA 11 33), (71, op_iload 5 2), (73, op_iald 13), (74, op_aload 0 1), (75, op_getA 11 34), (78, op_iload 5 2), (80, op_iald 13), (81, op_callV 11 228 4), (84, op_ifne 109), (87, op_aload 0 1), (88, op_ic 0 1), (89, op_putI 11 55)]
set_option maxRecDepth 100000 in
theorem gl_263_1 : jm_gl "FrescoWallModel" prog_14_method_95_code 6 (Option.some Jvm.ClassFile.FieldType.int) false cl_263_1 :=
  jm_gc (pu_iload _ _) (sn_iload_n (i := 3) (jm_dc dc_263_1 0 rfl)) (
  jm_gc (pu_iload _ _) (sn_iload (jm_dc dc_263_1 1 rfl)) (
  jm_gc (pu_callV _ _ _) (sn_callV (jm_dc dc_263_1 2 rfl) lk_11_393) (
  jm_gc (pu_aload _ _) (sn_aload_n (i := 0) (jm_dc dc_263_1 3 rfl)) (
  jm_gc (pu_iload _ _) (sn_iload_n (i := 1) (jm_dc dc_263_1 4 rfl)) (
  jm_gc (pu_iload _ _) (sn_iload (jm_dc dc_263_1 5 rfl)) (
  jm_gc (pu_callV _ _ _) (sn_callV (jm_dc dc_263_1 6 rfl) lk_11_432) (
  jm_gc (pu_aload _ _) (sn_aload_n (i := 0) (jm_dc dc_263_1 7 rfl)) (
  jm_gc (pu_aload _ _) (sn_aload_n (i := 0) (jm_dc dc_263_1 8 rfl)) (
  jm_gc (pu_getA _ _) (sn_getA (jm_dc dc_263_1 9 rfl) fl_11_94 rfl) (
  jm_gc (pu_iload _ _) (sn_iload (jm_dc dc_263_1 10 rfl)) (
  jm_gc (pu_iald _) (sn_iald (jm_dc dc_263_1 11 rfl)) (
  jm_gc (pu_aload _ _) (sn_aload_n (i := 0) (jm_dc dc_263_1 12 rfl)) (
  jm_gc (pu_getA _ _) (sn_getA (jm_dc dc_263_1 13 rfl) fl_11_97 rfl) (
  jm_gc (pu_iload _ _) (sn_iload (jm_dc dc_263_1 14 rfl)) (
  jm_gc (pu_iald _) (sn_iald (jm_dc dc_263_1 15 rfl)) (
  jm_gc (pu_aload _ _) (sn_aload_n (i := 0) (jm_dc dc_263_1 16 rfl)) (
  jm_gc (pu_getA _ _) (sn_getA (jm_dc dc_263_1 17 rfl) fl_11_100 rfl) (
  jm_gc (pu_iload _ _) (sn_iload (jm_dc dc_263_1 18 rfl)) (
  jm_gc (pu_iald _) (sn_iald (jm_dc dc_263_1 19 rfl)) (
  jm_gc (pu_callV _ _ _) (sn_callV (jm_dc dc_263_1 20 rfl) lk_11_466) (
  jm_gc (pu_ifne _) (sn_ifne (jm_dc dc_263_1 21 rfl) (by decide)) (
  jm_gc (pu_aload _ _) (sn_aload_n (i := 0) (jm_dc dc_263_1 22 rfl)) (
  jm_gc (pu_ic _ _) (sn_iconst (jm_dc dc_263_1 23 rfl) (by decide)) (
  jm_gc (pu_putI _ _) (sn_putI (jm_dc dc_263_1 24 rfl) flw_11_426 rfl) (
  jm_gn)))))))))))))))))))))))))
theorem dc_263_2 : ([(92, .aload_n 0, 1), (93, .iload 5, 2), (95, .iload_n 1, 1), (96, .iconst 0, 1), (97, .invokevirtual 459, 3), (100, .aload_n 0, 1), (101, .iconst 4, 1), (102, .iload 5, 2), (104, .iload_n 1, 1), (105, .invokevirtual 453, 3), (108, .ireturn, 1), (109, .iinc 5 1, 3), (112, .goto (-109), 3), (115, .aload_n 0, 1), (116, .invokevirtual 463, 3), (119, .aload_n 0, 1), (120, .iload_n 1, 1), (121, .iload_n 2, 1), (122, .iload_n 3, 1), (123, .iload 4, 2), (125, .invokevirtual 469, 3), (128, .aload_n 0, 1), (129, .aload_n 0, 1), (130, .getfield 112, 3), (133, .iload_n 1, 1)] : List (Nat × Instr × Nat)).all (fun e => decide (decode prog_14_method_95_code e.1 = .ok e.2)) = true := by decide +kernel
abbrev cl_263_2 : List (Nat × jm_O) := [(92, op_aload 0 1), (93, op_iload 5 2), (95, op_iload 1 1), (96, op_ic 0 1), (97, op_callV 11 238 4), (100, op_aload 0 1), (101, op_ic 4 1), (102, op_iload 5 2), (104, op_iload 1 1), (105, op_callV 11 245 4), (108, op_iret), (109, op_iinc 5 1), (112, op_goto 3), (115, op_aload 0 1), (116, op_callV 11 242 1), (119, op_aload 0 1), (120, op_iload 1 1), (121, op_iload 2 1), (122, op_iload 3 1), (123, op_iload 4 2), (125, op_callV 11 243 5), (128, op_aload 0 1), (129, op_aload 0 1), (130, op_getA 11 45), (133, op_iload 1 1)]
set_option maxRecDepth 100000 in
theorem gl_263_2 : jm_gl "FrescoWallModel" prog_14_method_95_code 6 (Option.some Jvm.ClassFile.FieldType.int) false cl_263_2 :=
  jm_gc (pu_aload _ _) (sn_aload_n (i := 0) (jm_dc dc_263_2 0 rfl)) (
  jm_gc (pu_iload _ _) (sn_iload (jm_dc dc_263_2 1 rfl)) (
  jm_gc (pu_iload _ _) (sn_iload_n (i := 1) (jm_dc dc_263_2 2 rfl)) (
  jm_gc (pu_ic _ _) (sn_iconst (jm_dc dc_263_2 3 rfl) (by decide)) (
  jm_gc (pu_callV _ _ _) (sn_callV (jm_dc dc_263_2 4 rfl) lk_11_459) (
  jm_gc (pu_aload _ _) (sn_aload_n (i := 0) (jm_dc dc_263_2 5 rfl)) (
  jm_gc (pu_ic _ _) (sn_iconst (jm_dc dc_263_2 6 rfl) (by decide)) (
  jm_gc (pu_iload _ _) (sn_iload (jm_dc dc_263_2 7 rfl)) (
  jm_gc (pu_iload _ _) (sn_iload_n (i := 1) (jm_dc dc_263_2 8 rfl)) (
  jm_gc (pu_callV _ _ _) (sn_callV (jm_dc dc_263_2 9 rfl) lk_11_453) (
  jm_gc (pu_iret) (sn_iret (jm_dc dc_263_2 10 rfl) rfl) (
  jm_gc (pu_iinc _ _) (sn_iinc (jm_dc dc_263_2 11 rfl) (by decide)) (
  jm_gc (pu_goto _) (sn_goto (jm_dc dc_263_2 12 rfl) (by decide)) (
  jm_gc (pu_aload _ _) (sn_aload_n (i := 0) (jm_dc dc_263_2 13 rfl)) (
  jm_gc (pu_callV _ _ _) (sn_callV (jm_dc dc_263_2 14 rfl) lk_11_463) (
  jm_gc (pu_aload _ _) (sn_aload_n (i := 0) (jm_dc dc_263_2 15 rfl)) (
  jm_gc (pu_iload _ _) (sn_iload_n (i := 1) (jm_dc dc_263_2 16 rfl)) (
  jm_gc (pu_iload _ _) (sn_iload_n (i := 2) (jm_dc dc_263_2 17 rfl)) (
  jm_gc (pu_iload _ _) (sn_iload_n (i := 3) (jm_dc dc_263_2 18 rfl)) (
  jm_gc (pu_iload _ _) (sn_iload (jm_dc dc_263_2 19 rfl)) (
  jm_gc (pu_callV _ _ _) (sn_callV (jm_dc dc_263_2 20 rfl) lk_11_469) (
  jm_gc (pu_aload _ _) (sn_aload_n (i := 0) (jm_dc dc_263_2 21 rfl)) (
  jm_gc (pu_aload _ _) (sn_aload_n (i := 0) (jm_dc dc_263_2 22 rfl)) (
  jm_gc (pu_getA _ _) (sn_getA (jm_dc dc_263_2 23 rfl) fl_11_112 rfl) (
  jm_gc (pu_iload _ _) (sn_iload_n (i := 1) (jm_dc dc_263_2 24 rfl)) (
  jm_gn)))))))))))))))))))))))))
theorem dc_263_3 : ([(134, .iaload, 1), (135, .iconst (-1), 1), (136, .invokevirtual 473, 3), (139, .ireturn, 1)] : List (Nat × Instr × Nat)).all (fun e => decide (decode prog_14_method_95_code e.1 = .ok e.2)) = true := by decide +kernel
abbrev cl_263_3 : List (Nat × jm_O) := [(134, op_iald 13), (135, op_ic (-1) 1), (136, op_callV 11 246 3), (139, op_iret)]
set_option maxRecDepth 100000 in
theorem gl_263_3 : jm_gl "FrescoWallModel" prog_14_method_95_code 6 (Option.some Jvm.ClassFile.FieldType.int) false cl_263_3 :=
  jm_gc (pu_iald _) (sn_iald (jm_dc dc_263_3 0 rfl)) (
  jm_gc (pu_ic _ _) (sn_iconst (jm_dc dc_263_3 1 rfl) (by decide)) (
  jm_gc (pu_callV _ _ _) (sn_callV (jm_dc dc_263_3 2 rfl) lk_11_473) (
  jm_gc (pu_iret) (sn_iret (jm_dc dc_263_3 3 rfl) rfl) (
  jm_gn))))
theorem dc_264_0 : ([(0, .aload_n 0, 1), (1, .iload_n 1, 1), (2, .invokevirtual 222, 3), (5, .ifCond .ne 5, 3), (8, .iconst (-1), 1), (9, .ireturn, 1), (10, .iload_n 2, 1), (11, .iload_n 3, 1), (12, .iload 4, 2), (14, .invokestatic 503, 3), (17, .ifCond .ne 6, 3), (20, .bipush (-2), 2), (22, .ireturn, 1), (23, .aload_n 0, 1), (24, .invokevirtual 476, 3), (27, .aload_n 0, 1), (28, .iload_n 1, 1), (29, .iload_n 2, 1), (30, .iload_n 3, 1), (31, .iload 4, 2), (33, .invokevirtual 506, 3), (36, .istore 5, 2), (38, .iload 5, 2), (40, .ifCond .eq 6, 3), (43, .iload 5, 2)] : List (Nat × Instr × Nat)).all (fun e => decide (decode prog_14_method_96_code e.1 = .ok e.2)) = true := by decide +kernel
abbrev cl_264_0 : List (Nat × jm_O) := [(0, op_aload 0 1), (1, op_iload 1 1), (2, op_callV 11 172 2), (5, op_ifne 10), (8, op_ic (-1) 1), (9, op_iret), (10, op_iload 2 1), (11, op_iload 3 1), (12, op_iload 4 2), (14, op_callS 260 3), (17, op_ifne 23), (20, op_ic (-2) 2), (22, op_iret), (23, op_aload 0 1), (24, op_callV 11 231 1), (27, op_aload 0 1), (28, op_iload 1 1), (29, op_iload 2 1), (30, op_iload 3 1), (31, op_iload 4 2), (33, op_callV 11 263 5), (36, op_istore 5 2), (38, op_iload 5 2), (40, op_ifeq 46), (43, op_iload 5 2)]
set_option maxRecDepth 100000 in
theorem gl_264_0 : jm_gl "FrescoWallModel" prog_14_method_96_code 6 (Option.some Jvm.ClassFile.FieldType.int) false cl_264_0 :=
  jm_gc (pu_aload _ _) (sn_aload_n (i := 0) (jm_dc dc_264_0 0 rfl)) (
  jm_gc (pu_iload _ _) (sn_iload_n (i := 1) (jm_dc dc_264_0 1 rfl)) (
  jm_gc (pu_callV _ _ _) (sn_callV (jm_dc dc_264_0 2 rfl) lk_11_222) (
  jm_gc (pu_ifne _) (sn_ifne (jm_dc dc_264_0 3 rfl) (by decide)) (
  jm_gc (pu_ic _ _) (sn_iconst (jm_dc dc_264_0 4 rfl) (by decide)) (
  jm_gc (pu_iret) (sn_iret (jm_dc dc_264_0 5 rfl) rfl) (
  jm_gc (pu_iload _ _) (sn_iload_n (i := 2) (jm_dc dc_264_0 6 rfl)) (
  jm_gc (pu_iload _ _) (sn_iload_n (i := 3) (jm_dc dc_264_0 7 rfl)) (
  jm_gc (pu_iload _ _) (sn_iload (jm_dc dc_264_0 8 rfl)) (
  jm_gc (pu_callS _ _) (sn_callS (jm_dc dc_264_0 9 rfl) lk_11_503) (
  jm_gc (pu_ifne _) (sn_ifne (jm_dc dc_264_0 10 rfl) (by decide)) (
  jm_gc (pu_ic _ _) (sn_bipush (jm_dc dc_264_0 11 rfl) (by decide)) (
  jm_gc (pu_iret) (sn_iret (jm_dc dc_264_0 12 rfl) rfl) (
  jm_gc (pu_aload _ _) (sn_aload_n (i := 0) (jm_dc dc_264_0 13 rfl)) (
  jm_gc (pu_callV _ _ _) (sn_callV (jm_dc dc_264_0 14 rfl) lk_11_476) (
  jm_gc (pu_aload _ _) (sn_aload_n (i := 0) (jm_dc dc_264_0 15 rfl)) (
  jm_gc (pu_iload _ _) (sn_iload_n (i := 1) (jm_dc dc_264_0 16 rfl)) (
  jm_gc (pu_iload _ _) (sn_iload_n (i := 2) (jm_dc dc_264_0 17 rfl)) (
  jm_gc (pu_iload _ _) (sn_iload_n (i := 3) (jm_dc dc_264_0 18 rfl)) (
  jm_gc (pu_iload _ _) (sn_iload (jm_dc dc_264_0 19 rfl)) (
  jm_gc (pu_callV _ _ _) (sn_callV (jm_dc dc_264_0 20 rfl) lk_11_506) (
  jm_gc (pu_istore _ _) (sn_istore (jm_dc dc_264_0 21 rfl)) (
  jm_gc (pu_iload _ _) (sn_iload (jm_dc dc_264_0 22 rfl)) (
  jm_gc (pu_ifeq _) (sn_ifeq (jm_dc dc_264_0 23 rfl) (by decide)) (
  jm_gc (pu_iload _ _) (sn_iload (jm_dc dc_264_0 24 rfl)) (
  jm_gn)))))))))))))))))))))))))
theorem dc_264_1 : ([(45, .ireturn, 1), (46, .aload_n 0, 1), (47, .aload_n 0, 1), (48, .getfield 112, 3), (51, .iload_n 1, 1), (52, .iaload, 1), (53, .invokevirtual 509, 3), (56, .aload_n 0, 1), (57, .getfield 88, 3), (60, .iload_n 1, 1), (61, .iconst 1, 1), (62, .bastore, 1), (63, .aload_n 0, 1), (64, .iload_n 1, 1), (65, .iload_n 2, 1), (66, .iload_n 3, 1), (67, .iload 4, 2), (69, .invokevirtual 512, 3), (72, .aload_n 0, 1), (73, .aload_n 0, 1), (74, .getfield 112, 3), (77, .iload_n 1, 1), (78, .iaload, 1), (79, .invokevirtual 494, 3), (82, .ireturn, 1)] : List (Nat × Instr × Nat)).all (fun e => decide (decode prog_14_method_96_code e.1 = .ok e.2)) = true := by decide +kernel
abbrev cl_264_1 : List (Nat × jm_O) := [(45, op_iret), (46, op_aload 0 1), (47, op_aload 0 1), (48, op_getA 11 45), (51, op_iload 1 1), (52, op_iald 13), (53, op_callV 11 262 2), (56, op_aload 0 1), (57, op_getA 11 30), (60, op_iload 1 1), (61, op_ic 1 1), (62, op_zast), (63, op_aload 0 1), (64, op_iload 1 1), (65, op_iload 2 1), (66, op_iload 3 1), (67, op_iload 4 2), (69, op_callV 11 261 5), (72, op_aload 0 1), (73, op_aload 0 1), (74, op_getA 11 45), (77, op_iload 1 1), (78, op_iald 13), (79, op_callV 11 253 2), (82, op_iret)]
set_option maxRecDepth 100000 in
theorem gl_264_1 : jm_gl "FrescoWallModel" prog_14_method_96_code 6 (Option.some Jvm.ClassFile.FieldType.int) false cl_264_1 :=
  jm_gc (pu_iret) (sn_iret (jm_dc dc_264_1 0 rfl) rfl) (
  jm_gc (pu_aload _ _) (sn_aload_n (i := 0) (jm_dc dc_264_1 1 rfl)) (
  jm_gc (pu_aload _ _) (sn_aload_n (i := 0) (jm_dc dc_264_1 2 rfl)) (
  jm_gc (pu_getA _ _) (sn_getA (jm_dc dc_264_1 3 rfl) fl_11_112 rfl) (
  jm_gc (pu_iload _ _) (sn_iload_n (i := 1) (jm_dc dc_264_1 4 rfl)) (
  jm_gc (pu_iald _) (sn_iald (jm_dc dc_264_1 5 rfl)) (
  jm_gc (pu_callV _ _ _) (sn_callV (jm_dc dc_264_1 6 rfl) lk_11_509) (
  jm_gc (pu_aload _ _) (sn_aload_n (i := 0) (jm_dc dc_264_1 7 rfl)) (
  jm_gc (pu_getA _ _) (sn_getA (jm_dc dc_264_1 8 rfl) fl_11_88 rfl) (
  jm_gc (pu_iload _ _) (sn_iload_n (i := 1) (jm_dc dc_264_1 9 rfl)) (
  jm_gc (pu_ic _ _) (sn_iconst (jm_dc dc_264_1 10 rfl) (by decide)) (
  jm_gc (pu_zast) (sn_zast (jm_dc dc_264_1 11 rfl)) (
  jm_gc (pu_aload _ _) (sn_aload_n (i := 0) (jm_dc dc_264_1 12 rfl)) (
  jm_gc (pu_iload _ _) (sn_iload_n (i := 1) (jm_dc dc_264_1 13 rfl)) (
  jm_gc (pu_iload _ _) (sn_iload_n (i := 2) (jm_dc dc_264_1 14 rfl)) (
  jm_gc (pu_iload _ _) (sn_iload_n (i := 3) (jm_dc dc_264_1 15 rfl)) (
  jm_gc (pu_iload _ _) (sn_iload (jm_dc dc_264_1 16 rfl)) (
  jm_gc (pu_callV _ _ _) (sn_callV (jm_dc dc_264_1 17 rfl) lk_11_512) (
  jm_gc (pu_aload _ _) (sn_aload_n (i := 0) (jm_dc dc_264_1 18 rfl)) (
  jm_gc (pu_aload _ _) (sn_aload_n (i := 0) (jm_dc dc_264_1 19 rfl)) (
  jm_gc (pu_getA _ _) (sn_getA (jm_dc dc_264_1 20 rfl) fl_11_112 rfl) (
  jm_gc (pu_iload _ _) (sn_iload_n (i := 1) (jm_dc dc_264_1 21 rfl)) (
  jm_gc (pu_iald _) (sn_iald (jm_dc dc_264_1 22 rfl)) (
  jm_gc (pu_callV _ _ _) (sn_callV (jm_dc dc_264_1 23 rfl) lk_11_494) (
  jm_gc (pu_iret) (sn_iret (jm_dc dc_264_1 24 rfl) rfl) (
  jm_gn)))))))))))))))))))))))))
theorem dc_265_0 : ([(0, .aload_n 0, 1), (1, .iload_n 1, 1), (2, .invokevirtual 222, 3), (5, .ifCond .ne 5, 3), (8, .iconst (-1), 1), (9, .ireturn, 1), (10, .aload_n 0, 1), (11, .getfield 88, 3), (14, .iload_n 1, 1), (15, .baload, 1), (16, .ifCond .ne 6, 3), (19, .bipush (-3), 2), (21, .ireturn, 1), (22, .aload_n 0, 1), (23, .invokevirtual 476, 3), (26, .aload_n 0, 1), (27, .getfield 88, 3), (30, .iload_n 1, 1), (31, .iconst 0, 1), (32, .bastore, 1), (33, .aload_n 0, 1), (34, .aload_n 0, 1), (35, .getfield 112, 3), (38, .iload_n 1, 1), (39, .iaload, 1)] : List (Nat × Instr × Nat)).all (fun e => decide (decode prog_14_method_97_code e.1 = .ok e.2)) = true := by decide +kernel
abbrev cl_265_0 : List (Nat × jm_O) := [(0, op_aload 0 1), (1, op_iload 1 1), (2, op_callV 11 172 2), (5, op_ifne 10), (8, op_ic (-1) 1), (9, op_iret), (10, op_aload 0 1), (11, op_getA 11 30), (14, op_iload 1 1), (15, op_iald 15), (16, op_ifne 22), (19, op_ic (-3) 2), (21, op_iret), (22, op_aload 0 1), (23, op_callV 11 231 1), (26, op_aload 0 1), (27, op_getA 11 30), (30, op_iload 1 1), (31, op_ic 0 1), (32, op_zast), (33, op_aload 0 1), (34, op_aload 0 1), (35, op_getA 11 45), (38, op_iload 1 1), (39, op_iald 13)]
set_option maxRecDepth 100000 in
theorem gl_265_0 : jm_gl "FrescoWallModel" prog_14_method_97_code 2 (Option.some Jvm.ClassFile.FieldType.int) false cl_265_0 :=
  jm_gc (pu_aload _ _) (sn_aload_n (i := 0) (jm_dc dc_265_0 0 rfl)) (
  jm_gc (pu_iload _ _) (sn_iload_n (i := 1) (jm_dc dc_265_0 1 rfl)) (
  jm_gc (pu_callV _ _ _) (sn_callV (jm_dc dc_265_0 2 rfl) lk_11_222) (
  jm_gc (pu_ifne _) (sn_ifne (jm_dc dc_265_0 3 rfl) (by decide)) (
  jm_gc (pu_ic _ _) (sn_iconst (jm_dc dc_265_0 4 rfl) (by decide)) (
  jm_gc (pu_iret) (sn_iret (jm_dc dc_265_0 5 rfl) rfl) (
  jm_gc (pu_aload _ _) (sn_aload_n (i := 0) (jm_dc dc_265_0 6 rfl)) (
  jm_gc (pu_getA _ _) (sn_getA (jm_dc dc_265_0 7 rfl) fl_11_88 rfl) (
  jm_gc (pu_iload _ _) (sn_iload_n (i := 1) (jm_dc dc_265_0 8 rfl)) (
  jm_gc (pu_iald _) (sn_zald (jm_dc dc_265_0 9 rfl)) (
  jm_gc (pu_ifne _) (sn_ifne (jm_dc dc_265_0 10 rfl) (by decide)) (
  jm_gc (pu_ic _ _) (sn_bipush (jm_dc dc_265_0 11 rfl) (by decide)) (
  jm_gc (pu_iret) (sn_iret (jm_dc dc_265_0 12 rfl) rfl) (
  jm_gc (pu_aload _ _) (sn_aload_n (i := 0) (jm_dc dc_265_0 13 rfl)) (
  jm_gc (pu_callV _ _ _) (sn_callV (jm_dc dc_265_0 14 rfl) lk_11_476) (
  jm_gc (pu_aload _ _) (sn_aload_n (i := 0) (jm_dc dc_265_0 15 rfl)) (
  jm_gc (pu_getA _ _) (sn_getA (jm_dc dc_265_0 16 rfl) fl_11_88 rfl) (
  jm_gc (pu_iload _ _) (sn_iload_n (i := 1) (jm_dc dc_265_0 17 rfl)) (
  jm_gc (pu_ic _ _) (sn_iconst (jm_dc dc_265_0 18 rfl) (by decide)) (
  jm_gc (pu_zast) (sn_zast (jm_dc dc_265_0 19 rfl)) (
  jm_gc (pu_aload _ _) (sn_aload_n (i := 0) (jm_dc dc_265_0 20 rfl)) (
  jm_gc (pu_aload _ _) (sn_aload_n (i := 0) (jm_dc dc_265_0 21 rfl)) (
  jm_gc (pu_getA _ _) (sn_getA (jm_dc dc_265_0 22 rfl) fl_11_112 rfl) (
  jm_gc (pu_iload _ _) (sn_iload_n (i := 1) (jm_dc dc_265_0 23 rfl)) (
  jm_gc (pu_iald _) (sn_iald (jm_dc dc_265_0 24 rfl)) (
  jm_gn)))))))))))))))))))))))))
theorem dc_265_1 : ([(40, .iload_n 1, 1), (41, .invokevirtual 515, 3), (44, .ifCond .ne 20, 3), (47, .aload_n 0, 1), (48, .aload_n 0, 1), (49, .getfield 112, 3), (52, .iload_n 1, 1), (53, .iaload, 1), (54, .invokevirtual 509, 3), (57, .aload_n 0, 1), (58, .getfield 91, 3), (61, .iload_n 1, 1), (62, .iconst 1, 1), (63, .bastore, 1), (64, .iconst 1, 1), (65, .ireturn, 1)] : List (Nat × Instr × Nat)).all (fun e => decide (decode prog_14_method_97_code e.1 = .ok e.2)) = true := by decide +kernel
abbrev cl_265_1 : List (Nat × jm_O) := [(40, op_iload 1 1), (41, op_callV 11 240 3), (44, op_ifne 64), (47, op_aload 0 1), (48, op_aload 0 1), (49, op_getA 11 45), (52, op_iload 1 1), (53, op_iald 13), (54, op_callV 11 262 2), (57, op_aload 0 1), (58, op_getA 11 31), (61, op_iload 1 1), (62, op_ic 1 1), (63, op_zast), (64, op_ic 1 1), (65, op_iret)]
set_option maxRecDepth 100000 in
theorem gl_265_1 : jm_gl "FrescoWallModel" prog_14_method_97_code 2 (Option.some Jvm.ClassFile.FieldType.int) false cl_265_1 :=
  jm_gc (pu_iload _ _) (sn_iload_n (i := 1) (jm_dc dc_265_1 0 rfl)) (
  jm_gc (pu_callV _ _ _) (sn_callV (jm_dc dc_265_1 1 rfl) lk_11_515) (
  jm_gc (pu_ifne _) (sn_ifne (jm_dc dc_265_1 2 rfl) (by decide)) (
  jm_gc (pu_aload _ _) (sn_aload_n (i := 0) (jm_dc dc_265_1 3 rfl)) (
  jm_gc (pu_aload _ _) (sn_aload_n (i := 0) (jm_dc dc_265_1 4 rfl)) (
  jm_gc (pu_getA _ _) (sn_getA (jm_dc dc_265_1 5 rfl) fl_11_112 rfl) (
  jm_gc (pu_iload _ _) (sn_iload_n (i := 1) (jm_dc dc_265_1 6 rfl)) (
  jm_gc (pu_iald _) (sn_iald (jm_dc dc_265_1 7 rfl)) (
  jm_gc (pu_callV _ _ _) (sn_callV (jm_dc dc_265_1 8 rfl) lk_11_509) (
  jm_gc (pu_aload _ _) (sn_aload_n (i := 0) (jm_dc dc_265_1 9 rfl)) (
  jm_gc (pu_getA _ _) (sn_getA (jm_dc dc_265_1 10 rfl) fl_11_91 rfl) (
  jm_gc (pu_iload _ _) (sn_iload_n (i := 1) (jm_dc dc_265_1 11 rfl)) (
  jm_gc (pu_ic _ _) (sn_iconst (jm_dc dc_265_1 12 rfl) (by decide)) (
  jm_gc (pu_zast) (sn_zast (jm_dc dc_265_1 13 rfl)) (
  jm_gc (pu_ic _ _) (sn_iconst (jm_dc dc_265_1 14 rfl) (by decide)) (
  jm_gc (pu_iret) (sn_iret (jm_dc dc_265_1 15 rfl) rfl) (
  jm_gn))))))))))))))))
theorem dc_266_0 : ([(0, .aload_n 0, 1), (1, .iload_n 1, 1), (2, .invokevirtual 222, 3), (5, .ifCond .ne 5, 3), (8, .iconst (-1), 1), (9, .ireturn, 1), (10, .iload_n 2, 1), (11, .iload_n 3, 1), (12, .iload 4, 2), (14, .invokestatic 503, 3), (17, .ifCond .ne 6, 3), (20, .bipush (-2), 2), (22, .ireturn, 1), (23, .aload_n 0, 1), (24, .invokevirtual 476, 3), (27, .aload_n 0, 1), (28, .aload_n 0, 1), (29, .getfield 112, 3), (32, .iload_n 1, 1), (33, .iaload, 1), (34, .iconst (-1), 1), (35, .invokevirtual 515, 3), (38, .ifCond .eq 6, 3), (41, .bipush (-3), 2), (43, .ireturn, 1)] : List (Nat × Instr × Nat)).all (fun e => decide (decode prog_14_method_98_code e.1 = .ok e.2)) = true := by decide +kernel
abbrev cl_266_0 : List (Nat × jm_O) := [(0, op_aload 0 1), (1, op_iload 1 1), (2, op_callV 11 172 2), (5, op_ifne 10), (8, op_ic (-1) 1), (9, op_iret), (10, op_iload 2 1), (11, op_iload 3 1), (12, op_iload 4 2), (14, op_callS 260 3), (17, op_ifne 23), (20, op_ic (-2) 2), (22, op_iret), (23, op_aload 0 1), (24, op_callV 11 231 1), (27, op_aload 0 1), (28, op_aload 0 1), (29, op_getA 11 45), (32, op_iload 1 1), (33, op_iald 13), (34, op_ic (-1) 1), (35, op_callV 11 240 3), (38, op_ifeq 44), (41, op_ic (-3) 2), (43, op_iret)]
set_option maxRecDepth 100000 in
theorem gl_266_0 : jm_gl "FrescoWallModel" prog_14_method_98_code 6 (Option.some Jvm.ClassFile.FieldType.int) false cl_266_0 :=
  jm_gc (pu_aload _ _) (sn_aload_n (i := 0) (jm_dc dc_266_0 0 rfl)) (
  jm_gc (pu_iload _ _) (sn_iload_n (i := 1) (jm_dc dc_266_0 1 rfl)) (
  jm_gc (pu_callV _ _ _) (sn_callV (jm_dc dc_266_0 2 rfl) lk_11_222) (
  jm_gc (pu_ifne _) (sn_ifne (jm_dc dc_266_0 3 rfl) (by decide)) (
  jm_gc (pu_ic _ _) (sn_iconst (jm_dc dc_266_0 4 rfl) (by decide)) (
  jm_gc (pu_iret) (sn_iret (jm_dc dc_266_0 5 rfl) rfl) (
  jm_gc (pu_iload _ _) (sn_iload_n (i := 2) (jm_dc dc_266_0 6 rfl)) (
  jm_gc (pu_iload _ _) (sn_iload_n (i := 3) (jm_dc dc_266_0 7 rfl)) (
  jm_gc (pu_iload _ _) (sn_iload (jm_dc dc_266_0 8 rfl)) (
  jm_gc (pu_callS _ _) (sn_callS (jm_dc dc_266_0 9 rfl) lk_11_503) (
  jm_gc (pu_ifne _) (sn_ifne (jm_dc dc_266_0 10 rfl) (by decide)) (
  jm_gc (pu_ic _ _) (sn_bipush (jm_dc dc_266_0 11 rfl) (by decide)) (
  jm_gc (pu_iret) (sn_iret (jm_dc dc_266_0 12 rfl) rfl) (
  jm_gc (pu_aload _ _) (sn_aload_n (i := 0) (jm_dc dc_266_0 13 rfl)) (
  jm_gc (pu_callV _ _ _) (sn_callV (jm_dc dc_266_0 14 rfl) lk_11_476) (
  jm_gc (pu_aload _ _) (sn_aload_n (i := 0) (jm_dc dc_266_0 15 rfl)) (
  jm_gc (pu_aload _ _) (sn_aload_n (i := 0) (jm_dc dc_266_0 16 rfl)) (
  jm_gc (pu_getA _ _) (sn_getA (jm_dc dc_266_0 17 rfl) fl_11_112 rfl) (
  jm_gc (pu_iload _ _) (sn_iload_n (i := 1) (jm_dc dc_266_0 18 rfl)) (
  jm_gc (pu_iald _) (sn_iald (jm_dc dc_266_0 19 rfl)) (
  jm_gc (pu_ic _ _) (sn_iconst (jm_dc dc_266_0 20 rfl) (by decide)) (
  jm_gc (pu_callV _ _ _) (sn_callV (jm_dc dc_266_0 21 rfl) lk_11_515) (
  jm_gc (pu_ifeq _) (sn_ifeq (jm_dc dc_266_0 22 rfl) (by decide)) (
  jm_gc (pu_ic _ _) (sn_bipush (jm_dc dc_266_0 23 rfl) (by decide)) (
  jm_gc (pu_iret) (sn_iret (jm_dc dc_266_0 24 rfl) rfl) (
  jm_gn)))))))))))))))))))))))))
theorem dc_266_1 : ([(44, .aload_n 0, 1), (45, .iload_n 1, 1), (46, .iload_n 2, 1), (47, .iload_n 3, 1), (48, .iload 4, 2), (50, .invokevirtual 506, 3), (53, .istore 5, 2), (55, .iload 5, 2), (57, .ifCond .eq 6, 3), (60, .iload 5, 2), (62, .ireturn, 1), (63, .aload_n 0, 1), (64, .aload_n 0, 1), (65, .getfield 112, 3), (68, .iload_n 1, 1), (69, .iaload, 1), (70, .invokevirtual 509, 3), (73, .aload_n 0, 1), (74, .getfield 91, 3), (77, .iload_n 1, 1), (78, .iconst 1, 1), (79, .bastore, 1), (80, .aload_n 0, 1), (81, .iload_n 1, 1), (82, .iload_n 2, 1)] : List (Nat × Instr × Nat)).all (fun e => decide (decode prog_14_method_98_code e.1 = .ok e.2)) = true := by decide +kernel
abbrev cl_266_1 : List (Nat × jm_O) := [(44, op_aload 0 1), (45, op_iload 1 1), (46, op_iload 2 1), (47, op_iload 3 1), (48, op_iload 4 2), (50, op_callV 11 263 5), (53, op_istore 5 2), (55, op_iload 5 2), (57, op_ifeq 63), (60, op_iload 5 2), (62, op_iret), (63, op_aload 0 1), (64, op_aload 0 1), (65, op_getA 11 45), (68, op_iload 1 1), (69, op_iald 13), (70, op_callV 11 262 2), (73, op_aload 0 1), (74, op_getA 11 31), (77, op_iload 1 1), (78, op_ic 1 1), (79, op_zast), (80, op_aload 0 1), (81, op_iload 1 1), (82, op_iload 2 1)]
set_option maxRecDepth 100000 in
theorem gl_266_1 : jm_gl "FrescoWallModel" prog_14_method_98_code 6 (Option.some Jvm.ClassFile.FieldType.int) false cl_266_1 :=
  jm_gc (pu_aload _ _) (sn_aload_n (i := 0) (jm_dc dc_266_1 0 rfl)) (
  jm_gc (pu_iload _ _) (sn_iload_n (i := 1) (jm_dc dc_266_1 1 rfl)) (
  jm_gc (pu_iload _ _) (sn_iload_n (i := 2) (jm_dc dc_266_1 2 rfl)) (
  jm_gc (pu_iload _ _) (sn_iload_n (i := 3) (jm_dc dc_266_1 3 rfl)) (
  jm_gc (pu_iload _ _) (sn_iload (jm_dc dc_266_1 4 rfl)) (
  jm_gc (pu_callV _ _ _) (sn_callV (jm_dc dc_266_1 5 rfl) lk_11_506) (
  jm_gc (pu_istore _ _) (sn_istore (jm_dc dc_266_1 6 rfl)) (
  jm_gc (pu_iload _ _) (sn_iload (jm_dc dc_266_1 7 rfl)) (
  jm_gc (pu_ifeq _) (sn_ifeq (jm_dc dc_266_1 8 rfl) (by decide)) (
  jm_gc (pu_iload _ _) (sn_iload (jm_dc dc_266_1 9 rfl)) (
  jm_gc (pu_iret) (sn_iret (jm_dc dc_266_1 10 rfl) rfl) (
  jm_gc (pu_aload _ _) (sn_aload_n (i := 0) (jm_dc dc_266_1 11 rfl)) (
  jm_gc (pu_aload _ _) (sn_aload_n (i := 0) (jm_dc dc_266_1 12 rfl)) (
  jm_gc (pu_getA _ _) (sn_getA (jm_dc dc_266_1 13 rfl) fl_11_112 rfl) (
  jm_gc (pu_iload _ _) (sn_iload_n (i := 1) (jm_dc dc_266_1 14 rfl)) (
  jm_gc (pu_iald _) (sn_iald (jm_dc dc_266_1 15 rfl)) (
  jm_gc (pu_callV _ _ _) (sn_callV (jm_dc dc_266_1 16 rfl) lk_11_509) (
  jm_gc (pu_aload _ _) (sn_aload_n (i := 0) (jm_dc dc_266_1 17 rfl)) (
  jm_gc (pu_getA _ _) (sn_getA (jm_dc dc_266_1 18 rfl) fl_11_91 rfl) (
  jm_gc (pu_iload _ _) (sn_iload_n (i := 1) (jm_dc dc_266_1 19 rfl)) (
  jm_gc (pu_ic _ _) (sn_iconst (jm_dc dc_266_1 20 rfl) (by decide)) (
  jm_gc (pu_zast) (sn_zast (jm_dc dc_266_1 21 rfl)) (
  jm_gc (pu_aload _ _) (sn_aload_n (i := 0) (jm_dc dc_266_1 22 rfl)) (
  jm_gc (pu_iload _ _) (sn_iload_n (i := 1) (jm_dc dc_266_1 23 rfl)) (
  jm_gc (pu_iload _ _) (sn_iload_n (i := 2) (jm_dc dc_266_1 24 rfl)) (
  jm_gn)))))))))))))))))))))))))
theorem dc_266_2 : ([(83, .iload_n 3, 1), (84, .iload 4, 2), (86, .invokevirtual 512, 3), (89, .aload_n 0, 1), (90, .aload_n 0, 1), (91, .getfield 112, 3), (94, .iload_n 1, 1), (95, .iaload, 1), (96, .invokevirtual 494, 3), (99, .ireturn, 1)] : List (Nat × Instr × Nat)).all (fun e => decide (decode prog_14_method_98_code e.1 = .ok e.2)) = true := by decide +kernel
abbrev cl_266_2 : List (Nat × jm_O) := [(83, op_iload 3 1), (84, op_iload 4 2), (86, op_callV 11 261 5), (89, op_aload 0 1), (90, op_aload 0 1), (91, op_getA 11 45), (94, op_iload 1 1), (95, op_iald 13), (96, op_callV 11 253 2), (99, op_iret)]
set_option maxRecDepth 100000 in
theorem gl_266_2 : jm_gl "FrescoWallModel" prog_14_method_98_code 6 (Option.some Jvm.ClassFile.FieldType.int) false cl_266_2 :=
  jm_gc (pu_iload _ _) (sn_iload_n (i := 3) (jm_dc dc_266_2 0 rfl)) (
  jm_gc (pu_iload _ _) (sn_iload (jm_dc dc_266_2 1 rfl)) (
  jm_gc (pu_callV _ _ _) (sn_callV (jm_dc dc_266_2 2 rfl) lk_11_512) (
  jm_gc (pu_aload _ _) (sn_aload_n (i := 0) (jm_dc dc_266_2 3 rfl)) (
  jm_gc (pu_aload _ _) (sn_aload_n (i := 0) (jm_dc dc_266_2 4 rfl)) (
  jm_gc (pu_getA _ _) (sn_getA (jm_dc dc_266_2 5 rfl) fl_11_112 rfl) (
  jm_gc (pu_iload _ _) (sn_iload_n (i := 1) (jm_dc dc_266_2 6 rfl)) (
  jm_gc (pu_iald _) (sn_iald (jm_dc dc_266_2 7 rfl)) (
  jm_gc (pu_callV _ _ _) (sn_callV (jm_dc dc_266_2 8 rfl) lk_11_494) (
  jm_gc (pu_iret) (sn_iret (jm_dc dc_266_2 9 rfl) rfl) (
  jm_gn))))))))))
theorem dc_267_0 : ([(0, .aload_n 0, 1), (1, .iload_n 1, 1), (2, .invokevirtual 222, 3), (5, .ifCond .ne 5, 3), (8, .iconst (-1), 1), (9, .ireturn, 1), (10, .aload_n 0, 1), (11, .invokevirtual 476, 3), (14, .aload_n 0, 1), (15, .aload_n 0, 1), (16, .getfield 112, 3), (19, .iload_n 1, 1), (20, .iaload, 1), (21, .invokevirtual 429, 3), (24, .iconst (-1), 1), (25, .if_icmp .eq 17, 3), (28, .aload_n 0, 1), (29, .aload_n 0, 1), (30, .getfield 112, 3), (33, .iload_n 1, 1), (34, .iaload, 1), (35, .iconst (-1), 1), (36, .invokevirtual 515, 3), (39, .ifCond .eq 6, 3), (42, .bipush (-3), 2)] : List (Nat × Instr × Nat)).all (fun e => decide (decode prog_14_method_99_code e.1 = .ok e.2)) = true := by decide +kernel
abbrev cl_267_0 : List (Nat × jm_O) := [(0, op_aload 0 1), (1, op_iload 1 1), (2, op_callV 11 172 2), (5, op_ifne 10), (8, op_ic (-1) 1), (9, op_iret), (10, op_aload 0 1), (11, op_callV 11 231 1), (14, op_aload 0 1), (15, op_aload 0 1), (16, op_getA 11 45), (19, op_iload 1 1), (20, op_iald 13), (21, op_callV 11 239 2), (24, op_ic (-1) 1), (25, op_ceq 42), (28, op_aload 0 1), (29, op_aload 0 1), (30, op_getA 11 45), (33, op_iload 1 1), (34, op_iald 13), (35, op_ic (-1) 1), (36, op_callV 11 240 3), (39, op_ifeq 45), (42, op_ic (-3) 2)]
set_option maxRecDepth 100000 in
theorem gl_267_0 : jm_gl "FrescoWallModel" prog_14_method_99_code 2 (Option.some Jvm.ClassFile.FieldType.int) false cl_267_0 :=
  jm_gc (pu_aload _ _) (sn_aload_n (i := 0) (jm_dc dc_267_0 0 rfl)) (
  jm_gc (pu_iload _ _) (sn_iload_n (i := 1) (jm_dc dc_267_0 1 rfl)) (
  jm_gc (pu_callV _ _ _) (sn_callV (jm_dc dc_267_0 2 rfl) lk_11_222) (
  jm_gc (pu_ifne _) (sn_ifne (jm_dc dc_267_0 3 rfl) (by decide)) (
  jm_gc (pu_ic _ _) (sn_iconst (jm_dc dc_267_0 4 rfl) (by decide)) (
  jm_gc (pu_iret) (sn_iret (jm_dc dc_267_0 5 rfl) rfl) (
  jm_gc (pu_aload _ _) (sn_aload_n (i := 0) (jm_dc dc_267_0 6 rfl)) (
  jm_gc (pu_callV _ _ _) (sn_callV (jm_dc dc_267_0 7 rfl) lk_11_476) (
  jm_gc (pu_aload _ _) (sn_aload_n (i := 0) (jm_dc dc_267_0 8 rfl)) (
  jm_gc (pu_aload _ _) (sn_aload_n (i := 0) (jm_dc dc_267_0 9 rfl)) (
  jm_gc (pu_getA _ _) (sn_getA (jm_dc dc_267_0 10 rfl) fl_11_112 rfl) (
  jm_gc (pu_iload _ _) (sn_iload_n (i := 1) (jm_dc dc_267_0 11 rfl)) (
  jm_gc (pu_iald _) (sn_iald (jm_dc dc_267_0 12 rfl)) (
  jm_gc (pu_callV _ _ _) (sn_callV (jm_dc dc_267_0 13 rfl) lk_11_429) (
  jm_gc (pu_ic _ _) (sn_iconst (jm_dc dc_267_0 14 rfl) (by decide)) (
  jm_gc (pu_ceq _) (sn_ceq (jm_dc dc_267_0 15 rfl) (by decide)) (
  jm_gc (pu_aload _ _) (sn_aload_n (i := 0) (jm_dc dc_267_0 16 rfl)) (
  jm_gc (pu_aload _ _) (sn_aload_n (i := 0) (jm_dc dc_267_0 17 rfl)) (
  jm_gc (pu_getA _ _) (sn_getA (jm_dc dc_267_0 18 rfl) fl_11_112 rfl) (
  jm_gc (pu_iload _ _) (sn_iload_n (i := 1) (jm_dc dc_267_0 19 rfl)) (
  jm_gc (pu_iald _) (sn_iald (jm_dc dc_267_0 20 rfl)) (
  jm_gc (pu_ic _ _) (sn_iconst (jm_dc dc_267_0 21 rfl) (by decide)) (
  jm_gc (pu_callV _ _ _) (sn_callV (jm_dc dc_267_0 22 rfl) lk_11_515) (
  jm_gc (pu_ifeq _) (sn_ifeq (jm_dc dc_267_0 23 rfl) (by decide)) (
  jm_gc (pu_ic _ _) (sn_bipush (jm_dc dc_267_0 24 rfl) (by decide)) (
  jm_gn)))))))))))))))))))))))))
theorem dc_267_1 : ([(44, .ireturn, 1), (45, .aload_n 0, 1), (46, .aload_n 0, 1), (47, .getfield 112, 3), (50, .iload_n 1, 1), (51, .iaload, 1), (52, .invokevirtual 509, 3), (55, .aload_n 0, 1), (56, .aload_n 0, 1), (57, .getfield 112, 3), (60, .iload_n 1, 1), (61, .iaload, 1), (62, .invokevirtual 494, 3), (65, .ireturn, 1)] : List (Nat × Instr × Nat)).all (fun e => decide (decode prog_14_method_99_code e.1 = .ok e.2)) = true := by decide +kernel
abbrev cl_267_1 : List (Nat × jm_O) := [(44, op_iret), (45, op_aload 0 1), (46, op_aload 0 1), (47, op_getA 11 45), (50, op_iload 1 1), (51, op_iald 13), (52, op_callV 11 262 2), (55, op_aload 0 1), (56, op_aload 0 1), (57, op_getA 11 45), (60, op_iload 1 1), (61, op_iald 13), (62, op_callV 11 253 2), (65, op_iret)]
set_option maxRecDepth 100000 in
theorem gl_267_1 : jm_gl "FrescoWallModel" prog_14_method_99_code 2 (Option.some Jvm.ClassFile.FieldType.int) false cl_267_1 :=
  jm_gc (pu_iret) (sn_iret (jm_dc dc_267_1 0 rfl) rfl) (
  jm_gc (pu_aload _ _) (sn_aload_n (i := 0) (jm_dc dc_267_1 1 rfl)) (
  jm_gc (pu_aload _ _) (sn_aload_n (i := 0) (jm_dc dc_267_1 2 rfl)) (
  jm_gc (pu_getA _ _) (sn_getA (jm_dc dc_267_1 3 rfl) fl_11_112 rfl) (
  jm_gc (pu_iload _ _) (sn_iload_n (i := 1) (jm_dc dc_267_1 4 rfl)) (
  jm_gc (pu_iald _) (sn_iald (jm_dc dc_267_1 5 rfl)) (
  jm_gc (pu_callV _ _ _) (sn_callV (jm_dc dc_267_1 6 rfl) lk_11_509) (
  jm_gc (pu_aload _ _) (sn_aload_n (i := 0) (jm_dc dc_267_1 7 rfl)) (
  jm_gc (pu_aload _ _) (sn_aload_n (i := 0) (jm_dc dc_267_1 8 rfl)) (
  jm_gc (pu_getA _ _) (sn_getA (jm_dc dc_267_1 9 rfl) fl_11_112 rfl) (
  jm_gc (pu_iload _ _) (sn_iload_n (i := 1) (jm_dc dc_267_1 10 rfl)) (
  jm_gc (pu_iald _) (sn_iald (jm_dc dc_267_1 11 rfl)) (
  jm_gc (pu_callV _ _ _) (sn_callV (jm_dc dc_267_1 12 rfl) lk_11_494) (
  jm_gc (pu_iret) (sn_iret (jm_dc dc_267_1 13 rfl) rfl) (
  jm_gn))))))))))))))
theorem dc_268_0 : ([(0, .aload_n 0, 1), (1, .iload_n 1, 1), (2, .invokevirtual 222, 3), (5, .ifCond .eq 12, 3), (8, .iload_n 2, 1), (9, .iconst 0, 1), (10, .iconst 3, 1), (11, .invokestatic 218, 3), (14, .ifCond .ne 7, 3), (17, .ldc_w 334, 3), (20, .ireturn, 1), (21, .aload_n 0, 1), (22, .invokevirtual 476, 3), (25, .aload_n 0, 1), (26, .iload_n 1, 1), (27, .invokevirtual 435, 3), (30, .ifCond .ne 7, 3), (33, .ldc_w 334, 3), (36, .ireturn, 1), (37, .iload_n 2, 1), (38, .ifCond .ne 10, 3), (41, .aload_n 0, 1), (42, .getfield 384, 3), (45, .goto 59, 3), (48, .iload_n 2, 1)] : List (Nat × Instr × Nat)).all (fun e => decide (decode prog_14_method_100_code e.1 = .ok e.2)) = true := by decide +kernel
abbrev cl_268_0 : List (Nat × jm_O) := [(0, op_aload 0 1), (1, op_iload 1 1), (2, op_callV 11 172 2), (5, op_ifeq 17), (8, op_iload 2 1), (9, op_ic 0 1), (10, op_ic 3 1), (11, op_callS 171 3), (14, op_ifne 21), (17, op_ic (-100000) 3), (20, op_iret), (21, op_aload 0 1), (22, op_callV 11 231 1), (25, op_aload 0 1), (26, op_iload 1 1), (27, op_callV 11 241 2), (30, op_ifne 37), (33, op_ic (-100000) 3), (36, op_iret), (37, op_iload 2 1), (38, op_ifne 48), (41, op_aload 0 1), (42, op_getI 11 49), (45, op_goto 104), (48, op_iload 2 1)]
set_option maxRecDepth 100000 in
theorem gl_268_0 : jm_gl "FrescoWallModel" prog_14_method_100_code 3 (Option.some Jvm.ClassFile.FieldType.int) false cl_268_0 :=
  jm_gc (pu_aload _ _) (sn_aload_n (i := 0) (jm_dc dc_268_0 0 rfl)) (
  jm_gc (pu_iload _ _) (sn_iload_n (i := 1) (jm_dc dc_268_0 1 rfl)) (
  jm_gc (pu_callV _ _ _) (sn_callV (jm_dc dc_268_0 2 rfl) lk_11_222) (
  jm_gc (pu_ifeq _) (sn_ifeq (jm_dc dc_268_0 3 rfl) (by decide)) (
  jm_gc (pu_iload _ _) (sn_iload_n (i := 2) (jm_dc dc_268_0 4 rfl)) (
  jm_gc (pu_ic _ _) (sn_iconst (jm_dc dc_268_0 5 rfl) (by decide)) (
  jm_gc (pu_ic _ _) (sn_iconst (jm_dc dc_268_0 6 rfl) (by decide)) (
  jm_gc (pu_callS _ _) (sn_callS (jm_dc dc_268_0 7 rfl) lk_11_218) (
  jm_gc (pu_ifne _) (sn_ifne (jm_dc dc_268_0 8 rfl) (by decide)) (
  jm_gc (pu_ic _ _) (sn_ldcw (jm_dc dc_268_0 9 rfl) (kc_tb 1700 (by decide +kernel))) (
  jm_gc (pu_iret) (sn_iret (jm_dc dc_268_0 10 rfl) rfl) (
  jm_gc (pu_aload _ _) (sn_aload_n (i := 0) (jm_dc dc_268_0 11 rfl)) (
  jm_gc (pu_callV _ _ _) (sn_callV (jm_dc dc_268_0 12 rfl) lk_11_476) (
  jm_gc (pu_aload _ _) (sn_aload_n (i := 0) (jm_dc dc_268_0 13 rfl)) (
  jm_gc (pu_iload _ _) (sn_iload_n (i := 1) (jm_dc dc_268_0 14 rfl)) (
  jm_gc (pu_callV _ _ _) (sn_callV (jm_dc dc_268_0 15 rfl) lk_11_435) (
  jm_gc (pu_ifne _) (sn_ifne (jm_dc dc_268_0 16 rfl) (by decide)) (
  jm_gc (pu_ic _ _) (sn_ldcw (jm_dc dc_268_0 17 rfl) (kc_tb 1700 (by decide +kernel))) (
  jm_gc (pu_iret) (sn_iret (jm_dc dc_268_0 18 rfl) rfl) (
  jm_gc (pu_iload _ _) (sn_iload_n (i := 2) (jm_dc dc_268_0 19 rfl)) (
  jm_gc (pu_ifne _) (sn_ifne (jm_dc dc_268_0 20 rfl) (by decide)) (
  jm_gc (pu_aload _ _) (sn_aload_n (i := 0) (jm_dc dc_268_0 21 rfl)) (
  jm_gc (pu_getI _ _) (sn_getI (jm_dc dc_268_0 22 rfl) fl_11_384 (Or.inl rfl)) (
  jm_gc (pu_goto _) (sn_goto (jm_dc dc_268_0 23 rfl) (by decide)) (
  jm_gc (pu_iload _ _) (sn_iload_n (i := 2) (jm_dc dc_268_0 24 rfl)) (
  jm_gn)))))))))))))))))))))))))
theorem dc_268_1 : ([(49, .iconst 1, 1), (50, .if_icmp .ne 10, 3), (53, .aload_n 0, 1), (54, .getfield 387, 3), (57, .goto 47, 3), (60, .iload_n 2, 1), (61, .iconst 2, 1), (62, .if_icmp .ne 10, 3), (65, .aload_n 0, 1), (66, .getfield 390, 3), (69, .goto 35, 3), (72, .aload_n 0, 1), (73, .getfield 88, 3), (76, .iload_n 1, 1), (77, .baload, 1), (78, .ifCond .eq 7, 3), (81, .iconst 2, 1), (82, .goto 22, 3), (85, .aload_n 0, 1), (86, .aload_n 0, 1), (87, .getfield 112, 3), (90, .iload_n 1, 1), (91, .iaload, 1), (92, .iconst (-1), 1), (93, .invokevirtual 515, 3)] : List (Nat × Instr × Nat)).all (fun e => decide (decode prog_14_method_100_code e.1 = .ok e.2)) = true := by decide +kernel
abbrev cl_268_1 : List (Nat × jm_O) := [(49, op_ic 1 1), (50, op_cne 60), (53, op_aload 0 1), (54, op_getI 11 50), (57, op_goto 104), (60, op_iload 2 1), (61, op_ic 2 1), (62, op_cne 72), (65, op_aload 0 1), (66, op_getI 11 51), (69, op_goto 104), (72, op_aload 0 1), (73, op_getA 11 30), (76, op_iload 1 1), (77, op_iald 15), (78, op_ifeq 85), (81, op_ic 2 1), (82, op_goto 104), (85, op_aload 0 1), (86, op_aload 0 1), (87, op_getA 11 45), (90, op_iload 1 1), (91, op_iald 13), (92, op_ic (-1) 1), (93, op_callV 11 240 3)]
set_option maxRecDepth 100000 in
theorem gl_268_1 : jm_gl "FrescoWallModel" prog_14_method_100_code 3 (Option.some Jvm.ClassFile.FieldType.int) false cl_268_1 :=
  jm_gc (pu_ic _ _) (sn_iconst (jm_dc dc_268_1 0 rfl) (by decide)) (
  jm_gc (pu_cne _) (sn_cne (jm_dc dc_268_1 1 rfl) (by decide)) (
  jm_gc (pu_aload _ _) (sn_aload_n (i := 0) (jm_dc dc_268_1 2 rfl)) (
  jm_gc (pu_getI _ _) (sn_getI (jm_dc dc_268_1 3 rfl) fl_11_387 (Or.inl rfl)) (
  jm_gc (pu_goto _) (sn_goto (jm_dc dc_268_1 4 rfl) (by decide)) (
  jm_gc (pu_iload _ _) (sn_iload_n (i := 2) (jm_dc dc_268_1 5 rfl)) (
  jm_gc (pu_ic _ _) (sn_iconst (jm_dc dc_268_1 6 rfl) (by decide)) (
  jm_gc (pu_cne _) (sn_cne (jm_dc dc_268_1 7 rfl) (by decide)) (
  jm_gc (pu_aload _ _) (sn_aload_n (i := 0) (jm_dc dc_268_1 8 rfl)) (
  jm_gc (pu_getI _ _) (sn_getI (jm_dc dc_268_1 9 rfl) fl_11_390 (Or.inl rfl)) (
  jm_gc (pu_goto _) (sn_goto (jm_dc dc_268_1 10 rfl) (by decide)) (
  jm_gc (pu_aload _ _) (sn_aload_n (i := 0) (jm_dc dc_268_1 11 rfl)) (
  jm_gc (pu_getA _ _) (sn_getA (jm_dc dc_268_1 12 rfl) fl_11_88 rfl) (
  jm_gc (pu_iload _ _) (sn_iload_n (i := 1) (jm_dc dc_268_1 13 rfl)) (
  jm_gc (pu_iald _) (sn_zald (jm_dc dc_268_1 14 rfl)) (
  jm_gc (pu_ifeq _) (sn_ifeq (jm_dc dc_268_1 15 rfl) (by decide)) (
  jm_gc (pu_ic _ _) (sn_iconst (jm_dc dc_268_1 16 rfl) (by decide)) (
  jm_gc (pu_goto _) (sn_goto (jm_dc dc_268_1 17 rfl) (by decide)) (
  jm_gc (pu_aload _ _) (sn_aload_n (i := 0) (jm_dc dc_268_1 18 rfl)) (
  jm_gc (pu_aload _ _) (sn_aload_n (i := 0) (jm_dc dc_268_1 19 rfl)) (
  jm_gc (pu_getA _ _) (sn_getA (jm_dc dc_268_1 20 rfl) fl_11_112 rfl) (
  jm_gc (pu_iload _ _) (sn_iload_n (i := 1) (jm_dc dc_268_1 21 rfl)) (
  jm_gc (pu_iald _) (sn_iald (jm_dc dc_268_1 22 rfl)) (
  jm_gc (pu_ic _ _) (sn_iconst (jm_dc dc_268_1 23 rfl) (by decide)) (
  jm_gc (pu_callV _ _ _) (sn_callV (jm_dc dc_268_1 24 rfl) lk_11_515) (
  jm_gn)))))))))))))))))))))))))
theorem dc_268_2 : ([(96, .ifCond .eq 7, 3), (99, .iconst 1, 1), (100, .goto 4, 3), (103, .iconst 0, 1), (104, .ireturn, 1)] : List (Nat × Instr × Nat)).all (fun e => decide (decode prog_14_method_100_code e.1 = .ok e.2)) = true := by decide +kernel
abbrev cl_268_2 : List (Nat × jm_O) := [(96, op_ifeq 103), (99, op_ic 1 1), (100, op_goto 104), (103, op_ic 0 1), (104, op_iret)]
set_option maxRecDepth 100000 in
theorem gl_268_2 : jm_gl "FrescoWallModel" prog_14_method_100_code 3 (Option.some Jvm.ClassFile.FieldType.int) false cl_268_2 :=
  jm_gc (pu_ifeq _) (sn_ifeq (jm_dc dc_268_2 0 rfl) (by decide)) (
  jm_gc (pu_ic _ _) (sn_iconst (jm_dc dc_268_2 1 rfl) (by decide)) (
  jm_gc (pu_goto _) (sn_goto (jm_dc dc_268_2 2 rfl) (by decide)) (
  jm_gc (pu_ic _ _) (sn_iconst (jm_dc dc_268_2 3 rfl) (by decide)) (
  jm_gc (pu_iret) (sn_iret (jm_dc dc_268_2 4 rfl) rfl) (
  jm_gn)))))
theorem dc_269_0 : ([(0, .aload_n 0, 1), (1, .invokevirtual 476, 3), (4, .iconst 0, 1), (5, .istore_n 3, 1), (6, .iload_n 3, 1), (7, .aload_n 0, 1), (8, .getfield 215, 3), (11, .if_icmp .ge 79, 3), (14, .aload_n 0, 1), (15, .iload_n 3, 1), (16, .invokevirtual 435, 3), (19, .ifCond .eq 65, 3), (22, .iconst 4, 1), (23, .aload_n 0, 1), (24, .getfield 384, 3), (27, .isub, 1), (28, .iconst 4, 1), (29, .irem, 1), (30, .istore 4, 2), (32, .iload 4, 2), (34, .iload_n 1, 1), (35, .aload_n 0, 1), (36, .getfield 387, 3), (39, .isub, 1), (40, .iload_n 2, 1)] : List (Nat × Instr × Nat)).all (fun e => decide (decode prog_14_method_101_code e.1 = .ok e.2)) = true := by decide +kernel
abbrev cl_269_0 : List (Nat × jm_O) := [(0, op_aload 0 1), (1, op_callV 11 231 1), (4, op_ic 0 1), (5, op_istore 3 1), (6, op_iload 3 1), (7, op_aload 0 1), (8, op_getI 11 3), (11, op_cge 90), (14, op_aload 0 1), (15, op_iload 3 1), (16, op_callV 11 241 2), (19, op_ifeq 84), (22, op_ic 4 1), (23, op_aload 0 1), (24, op_getI 11 49), (27, op_ibin (fun x y => x - y)), (28, op_ic 4 1), (29, op_idz (fun x y => x - x / y * y)), (30, op_istore 4 2), (32, op_iload 4 2), (34, op_iload 1 1), (35, op_aload 0 1), (36, op_getI 11 50), (39, op_ibin (fun x y => x - y)), (40, op_iload 2 1)]
set_option maxRecDepth 100000 in
theorem gl_269_0 : jm_gl "FrescoWallModel" prog_14_method_101_code 7 (Option.some Jvm.ClassFile.FieldType.int) false cl_269_0 :=
  jm_gc (pu_aload _ _) (sn_aload_n (i := 0) (jm_dc dc_269_0 0 rfl)) (
  jm_gc (pu_callV _ _ _) (sn_callV (jm_dc dc_269_0 1 rfl) lk_11_476) (
  jm_gc (pu_ic _ _) (sn_iconst (jm_dc dc_269_0 2 rfl) (by decide)) (
  jm_gc (pu_istore _ _) (sn_istore_n (i := 3) (jm_dc dc_269_0 3 rfl)) (
  jm_gc (pu_iload _ _) (sn_iload_n (i := 3) (jm_dc dc_269_0 4 rfl)) (
  jm_gc (pu_aload _ _) (sn_aload_n (i := 0) (jm_dc dc_269_0 5 rfl)) (
  jm_gc (pu_getI _ _) (sn_getI (jm_dc dc_269_0 6 rfl) fl_11_215 (Or.inl rfl)) (
  jm_gc (pu_cge _) (sn_cge (jm_dc dc_269_0 7 rfl) (by decide)) (
  jm_gc (pu_aload _ _) (sn_aload_n (i := 0) (jm_dc dc_269_0 8 rfl)) (
  jm_gc (pu_iload _ _) (sn_iload_n (i := 3) (jm_dc dc_269_0 9 rfl)) (
  jm_gc (pu_callV _ _ _) (sn_callV (jm_dc dc_269_0 10 rfl) lk_11_435) (
  jm_gc (pu_ifeq _) (sn_ifeq (jm_dc dc_269_0 11 rfl) (by decide)) (
  jm_gc (pu_ic _ _) (sn_iconst (jm_dc dc_269_0 12 rfl) (by decide)) (
  jm_gc (pu_aload _ _) (sn_aload_n (i := 0) (jm_dc dc_269_0 13 rfl)) (
  jm_gc (pu_getI _ _) (sn_getI (jm_dc dc_269_0 14 rfl) fl_11_384 (Or.inl rfl)) (
  jm_gc (pu_ibin _) (sn_isub (jm_dc dc_269_0 15 rfl)) (
  jm_gc (pu_ic _ _) (sn_iconst (jm_dc dc_269_0 16 rfl) (by decide)) (
  jm_gc (pu_idz _) (sn_irem (jm_dc dc_269_0 17 rfl)) (
  jm_gc (pu_istore _ _) (sn_istore (jm_dc dc_269_0 18 rfl)) (
  jm_gc (pu_iload _ _) (sn_iload (jm_dc dc_269_0 19 rfl)) (
  jm_gc (pu_iload _ _) (sn_iload_n (i := 1) (jm_dc dc_269_0 20 rfl)) (
  jm_gc (pu_aload _ _) (sn_aload_n (i := 0) (jm_dc dc_269_0 21 rfl)) (
  jm_gc (pu_getI _ _) (sn_getI (jm_dc dc_269_0 22 rfl) fl_11_387 (Or.inl rfl)) (
  jm_gc (pu_ibin _) (sn_isub (jm_dc dc_269_0 23 rfl)) (
  jm_gc (pu_iload _ _) (sn_iload_n (i := 2) (jm_dc dc_269_0 24 rfl)) (
  jm_gn)))))))))))))))))))))))))
theorem dc_269_1 : ([(41, .aload_n 0, 1), (42, .getfield 390, 3), (45, .isub, 1), (46, .invokestatic 344, 3), (49, .istore 5, 2), (51, .iload 4, 2), (53, .iload_n 1, 1), (54, .aload_n 0, 1), (55, .getfield 387, 3), (58, .isub, 1), (59, .iload_n 2, 1), (60, .aload_n 0, 1), (61, .getfield 390, 3), (64, .isub, 1), (65, .invokestatic 347, 3), (68, .istore 6, 2), (70, .aload_n 0, 1), (71, .iload_n 3, 1), (72, .iload 5, 2), (74, .iload 6, 2), (76, .invokevirtual 315, 3), (79, .ifCond .eq 5, 3), (82, .iload_n 3, 1), (83, .ireturn, 1), (84, .iinc 3 1, 3)] : List (Nat × Instr × Nat)).all (fun e => decide (decode prog_14_method_101_code e.1 = .ok e.2)) = true := by decide +kernel
abbrev cl_269_1 : List (Nat × jm_O) := [(41, op_aload 0 1), (42, op_getI 11 51), (45, op_ibin (fun x y => x - y)), (46, op_callS 205 3), (49, op_istore 5 2), (51, op_iload 4 2), (53, op_iload 1 1), (54, op_aload 0 1), (55, op_getI 11 50), (58, op_ibin (fun x y => x - y)), (59, op_iload 2 1), (60, op_aload 0 1), (61, op_getI 11 51), (64, op_ibin (fun x y => x - y)), (65, op_callS 206 3), (68, op_istore 6 2), (70, op_aload 0 1), (71, op_iload 3 1), (72, op_iload 5 2), (74, op_iload 6 2), (76, op_callV 11 197 4), (79, op_ifeq 84), (82, op_iload 3 1), (83, op_iret), (84, op_iinc 3 1)]
set_option maxRecDepth 100000 in
theorem gl_269_1 : jm_gl "FrescoWallModel" prog_14_method_101_code 7 (Option.some Jvm.ClassFile.FieldType.int) false cl_269_1 :=
  jm_gc (pu_aload _ _) (sn_aload_n (i := 0) (jm_dc dc_269_1 0 rfl)) (
  jm_gc (pu_getI _ _) (sn_getI (jm_dc dc_269_1 1 rfl) fl_11_390 (Or.inl rfl)) (
  jm_gc (pu_ibin _) (sn_isub (jm_dc dc_269_1 2 rfl)) (
  jm_gc (pu_callS _ _) (sn_callS (jm_dc dc_269_1 3 rfl) lk_11_344) (
  jm_gc (pu_istore _ _) (sn_istore (jm_dc dc_269_1 4 rfl)) (
  jm_gc (pu_iload _ _) (sn_iload (jm_dc dc_269_1 5 rfl)) (
  jm_gc (pu_iload _ _) (sn_iload_n (i := 1) (jm_dc dc_269_1 6 rfl)) (
  jm_gc (pu_aload _ _) (sn_aload_n (i := 0) (jm_dc dc_269_1 7 rfl)) (
  jm_gc (pu_getI _ _) (sn_getI (jm_dc dc_269_1 8 rfl) fl_11_387 (Or.inl rfl)) (
  jm_gc (pu_ibin _) (sn_isub (jm_dc dc_269_1 9 rfl)) (
  jm_gc (pu_iload _ _) (sn_iload_n (i := 2) (jm_dc dc_269_1 10 rfl)) (
  jm_gc (pu_aload _ _) (sn_aload_n (i := 0) (jm_dc dc_269_1 11 rfl)) (
  jm_gc (pu_getI _ _) (sn_getI (jm_dc dc_269_1 12 rfl) fl_11_390 (Or.inl rfl)) (
  jm_gc (pu_ibin _) (sn_isub (jm_dc dc_269_1 13 rfl)) (
  jm_gc (pu_callS _ _) (sn_callS (jm_dc dc_269_1 14 rfl) lk_11_347) (
  jm_gc (pu_istore _ _) (sn_istore (jm_dc dc_269_1 15 rfl)) (
  jm_gc (pu_aload _ _) (sn_aload_n (i := 0) (jm_dc dc_269_1 16 rfl)) (
  jm_gc (pu_iload _ _) (sn_iload_n (i := 3) (jm_dc dc_269_1 17 rfl)) (
  jm_gc (pu_iload _ _) (sn_iload (jm_dc dc_269_1 18 rfl)) (
  jm_gc (pu_iload _ _) (sn_iload (jm_dc dc_269_1 19 rfl)) (
  jm_gc (pu_callV _ _ _) (sn_callV (jm_dc dc_269_1 20 rfl) lk_11_315) (
  jm_gc (pu_ifeq _) (sn_ifeq (jm_dc dc_269_1 21 rfl) (by decide)) (
  jm_gc (pu_iload _ _) (sn_iload_n (i := 3) (jm_dc dc_269_1 22 rfl)) (
  jm_gc (pu_iret) (sn_iret (jm_dc dc_269_1 23 rfl) rfl) (
  jm_gc (pu_iinc _ _) (sn_iinc (jm_dc dc_269_1 24 rfl) (by decide)) (
  jm_gn)))))))))))))))))))))))))
theorem dc_269_2 : ([(87, .goto (-81), 3), (90, .iconst (-1), 1), (91, .ireturn, 1)] : List (Nat × Instr × Nat)).all (fun e => decide (decode prog_14_method_101_code e.1 = .ok e.2)) = true := by decide +kernel
abbrev cl_269_2 : List (Nat × jm_O) := [(87, op_goto 6), (90, op_ic (-1) 1), (91, op_iret)]
set_option maxRecDepth 100000 in
theorem gl_269_2 : jm_gl "FrescoWallModel" prog_14_method_101_code 7 (Option.some Jvm.ClassFile.FieldType.int) false cl_269_2 :=
  jm_gc (pu_goto _) (sn_goto (jm_dc dc_269_2 0 rfl) (by decide)) (
  jm_gc (pu_ic _ _) (sn_iconst (jm_dc dc_269_2 1 rfl) (by decide)) (
  jm_gc (pu_iret) (sn_iret (jm_dc dc_269_2 2 rfl) rfl) (
  jm_gn)))
def cd_220 (pc : Nat) : jm_O := jm_lu cl_220_0 pc
theorem ok_220 (pc : Nat) : jm_pu (cd_220 pc) ∧ jm_snd "FrescoWallModel" prog_14_method_52_code 3 (Option.some Jvm.ClassFile.FieldType.int) false pc (cd_220 pc) := jm_lu_ok _ gl_220_0 pc
def cd_221 (pc : Nat) : jm_O := if pc < 41 then jm_lu cl_221_0 pc else jm_lu cl_221_1 pc
theorem ok_221 (pc : Nat) : jm_pu (cd_221 pc) ∧ jm_snd "FrescoWallModel" prog_14_method_53_code 4 (Option.some Jvm.ClassFile.FieldType.int) false pc (cd_221 pc) := jm_if2 (jm_lu_ok _ gl_221_0 pc) (jm_lu_ok _ gl_221_1 pc)
def cd_222 (pc : Nat) : jm_O := if pc < 44 then jm_lu cl_222_0 pc else jm_lu cl_222_1 pc
theorem ok_222 (pc : Nat) : jm_pu (cd_222 pc) ∧ jm_snd "FrescoWallModel" prog_14_method_54_code 7 (Option.some Jvm.ClassFile.FieldType.int) false pc (cd_222 pc) := jm_if2 (jm_lu_ok _ gl_222_0 pc) (jm_lu_ok _ gl_222_1 pc)
def cd_223 (pc : Nat) : jm_O := if pc < 41 then jm_lu cl_223_0 pc else jm_lu cl_223_1 pc
theorem ok_223 (pc : Nat) : jm_pu (cd_223 pc) ∧ jm_snd "FrescoWallModel" prog_14_method_55_code 8 (Option.some Jvm.ClassFile.FieldType.int) false pc (cd_223 pc) := jm_if2 (jm_lu_ok _ gl_223_0 pc) (jm_lu_ok _ gl_223_1 pc)
def cd_224 (pc : Nat) : jm_O := if pc < 44 then jm_lu cl_224_0 pc else jm_lu cl_224_1 pc
theorem ok_224 (pc : Nat) : jm_pu (cd_224 pc) ∧ jm_snd "FrescoWallModel" prog_14_method_56_code 5 (Option.some Jvm.ClassFile.FieldType.int) false pc (cd_224 pc) := jm_if2 (jm_lu_ok _ gl_224_0 pc) (jm_lu_ok _ gl_224_1 pc)
def cd_225 (pc : Nat) : jm_O := jm_lu cl_225_0 pc
theorem ok_225 (pc : Nat) : jm_pu (cd_225 pc) ∧ jm_snd "FrescoWallModel" prog_14_method_57_code 4 (Option.none : Option Jvm.ClassFile.FieldType) false pc (cd_225 pc) := jm_lu_ok _ gl_225_0 pc
def cd_226 (pc : Nat) : jm_O := if pc < 41 then jm_lu cl_226_0 pc else jm_lu cl_226_1 pc
theorem ok_226 (pc : Nat) : jm_pu (cd_226 pc) ∧ jm_snd "FrescoWallModel" prog_14_method_58_code 6 (Option.none : Option Jvm.ClassFile.FieldType) false pc (cd_226 pc) := jm_if2 (jm_lu_ok _ gl_226_0 pc) (jm_lu_ok _ gl_226_1 pc)
def cd_227 (pc : Nat) : jm_O := jm_lu cl_227_0 pc
theorem ok_227 (pc : Nat) : jm_pu (cd_227 pc) ∧ jm_snd "FrescoWallModel" prog_14_method_59_code 5 (Option.none : Option Jvm.ClassFile.FieldType) false pc (cd_227 pc) := jm_lu_ok _ gl_227_0 pc
def cd_228 (pc : Nat) : jm_O := jm_lu cl_228_0 pc
theorem ok_228 (pc : Nat) : jm_pu (cd_228 pc) ∧ jm_snd "FrescoWallModel" prog_14_method_60_code 4 (Option.some Jvm.ClassFile.FieldType.boolean) false pc (cd_228 pc) := jm_lu_ok _ gl_228_0 pc
def cd_229 (pc : Nat) : jm_O := if pc < 39 then jm_lu cl_229_0 pc else if pc < 76 then jm_lu cl_229_1 pc else jm_lu cl_229_2 pc
theorem ok_229 (pc : Nat) : jm_pu (cd_229 pc) ∧ jm_snd "FrescoWallModel" prog_14_method_61_code 2 (Option.none : Option Jvm.ClassFile.FieldType) false pc (cd_229 pc) := jm_if2 (jm_lu_ok _ gl_229_0 pc) (jm_if2 (jm_lu_ok _ gl_229_1 pc) (jm_lu_ok _ gl_229_2 pc))
def cd_230 (pc : Nat) : jm_O := if pc < 39 then jm_lu cl_230_0 pc else if pc < 76 then jm_lu cl_230_1 pc else jm_lu cl_230_2 pc
theorem ok_230 (pc : Nat) : jm_pu (cd_230 pc) ∧ jm_snd "FrescoWallModel" prog_14_method_62_code 2 (Option.none : Option Jvm.ClassFile.FieldType) false pc (cd_230 pc) := jm_if2 (jm_lu_ok _ gl_230_0 pc) (jm_if2 (jm_lu_ok _ gl_230_1 pc) (jm_lu_ok _ gl_230_2 pc))
def cd_231 (pc : Nat) : jm_O := if pc < 43 then jm_lu cl_231_0 pc else if pc < 78 then jm_lu cl_231_1 pc else jm_lu cl_231_2 pc
theorem ok_231 (pc : Nat) : jm_pu (cd_231 pc) ∧ jm_snd "FrescoWallModel" prog_14_method_63_code 4 (Option.none : Option Jvm.ClassFile.FieldType) false pc (cd_231 pc) := jm_if2 (jm_lu_ok _ gl_231_0 pc) (jm_if2 (jm_lu_ok _ gl_231_1 pc) (jm_lu_ok _ gl_231_2 pc))
def cd_232 (pc : Nat) : jm_O := jm_lu cl_232_0 pc
theorem ok_232 (pc : Nat) : jm_pu (cd_232 pc) ∧ jm_snd "FrescoWallModel" prog_14_method_64_code 3 (Option.none : Option Jvm.ClassFile.FieldType) false pc (cd_232 pc) := jm_lu_ok _ gl_232_0 pc
def cd_233 (pc : Nat) : jm_O := if pc < 40 then jm_lu cl_233_0 pc else if pc < 82 then jm_lu cl_233_1 pc else if pc < 126 then jm_lu cl_233_2 pc else jm_lu cl_233_3 pc
theorem ok_233 (pc : Nat) : jm_pu (cd_233 pc) ∧ jm_snd "FrescoWallModel" prog_14_method_65_code 5 (Option.some Jvm.ClassFile.FieldType.boolean) false pc (cd_233 pc) := jm_if2 (jm_lu_ok _ gl_233_0 pc) (jm_if2 (jm_lu_ok _ gl_233_1 pc) (jm_if2 (jm_lu_ok _ gl_233_2 pc) (jm_lu_ok _ gl_233_3 pc)))
def cd_234 (pc : Nat) : jm_O := if pc < 37 then jm_lu cl_234_0 pc else jm_lu cl_234_1 pc
theorem ok_234 (pc : Nat) : jm_pu (cd_234 pc) ∧ jm_snd "FrescoWallModel" prog_14_method_66_code 3 (Option.none : Option Jvm.ClassFile.FieldType) false pc (cd_234 pc) := jm_if2 (jm_lu_ok _ gl_234_0 pc) (jm_lu_ok _ gl_234_1 pc)
def cd_235 (pc : Nat) : jm_O := if pc < 39 then jm_lu cl_235_0 pc else jm_lu cl_235_1 pc
theorem ok_235 (pc : Nat) : jm_pu (cd_235 pc) ∧ jm_snd "FrescoWallModel" prog_14_method_67_code 3 (Option.none : Option Jvm.ClassFile.FieldType) false pc (cd_235 pc) := jm_if2 (jm_lu_ok _ gl_235_0 pc) (jm_lu_ok _ gl_235_1 pc)
def cd_236 (pc : Nat) : jm_O := jm_lu cl_236_0 pc
theorem ok_236 (pc : Nat) : jm_pu (cd_236 pc) ∧ jm_snd "FrescoWallModel" prog_14_method_68_code 3 (Option.some Jvm.ClassFile.FieldType.boolean) false pc (cd_236 pc) := jm_lu_ok _ gl_236_0 pc
def cd_237 (pc : Nat) : jm_O := if pc < 43 then jm_lu cl_237_0 pc else if pc < 90 then jm_lu cl_237_1 pc else if pc < 135 then jm_lu cl_237_2 pc else jm_lu cl_237_3 pc
theorem ok_237 (pc : Nat) : jm_pu (cd_237 pc) ∧ jm_snd "FrescoWallModel" prog_14_method_69_code 7 (Option.none : Option Jvm.ClassFile.FieldType) false pc (cd_237 pc) := jm_if2 (jm_lu_ok _ gl_237_0 pc) (jm_if2 (jm_lu_ok _ gl_237_1 pc) (jm_if2 (jm_lu_ok _ gl_237_2 pc) (jm_lu_ok _ gl_237_3 pc)))
def cd_238 (pc : Nat) : jm_O := if pc < 45 then jm_lu cl_238_0 pc else if pc < 89 then jm_lu cl_238_1 pc else if pc < 136 then jm_lu cl_238_2 pc else jm_lu cl_238_3 pc
theorem ok_238 (pc : Nat) : jm_pu (cd_238 pc) ∧ jm_snd "FrescoWallModel" prog_14_method_70_code 6 (Option.none : Option Jvm.ClassFile.FieldType) false pc (cd_238 pc) := jm_if2 (jm_lu_ok _ gl_238_0 pc) (jm_if2 (jm_lu_ok _ gl_238_1 pc) (jm_if2 (jm_lu_ok _ gl_238_2 pc) (jm_lu_ok _ gl_238_3 pc)))
def cd_239 (pc : Nat) : jm_O := if pc < 44 then jm_lu cl_239_0 pc else jm_lu cl_239_1 pc
theorem ok_239 (pc : Nat) : jm_pu (cd_239 pc) ∧ jm_snd "FrescoWallModel" prog_14_method_71_code 5 (Option.some Jvm.ClassFile.FieldType.int) false pc (cd_239 pc) := jm_if2 (jm_lu_ok _ gl_239_0 pc) (jm_lu_ok _ gl_239_1 pc)
def cd_240 (pc : Nat) : jm_O := if pc < 46 then jm_lu cl_240_0 pc else jm_lu cl_240_1 pc
theorem ok_240 (pc : Nat) : jm_pu (cd_240 pc) ∧ jm_snd "FrescoWallModel" prog_14_method_72_code 5 (Option.some Jvm.ClassFile.FieldType.boolean) false pc (cd_240 pc) := jm_if2 (jm_lu_ok _ gl_240_0 pc) (jm_lu_ok _ gl_240_1 pc)
def cd_241 (pc : Nat) : jm_O := if pc < 37 then jm_lu cl_241_0 pc else jm_lu cl_241_1 pc
theorem ok_241 (pc : Nat) : jm_pu (cd_241 pc) ∧ jm_snd "FrescoWallModel" prog_14_method_73_code 3 (Option.some Jvm.ClassFile.FieldType.boolean) false pc (cd_241 pc) := jm_if2 (jm_lu_ok _ gl_241_0 pc) (jm_lu_ok _ gl_241_1 pc)
def cd_242 (pc : Nat) : jm_O := if pc < 43 then jm_lu cl_242_0 pc else jm_lu cl_242_1 pc
theorem ok_242 (pc : Nat) : jm_pu (cd_242 pc) ∧ jm_snd "FrescoWallModel" prog_14_method_74_code 3 (Option.none : Option Jvm.ClassFile.FieldType) false pc (cd_242 pc) := jm_if2 (jm_lu_ok _ gl_242_0 pc) (jm_lu_ok _ gl_242_1 pc)
def cd_243 (pc : Nat) : jm_O := if pc < 44 then jm_lu cl_243_0 pc else jm_lu cl_243_1 pc
theorem ok_243 (pc : Nat) : jm_pu (cd_243 pc) ∧ jm_snd "FrescoWallModel" prog_14_method_75_code 6 (Option.none : Option Jvm.ClassFile.FieldType) false pc (cd_243 pc) := jm_if2 (jm_lu_ok _ gl_243_0 pc) (jm_lu_ok _ gl_243_1 pc)
def cd_244 (pc : Nat) : jm_O := if pc < 37 then jm_lu cl_244_0 pc else jm_lu cl_244_1 pc
theorem ok_244 (pc : Nat) : jm_pu (cd_244 pc) ∧ jm_snd "FrescoWallModel" prog_14_method_76_code 3 (Option.some Jvm.ClassFile.FieldType.int) false pc (cd_244 pc) := jm_if2 (jm_lu_ok _ gl_244_0 pc) (jm_lu_ok _ gl_244_1 pc)
def cd_245 (pc : Nat) : jm_O := if pc < 47 then jm_lu cl_245_0 pc else jm_lu cl_245_1 pc
theorem ok_245 (pc : Nat) : jm_pu (cd_245 pc) ∧ jm_snd "FrescoWallModel" prog_14_method_77_code 5 (Option.some Jvm.ClassFile.FieldType.int) false pc (cd_245 pc) := jm_if2 (jm_lu_ok _ gl_245_0 pc) (jm_lu_ok _ gl_245_1 pc)
def cd_246 (pc : Nat) : jm_O := if pc < 44 then jm_lu cl_246_0 pc else if pc < 89 then jm_lu cl_246_1 pc else jm_lu cl_246_2 pc
theorem ok_246 (pc : Nat) : jm_pu (cd_246 pc) ∧ jm_snd "FrescoWallModel" prog_14_method_78_code 5 (Option.some Jvm.ClassFile.FieldType.int) false pc (cd_246 pc) := jm_if2 (jm_lu_ok _ gl_246_0 pc) (jm_if2 (jm_lu_ok _ gl_246_1 pc) (jm_lu_ok _ gl_246_2 pc))
def cd_247 (pc : Nat) : jm_O := if pc < 46 then jm_lu cl_247_0 pc else jm_lu cl_247_1 pc
theorem ok_247 (pc : Nat) : jm_pu (cd_247 pc) ∧ jm_snd "FrescoWallModel" prog_14_method_79_code 5 (Option.some Jvm.ClassFile.FieldType.boolean) false pc (cd_247 pc) := jm_if2 (jm_lu_ok _ gl_247_0 pc) (jm_lu_ok _ gl_247_1 pc)
def cd_248 (pc : Nat) : jm_O := if pc < 44 then jm_lu cl_248_0 pc else if pc < 87 then jm_lu cl_248_1 pc else if pc < 132 then jm_lu cl_248_2 pc else jm_lu cl_248_3 pc
theorem ok_248 (pc : Nat) : jm_pu (cd_248 pc) ∧ jm_snd "FrescoWallModel" prog_14_method_80_code 5 (Option.some Jvm.ClassFile.FieldType.int) false pc (cd_248 pc) := jm_if2 (jm_lu_ok _ gl_248_0 pc) (jm_if2 (jm_lu_ok _ gl_248_1 pc) (jm_if2 (jm_lu_ok _ gl_248_2 pc) (jm_lu_ok _ gl_248_3 pc)))
def cd_249 (pc : Nat) : jm_O := if pc < 41 then jm_lu cl_249_0 pc else if pc < 83 then jm_lu cl_249_1 pc else if pc < 122 then jm_lu cl_249_2 pc else if pc < 161 then jm_lu cl_249_3 pc else if pc < 206 then jm_lu cl_249_4 pc else if pc < 247 then jm_lu cl_249_5 pc else jm_lu cl_249_6 pc
theorem ok_249 (pc : Nat) : jm_pu (cd_249 pc) ∧ jm_snd "FrescoWallModel" prog_14_method_81_code 5 (Option.some Jvm.ClassFile.FieldType.int) false pc (cd_249 pc) := jm_if2 (jm_lu_ok _ gl_249_0 pc) (jm_if2 (jm_lu_ok _ gl_249_1 pc) (jm_if2 (jm_lu_ok _ gl_249_2 pc) (jm_if2 (jm_lu_ok _ gl_249_3 pc) (jm_if2 (jm_lu_ok _ gl_249_4 pc) (jm_if2 (jm_lu_ok _ gl_249_5 pc) (jm_lu_ok _ gl_249_6 pc))))))
def cd_250 (pc : Nat) : jm_O := if pc < 41 then jm_lu cl_250_0 pc else if pc < 78 then jm_lu cl_250_1 pc else if pc < 117 then jm_lu cl_250_2 pc else jm_lu cl_250_3 pc
theorem ok_250 (pc : Nat) : jm_pu (cd_250 pc) ∧ jm_snd "FrescoWallModel" prog_14_method_82_code 4 (Option.some Jvm.ClassFile.FieldType.int) false pc (cd_250 pc) := jm_if2 (jm_lu_ok _ gl_250_0 pc) (jm_if2 (jm_lu_ok _ gl_250_1 pc) (jm_if2 (jm_lu_ok _ gl_250_2 pc) (jm_lu_ok _ gl_250_3 pc)))
def cd_251 (pc : Nat) : jm_O := if pc < 42 then jm_lu cl_251_0 pc else if pc < 89 then jm_lu cl_251_1 pc else if pc < 129 then jm_lu cl_251_2 pc else jm_lu cl_251_3 pc
theorem ok_251 (pc : Nat) : jm_pu (cd_251 pc) ∧ jm_snd "FrescoWallModel" prog_14_method_83_code 6 (Option.some Jvm.ClassFile.FieldType.int) false pc (cd_251 pc) := jm_if2 (jm_lu_ok _ gl_251_0 pc) (jm_if2 (jm_lu_ok _ gl_251_1 pc) (jm_if2 (jm_lu_ok _ gl_251_2 pc) (jm_lu_ok _ gl_251_3 pc)))
def cd_252 (pc : Nat) : jm_O := jm_lu cl_252_0 pc
theorem ok_252 (pc : Nat) : jm_pu (cd_252 pc) ∧ jm_snd "FrescoWallModel" prog_14_method_84_code 2 (Option.some Jvm.ClassFile.FieldType.boolean) false pc (cd_252 pc) := jm_lu_ok _ gl_252_0 pc
def cd_253 (pc : Nat) : jm_O := jm_lu cl_253_0 pc
theorem ok_253 (pc : Nat) : jm_pu (cd_253 pc) ∧ jm_snd "FrescoWallModel" prog_14_method_85_code 4 (Option.some Jvm.ClassFile.FieldType.int) false pc (cd_253 pc) := jm_lu_ok _ gl_253_0 pc
def cd_254 (pc : Nat) : jm_O := if pc < 41 then jm_lu cl_254_0 pc else jm_lu cl_254_1 pc
theorem ok_254 (pc : Nat) : jm_pu (cd_254 pc) ∧ jm_snd "FrescoWallModel" prog_14_method_86_code 4 (Option.some Jvm.ClassFile.FieldType.int) false pc (cd_254 pc) := jm_if2 (jm_lu_ok _ gl_254_0 pc) (jm_lu_ok _ gl_254_1 pc)
def cd_255 (pc : Nat) : jm_O := if pc < 39 then jm_lu cl_255_0 pc else jm_lu cl_255_1 pc
theorem ok_255 (pc : Nat) : jm_pu (cd_255 pc) ∧ jm_snd "FrescoWallModel" prog_14_method_87_code 2 (Option.some Jvm.ClassFile.FieldType.boolean) false pc (cd_255 pc) := jm_if2 (jm_lu_ok _ gl_255_0 pc) (jm_lu_ok _ gl_255_1 pc)
def cd_256 (pc : Nat) : jm_O := if pc < 69 then jm_lu cl_256_0 pc else jm_lu cl_256_1 pc
theorem ok_256 (pc : Nat) : jm_pu (cd_256 pc) ∧ jm_snd "FrescoWallModel" prog_14_method_88_code 3 (Option.some Jvm.ClassFile.FieldType.int) false pc (cd_256 pc) := jm_if2 (jm_lu_ok _ gl_256_0 pc) (jm_lu_ok _ gl_256_1 pc)
def cd_257 (pc : Nat) : jm_O := if pc < 41 then jm_lu cl_257_0 pc else jm_lu cl_257_1 pc
theorem ok_257 (pc : Nat) : jm_pu (cd_257 pc) ∧ jm_snd "FrescoWallModel" prog_14_method_89_code 4 (Option.some Jvm.ClassFile.FieldType.int) false pc (cd_257 pc) := jm_if2 (jm_lu_ok _ gl_257_0 pc) (jm_lu_ok _ gl_257_1 pc)
def cd_258 (pc : Nat) : jm_O := if pc < 45 then jm_lu cl_258_0 pc else jm_lu cl_258_1 pc
theorem ok_258 (pc : Nat) : jm_pu (cd_258 pc) ∧ jm_snd "FrescoWallModel" prog_14_method_90_code 3 (Option.some Jvm.ClassFile.FieldType.int) false pc (cd_258 pc) := jm_if2 (jm_lu_ok _ gl_258_0 pc) (jm_lu_ok _ gl_258_1 pc)
def cd_259 (pc : Nat) : jm_O := if pc < 69 then jm_lu cl_259_0 pc else jm_lu cl_259_1 pc
theorem ok_259 (pc : Nat) : jm_pu (cd_259 pc) ∧ jm_snd "FrescoWallModel" prog_14_method_91_code 2 (Option.some Jvm.ClassFile.FieldType.int) false pc (cd_259 pc) := jm_if2 (jm_lu_ok _ gl_259_0 pc) (jm_lu_ok _ gl_259_1 pc)
def cd_260 (pc : Nat) : jm_O := jm_lu cl_260_0 pc
theorem ok_260 (pc : Nat) : jm_pu (cd_260 pc) ∧ jm_snd "FrescoWallModel" prog_14_method_92_code 3 (Option.some Jvm.ClassFile.FieldType.boolean) false pc (cd_260 pc) := jm_lu_ok _ gl_260_0 pc
def cd_261 (pc : Nat) : jm_O := jm_lu cl_261_0 pc
theorem ok_261 (pc : Nat) : jm_pu (cd_261 pc) ∧ jm_snd "FrescoWallModel" prog_14_method_93_code 5 (Option.none : Option Jvm.ClassFile.FieldType) false pc (cd_261 pc) := jm_lu_ok _ gl_261_0 pc
def cd_262 (pc : Nat) : jm_O := if pc < 43 then jm_lu cl_262_0 pc else jm_lu cl_262_1 pc
theorem ok_262 (pc : Nat) : jm_pu (cd_262 pc) ∧ jm_snd "FrescoWallModel" prog_14_method_94_code 3 (Option.none : Option Jvm.ClassFile.FieldType) false pc (cd_262 pc) := jm_if2 (jm_lu_ok _ gl_262_0 pc) (jm_lu_ok _ gl_262_1 pc)
def cd_263 (pc : Nat) : jm_O := if pc < 46 then jm_lu cl_263_0 pc else if pc < 92 then jm_lu cl_263_1 pc else if pc < 134 then jm_lu cl_263_2 pc else jm_lu cl_263_3 pc
theorem ok_263 (pc : Nat) : jm_pu (cd_263 pc) ∧ jm_snd "FrescoWallModel" prog_14_method_95_code 6 (Option.some Jvm.ClassFile.FieldType.int) false pc (cd_263 pc) := jm_if2 (jm_lu_ok _ gl_263_0 pc) (jm_if2 (jm_lu_ok _ gl_263_1 pc) (jm_if2 (jm_lu_ok _ gl_263_2 pc) (jm_lu_ok _ gl_263_3 pc)))
def cd_264 (pc : Nat) : jm_O := if pc < 45 then jm_lu cl_264_0 pc else jm_lu cl_264_1 pc
theorem ok_264 (pc : Nat) : jm_pu (cd_264 pc) ∧ jm_snd "FrescoWallModel" prog_14_method_96_code 6 (Option.some Jvm.ClassFile.FieldType.int) false pc (cd_264 pc) := jm_if2 (jm_lu_ok _ gl_264_0 pc) (jm_lu_ok _ gl_264_1 pc)
def cd_265 (pc : Nat) : jm_O := if pc < 40 then jm_lu cl_265_0 pc else jm_lu cl_265_1 pc
theorem ok_265 (pc : Nat) : jm_pu (cd_265 pc) ∧ jm_snd "FrescoWallModel" prog_14_method_97_code 2 (Option.some Jvm.ClassFile.FieldType.int) false pc (cd_265 pc) := jm_if2 (jm_lu_ok _ gl_265_0 pc) (jm_lu_ok _ gl_265_1 pc)
def cd_266 (pc : Nat) : jm_O := if pc < 44 then jm_lu cl_266_0 pc else if pc < 83 then jm_lu cl_266_1 pc else jm_lu cl_266_2 pc
theorem ok_266 (pc : Nat) : jm_pu (cd_266 pc) ∧ jm_snd "FrescoWallModel" prog_14_method_98_code 6 (Option.some Jvm.ClassFile.FieldType.int) false pc (cd_266 pc) := jm_if2 (jm_lu_ok _ gl_266_0 pc) (jm_if2 (jm_lu_ok _ gl_266_1 pc) (jm_lu_ok _ gl_266_2 pc))
def cd_267 (pc : Nat) : jm_O := if pc < 44 then jm_lu cl_267_0 pc else jm_lu cl_267_1 pc
theorem ok_267 (pc : Nat) : jm_pu (cd_267 pc) ∧ jm_snd "FrescoWallModel" prog_14_method_99_code 2 (Option.some Jvm.ClassFile.FieldType.int) false pc (cd_267 pc) := jm_if2 (jm_lu_ok _ gl_267_0 pc) (jm_lu_ok _ gl_267_1 pc)
def cd_268 (pc : Nat) : jm_O := if pc < 49 then jm_lu cl_268_0 pc else if pc < 96 then jm_lu cl_268_1 pc else jm_lu cl_268_2 pc
theorem ok_268 (pc : Nat) : jm_pu (cd_268 pc) ∧ jm_snd "FrescoWallModel" prog_14_method_100_code 3 (Option.some Jvm.ClassFile.FieldType.int) false pc (cd_268 pc) := jm_if2 (jm_lu_ok _ gl_268_0 pc) (jm_if2 (jm_lu_ok _ gl_268_1 pc) (jm_lu_ok _ gl_268_2 pc))
def cd_269 (pc : Nat) : jm_O := if pc < 41 then jm_lu cl_269_0 pc else if pc < 87 then jm_lu cl_269_1 pc else jm_lu cl_269_2 pc
theorem ok_269 (pc : Nat) : jm_pu (cd_269 pc) ∧ jm_snd "FrescoWallModel" prog_14_method_101_code 7 (Option.some Jvm.ClassFile.FieldType.int) false pc (cd_269 pc) := jm_if2 (jm_lu_ok _ gl_269_0 pc) (jm_if2 (jm_lu_ok _ gl_269_1 pc) (jm_lu_ok _ gl_269_2 pc))
