theorem dc_0_0 : ([(0, .aload_n 0, 1), (1, .invokespecial 3, 3), (4, .aload_n 0, 1), (5, .sipush 192, 3), (8, .newarray .long, 2), (10, .putfield 11, 3), (13, .aload_n 0, 1), (14, .sipush 192, 3), (17, .newarray .int, 2), (19, .putfield 15, 3), (22, .aload_n 0, 1), (23, .iconst 3, 1), (24, .newarray .int, 2), (26, .putfield 19, 3), (29, .aload_n 0, 1), (30, .iconst 3, 1), (31, .newarray .int, 2), (33, .putfield 22, 3), (36, .aload_n 0, 1), (37, .aload_n 1, 1), (38, .putfield 25, 3), (41, .return_, 1)] : List (Nat × Instr × Nat)).all (fun e => decide (decode prog_2_method_1_code e.1 = .ok e.2)) = true := by decide +kernel
abbrev cl_0_0 : List (Nat × jm_O) := [(0, op_aload 0 1), (1, op_objInit), (4, op_aload 0 1), (5, op_ic 192 3), (8, op_newa 14 2), (10, op_putA 0 1), (13, op_aload 0 1), (14, op_ic 192 3), (17, op_newa 13 2), (19, op_putA 0 2), (22, op_aload 0 1), (23, op_ic 3 1), (24, op_newa 13 2), (26, op_putA 0 3), (29, op_aload 0 1), (30, op_ic 3 1), (31, op_newa 13 2), (33, op_putA 0 4), (36, op_aload 0 1), (37, op_aload 1 1), (38, op_putA 0 0), (41, op_vret)]
set_option maxRecDepth 100000 in
theorem gl_0_0 : jm_gl "FrescoWall$Arranger" prog_2_method_1_code 2 (Option.none : Option Jvm.ClassFile.FieldType) true cl_0_0 :=
  jm_gc (pu_aload _ _) (sn_aload_n (i := 0) (jm_dc dc_0_0 0 rfl)) (
  jm_gc (pu_objInit) (sn_objInit (jm_dc dc_0_0 1 rfl) ⟨kc_tb 269 (by decide +kernel), kc_tb 23 (by decide +kernel), kc_tb 24 (by decide +kernel)⟩) (
  jm_gc (pu_aload _ _) (sn_aload_n (i := 0) (jm_dc dc_0_0 2 rfl)) (
  jm_gc (pu_ic _ _) (sn_sipush (jm_dc dc_0_0 3 rfl) (by decide)) (
  jm_gc (pu_newa _ _) (sn_newJ (jm_dc dc_0_0 4 rfl) (kc_tb 226 (by decide +kernel))) (
  jm_gc (pu_putA _ _) (sn_putAF (jm_dc dc_0_0 5 rfl) flw_0_11 rfl rfl) (
  jm_gc (pu_aload _ _) (sn_aload_n (i := 0) (jm_dc dc_0_0 6 rfl)) (
  jm_gc (pu_ic _ _) (sn_sipush (jm_dc dc_0_0 7 rfl) (by decide)) (
  jm_gc (pu_newa _ _) (sn_newI (jm_dc dc_0_0 8 rfl) (kc_tb 91 (by decide +kernel))) (
  jm_gc (pu_putA _ _) (sn_putAF (jm_dc dc_0_0 9 rfl) flw_0_15 rfl rfl) (
  jm_gc (pu_aload _ _) (sn_aload_n (i := 0) (jm_dc dc_0_0 10 rfl)) (
  jm_gc (pu_ic _ _) (sn_iconst (jm_dc dc_0_0 11 rfl) (by decide)) (
  jm_gc (pu_newa _ _) (sn_newI (jm_dc dc_0_0 12 rfl) (kc_tb 91 (by decide +kernel))) (
  jm_gc (pu_putA _ _) (sn_putAF (jm_dc dc_0_0 13 rfl) flw_0_19 rfl rfl) (
  jm_gc (pu_aload _ _) (sn_aload_n (i := 0) (jm_dc dc_0_0 14 rfl)) (
  jm_gc (pu_ic _ _) (sn_iconst (jm_dc dc_0_0 15 rfl) (by decide)) (
  jm_gc (pu_newa _ _) (sn_newI (jm_dc dc_0_0 16 rfl) (kc_tb 91 (by decide +kernel))) (
  jm_gc (pu_putA _ _) (sn_putAF (jm_dc dc_0_0 17 rfl) flw_0_22 rfl rfl) (
  jm_gc (pu_aload _ _) (sn_aload_n (i := 0) (jm_dc dc_0_0 18 rfl)) (
  jm_gc (pu_aload _ _) (sn_aload_n (i := 1) (jm_dc dc_0_0 19 rfl)) (
  jm_gc (pu_putA _ _) (sn_putAF (jm_dc dc_0_0 20 rfl) flw_0_25 rfl rfl) (
  jm_gc (pu_vret) (sn_vret (jm_dc dc_0_0 21 rfl) rfl) (
  jm_gn))))))))))))))))))))))
theorem dc_1_0 : ([(0, .aload_n 0, 1), (1, .getfield 29, 3), (4, .iload_n 1, 1), (5, .ishr, 1), (6, .iconst 1, 1), (7, .iand, 1), (8, .ifCond .eq 7, 3), (11, .iconst 1, 1), (12, .goto 4, 3), (15, .iconst 0, 1), (16, .ireturn, 1)] : List (Nat × Instr × Nat)).all (fun e => decide (decode prog_2_method_2_code e.1 = .ok e.2)) = true := by decide +kernel
abbrev cl_1_0 : List (Nat × jm_O) := [(0, op_aload 0 1), (1, op_getI 0 8), (4, op_iload 1 1), (5, op_ibin (fun x y => x >>> (y &&& 31))), (6, op_ic 1 1), (7, op_ibin (fun x y => x &&& y)), (8, op_ifeq 15), (11, op_ic 1 1), (12, op_goto 16), (15, op_ic 0 1), (16, op_zret)]
set_option maxRecDepth 100000 in
theorem gl_1_0 : jm_gl "FrescoWall$Arranger" prog_2_method_2_code 2 (Option.some Jvm.ClassFile.FieldType.boolean) false cl_1_0 :=
  jm_gc (pu_aload _ _) (sn_aload_n (i := 0) (jm_dc dc_1_0 0 rfl)) (
  jm_gc (pu_getI _ _) (sn_getI (jm_dc dc_1_0 1 rfl) fl_0_29 (Or.inl rfl)) (
  jm_gc (pu_iload _ _) (sn_iload_n (i := 1) (jm_dc dc_1_0 2 rfl)) (
  jm_gc (pu_ibin _) (sn_ishr (jm_dc dc_1_0 3 rfl)) (
  jm_gc (pu_ic _ _) (sn_iconst (jm_dc dc_1_0 4 rfl) (by decide)) (
  jm_gc (pu_ibin _) (sn_iand (jm_dc dc_1_0 5 rfl)) (
  jm_gc (pu_ifeq _) (sn_ifeq (jm_dc dc_1_0 6 rfl) (by decide)) (
  jm_gc (pu_ic _ _) (sn_iconst (jm_dc dc_1_0 7 rfl) (by decide)) (
  jm_gc (pu_goto _) (sn_goto (jm_dc dc_1_0 8 rfl) (by decide)) (
  jm_gc (pu_ic _ _) (sn_iconst (jm_dc dc_1_0 9 rfl) (by decide)) (
  jm_gc (pu_zret) (sn_zret (jm_dc dc_1_0 10 rfl) rfl) (
  jm_gn)))))))))))
theorem dc_2_0 : ([(0, .aload_n 0, 1), (1, .getfield 29, 3), (4, .iconst 1, 1), (5, .iload_n 1, 1), (6, .ishl, 1), (7, .iconst 1, 1), (8, .isub, 1), (9, .iand, 1), (10, .invokestatic 33, 3), (13, .istore_n 2, 1), (14, .iload_n 2, 1), (15, .ifCond .ne 7, 3), (18, .ldc2_w 41, 3), (21, .lreturn, 1), (22, .iload_n 2, 1), (23, .iconst 1, 1), (24, .if_icmp .ne 10, 3), (27, .aload_n 0, 1), (28, .getfield 43, 3), (31, .goto 7, 3), (34, .aload_n 0, 1), (35, .getfield 47, 3), (38, .lreturn, 1)] : List (Nat × Instr × Nat)).all (fun e => decide (decode prog_2_method_3_code e.1 = .ok e.2)) = true := by decide +kernel
abbrev cl_2_0 : List (Nat × jm_O) := [(0, op_aload 0 1), (1, op_getI 0 8), (4, op_ic 1 1), (5, op_iload 1 1), (6, op_ibin (fun x y => x <<< (y &&& 31))), (7, op_ic 1 1), (8, op_ibin (fun x y => x - y)), (9, op_ibin (fun x y => x &&& y)), (10, op_callS 317 1), (13, op_istore 2 1), (14, op_iload 2 1), (15, op_ifne 22), (18, op_lc 549756338176 3), (21, op_lret), (22, op_iload 2 1), (23, op_ic 1 1), (24, op_cne 34), (27, op_aload 0 1), (28, op_getJ 0 9), (31, op_goto 38), (34, op_aload 0 1), (35, op_getJ 0 10), (38, op_lret)]
set_option maxRecDepth 100000 in
theorem gl_2_0 : jm_gl "FrescoWall$Arranger" prog_2_method_3_code 3 (Option.some Jvm.ClassFile.FieldType.long) false cl_2_0 :=
  jm_gc (pu_aload _ _) (sn_aload_n (i := 0) (jm_dc dc_2_0 0 rfl)) (
  jm_gc (pu_getI _ _) (sn_getI (jm_dc dc_2_0 1 rfl) fl_0_29 (Or.inl rfl)) (
  jm_gc (pu_ic _ _) (sn_iconst (jm_dc dc_2_0 2 rfl) (by decide)) (
  jm_gc (pu_iload _ _) (sn_iload_n (i := 1) (jm_dc dc_2_0 3 rfl)) (
  jm_gc (pu_ibin _) (sn_ishl (jm_dc dc_2_0 4 rfl)) (
  jm_gc (pu_ic _ _) (sn_iconst (jm_dc dc_2_0 5 rfl) (by decide)) (
  jm_gc (pu_ibin _) (sn_isub (jm_dc dc_2_0 6 rfl)) (
  jm_gc (pu_ibin _) (sn_iand (jm_dc dc_2_0 7 rfl)) (
  jm_gc (pu_callS _ _) (sn_callS (jm_dc dc_2_0 8 rfl) lk_0_33) (
  jm_gc (pu_istore _ _) (sn_istore_n (i := 2) (jm_dc dc_2_0 9 rfl)) (
  jm_gc (pu_iload _ _) (sn_iload_n (i := 2) (jm_dc dc_2_0 10 rfl)) (
  jm_gc (pu_ifne _) (sn_ifne (jm_dc dc_2_0 11 rfl) (by decide)) (
  jm_gc (pu_lc _ _) (sn_ldc2 (jm_dc dc_2_0 12 rfl) (kc_tb 1084 (by decide +kernel))) (
  jm_gc (pu_lret) (sn_lret (jm_dc dc_2_0 13 rfl) rfl) (
  jm_gc (pu_iload _ _) (sn_iload_n (i := 2) (jm_dc dc_2_0 14 rfl)) (
  jm_gc (pu_ic _ _) (sn_iconst (jm_dc dc_2_0 15 rfl) (by decide)) (
  jm_gc (pu_cne _) (sn_cne (jm_dc dc_2_0 16 rfl) (by decide)) (
  jm_gc (pu_aload _ _) (sn_aload_n (i := 0) (jm_dc dc_2_0 17 rfl)) (
  jm_gc (pu_getJ _ _) (sn_getJ (jm_dc dc_2_0 18 rfl) fl_0_43 rfl) (
  jm_gc (pu_goto _) (sn_goto (jm_dc dc_2_0 19 rfl) (by decide)) (
  jm_gc (pu_aload _ _) (sn_aload_n (i := 0) (jm_dc dc_2_0 20 rfl)) (
  jm_gc (pu_getJ _ _) (sn_getJ (jm_dc dc_2_0 21 rfl) fl_0_47 rfl) (
  jm_gc (pu_lret) (sn_lret (jm_dc dc_2_0 22 rfl) rfl) (
  jm_gn)))))))))))))))))))))))
theorem dc_3_0 : ([(0, .iload_n 1, 1), (1, .istore_n 2, 1), (2, .iconst 0, 1), (3, .istore_n 3, 1), (4, .iload_n 3, 1), (5, .iconst 3, 1), (6, .if_icmp .ge 33, 3), (9, .aload_n 0, 1), (10, .getfield 22, 3), (13, .iload_n 3, 1), (14, .iload_n 2, 1), (15, .ifCond .ne 7, 3), (18, .iconst (-1), 1), (19, .goto 7, 3), (22, .iload_n 2, 1), (23, .invokestatic 50, 3), (26, .iastore, 1), (27, .iload_n 2, 1), (28, .iload_n 2, 1), (29, .iconst 1, 1), (30, .isub, 1), (31, .iand, 1), (32, .istore_n 2, 1), (33, .iinc 3 1, 3), (36, .goto (-32), 3)] : List (Nat × Instr × Nat)).all (fun e => decide (decode prog_2_method_4_code e.1 = .ok e.2)) = true := by decide +kernel
abbrev cl_3_0 : List (Nat × jm_O) := [(0, op_iload 1 1), (1, op_istore 2 1), (2, op_ic 0 1), (3, op_istore 3 1), (4, op_iload 3 1), (5, op_ic 3 1), (6, op_cge 39), (9, op_aload 0 1), (10, op_getA 0 4), (13, op_iload 3 1), (14, op_iload 2 1), (15, op_ifne 22), (18, op_ic (-1) 1), (19, op_goto 26), (22, op_iload 2 1), (23, op_callS 319 1), (26, op_iast), (27, op_iload 2 1), (28, op_iload 2 1), (29, op_ic 1 1), (30, op_ibin (fun x y => x - y)), (31, op_ibin (fun x y => x &&& y)), (32, op_istore 2 1), (33, op_iinc 3 1), (36, op_goto 4)]
set_option maxRecDepth 100000 in
theorem gl_3_0 : jm_gl "FrescoWall$Arranger" prog_2_method_4_code 4 (Option.some Jvm.ClassFile.FieldType.boolean) false cl_3_0 :=
  jm_gc (pu_iload _ _) (sn_iload_n (i := 1) (jm_dc dc_3_0 0 rfl)) (
  jm_gc (pu_istore _ _) (sn_istore_n (i := 2) (jm_dc dc_3_0 1 rfl)) (
  jm_gc (pu_ic _ _) (sn_iconst (jm_dc dc_3_0 2 rfl) (by decide)) (
  jm_gc (pu_istore _ _) (sn_istore_n (i := 3) (jm_dc dc_3_0 3 rfl)) (
  jm_gc (pu_iload _ _) (sn_iload_n (i := 3) (jm_dc dc_3_0 4 rfl)) (
  jm_gc (pu_ic _ _) (sn_iconst (jm_dc dc_3_0 5 rfl) (by decide)) (
  jm_gc (pu_cge _) (sn_cge (jm_dc dc_3_0 6 rfl) (by decide)) (
  jm_gc (pu_aload _ _) (sn_aload_n (i := 0) (jm_dc dc_3_0 7 rfl)) (
  jm_gc (pu_getA _ _) (sn_getA (jm_dc dc_3_0 8 rfl) fl_0_22 rfl) (
  jm_gc (pu_iload _ _) (sn_iload_n (i := 3) (jm_dc dc_3_0 9 rfl)) (
  jm_gc (pu_iload _ _) (sn_iload_n (i := 2) (jm_dc dc_3_0 10 rfl)) (
  jm_gc (pu_ifne _) (sn_ifne (jm_dc dc_3_0 11 rfl) (by decide)) (
  jm_gc (pu_ic _ _) (sn_iconst (jm_dc dc_3_0 12 rfl) (by decide)) (
  jm_gc (pu_goto _) (sn_goto (jm_dc dc_3_0 13 rfl) (by decide)) (
  jm_gc (pu_iload _ _) (sn_iload_n (i := 2) (jm_dc dc_3_0 14 rfl)) (
  jm_gc (pu_callS _ _) (sn_callS (jm_dc dc_3_0 15 rfl) lk_0_50) (
  jm_gc (pu_iast) (sn_iast (jm_dc dc_3_0 16 rfl)) (
  jm_gc (pu_iload _ _) (sn_iload_n (i := 2) (jm_dc dc_3_0 17 rfl)) (
  jm_gc (pu_iload _ _) (sn_iload_n (i := 2) (jm_dc dc_3_0 18 rfl)) (
  jm_gc (pu_ic _ _) (sn_iconst (jm_dc dc_3_0 19 rfl) (by decide)) (
  jm_gc (pu_ibin _) (sn_isub (jm_dc dc_3_0 20 rfl)) (
  jm_gc (pu_ibin _) (sn_iand (jm_dc dc_3_0 21 rfl)) (
  jm_gc (pu_istore _ _) (sn_istore_n (i := 2) (jm_dc dc_3_0 22 rfl)) (
  jm_gc (pu_iinc _ _) (sn_iinc (jm_dc dc_3_0 23 rfl) (by decide)) (
  jm_gc (pu_goto _) (sn_goto (jm_dc dc_3_0 24 rfl) (by decide)) (
  jm_gn)))))))))))))))))))))))))
theorem dc_3_1 : ([(39, .aload_n 0, 1), (40, .iconst (-1), 1), (41, .putfield 53, 3), (44, .aload_n 0, 1), (45, .iconst 0, 1), (46, .aload_n 0, 1), (47, .getfield 22, 3), (50, .iconst 0, 1), (51, .iaload, 1), (52, .aload_n 0, 1), (53, .getfield 22, 3), (56, .iconst 1, 1), (57, .iaload, 1), (58, .invokevirtual 56, 3), (61, .aload_n 0, 1), (62, .getfield 22, 3), (65, .iconst 2, 1), (66, .iaload, 1), (67, .ifCond .ge 10, 3), (70, .aload_n 0, 1), (71, .invokevirtual 60, 3), (74, .goto 41, 3), (77, .aload_n 0, 1), (78, .iconst 1, 1), (79, .aload_n 0, 1)] : List (Nat × Instr × Nat)).all (fun e => decide (decode prog_2_method_4_code e.1 = .ok e.2)) = true := by decide +kernel
abbrev cl_3_1 : List (Nat × jm_O) := [(39, op_aload 0 1), (40, op_ic (-1) 1), (41, op_putI 0 7), (44, op_aload 0 1), (45, op_ic 0 1), (46, op_aload 0 1), (47, op_getA 0 4), (50, op_ic 0 1), (51, op_iald 13), (52, op_aload 0 1), (53, op_getA 0 4), (56, op_ic 1 1), (57, op_iald 13), (58, op_callV 0 4 4), (61, op_aload 0 1), (62, op_getA 0 4), (65, op_ic 2 1), (66, op_iald 13), (67, op_ifge 77), (70, op_aload 0 1), (71, op_callV 0 7 1), (74, op_goto 115), (77, op_aload 0 1), (78, op_ic 1 1), (79, op_aload 0 1)]
set_option maxRecDepth 100000 in
theorem gl_3_1 : jm_gl "FrescoWall$Arranger" prog_2_method_4_code 4 (Option.some Jvm.ClassFile.FieldType.boolean) false cl_3_1 :=
  jm_gc (pu_aload _ _) (sn_aload_n (i := 0) (jm_dc dc_3_1 0 rfl)) (
  jm_gc (pu_ic _ _) (sn_iconst (jm_dc dc_3_1 1 rfl) (by decide)) (
  jm_gc (pu_putI _ _) (sn_putI (jm_dc dc_3_1 2 rfl) flw_0_53 rfl) (
  jm_gc (pu_aload _ _) (sn_aload_n (i := 0) (jm_dc dc_3_1 3 rfl)) (
  jm_gc (pu_ic _ _) (sn_iconst (jm_dc dc_3_1 4 rfl) (by decide)) (
  jm_gc (pu_aload _ _) (sn_aload_n (i := 0) (jm_dc dc_3_1 5 rfl)) (
  jm_gc (pu_getA _ _) (sn_getA (jm_dc dc_3_1 6 rfl) fl_0_22 rfl) (
  jm_gc (pu_ic _ _) (sn_iconst (jm_dc dc_3_1 7 rfl) (by decide)) (
  jm_gc (pu_iald _) (sn_iald (jm_dc dc_3_1 8 rfl)) (
  jm_gc (pu_aload _ _) (sn_aload_n (i := 0) (jm_dc dc_3_1 9 rfl)) (
  jm_gc (pu_getA _ _) (sn_getA (jm_dc dc_3_1 10 rfl) fl_0_22 rfl) (
  jm_gc (pu_ic _ _) (sn_iconst (jm_dc dc_3_1 11 rfl) (by decide)) (
  jm_gc (pu_iald _) (sn_iald (jm_dc dc_3_1 12 rfl)) (
  jm_gc (pu_callV _ _ _) (sn_callV (jm_dc dc_3_1 13 rfl) lk_0_56) (
  jm_gc (pu_aload _ _) (sn_aload_n (i := 0) (jm_dc dc_3_1 14 rfl)) (
  jm_gc (pu_getA _ _) (sn_getA (jm_dc dc_3_1 15 rfl) fl_0_22 rfl) (
  jm_gc (pu_ic _ _) (sn_iconst (jm_dc dc_3_1 16 rfl) (by decide)) (
  jm_gc (pu_iald _) (sn_iald (jm_dc dc_3_1 17 rfl)) (
  jm_gc (pu_ifge _) (sn_ifge (jm_dc dc_3_1 18 rfl) (by decide)) (
  jm_gc (pu_aload _ _) (sn_aload_n (i := 0) (jm_dc dc_3_1 19 rfl)) (
  jm_gc (pu_callV _ _ _) (sn_callV (jm_dc dc_3_1 20 rfl) lk_0_60) (
  jm_gc (pu_goto _) (sn_goto (jm_dc dc_3_1 21 rfl) (by decide)) (
  jm_gc (pu_aload _ _) (sn_aload_n (i := 0) (jm_dc dc_3_1 22 rfl)) (
  jm_gc (pu_ic _ _) (sn_iconst (jm_dc dc_3_1 23 rfl) (by decide)) (
  jm_gc (pu_aload _ _) (sn_aload_n (i := 0) (jm_dc dc_3_1 24 rfl)) (
  jm_gn)))))))))))))))))))))))))
theorem dc_3_2 : ([(80, .getfield 22, 3), (83, .iconst 0, 1), (84, .iaload, 1), (85, .aload_n 0, 1), (86, .getfield 22, 3), (89, .iconst 2, 1), (90, .iaload, 1), (91, .invokevirtual 56, 3), (94, .aload_n 0, 1), (95, .iconst 2, 1), (96, .aload_n 0, 1), (97, .getfield 22, 3), (100, .iconst 1, 1), (101, .iaload, 1), (102, .aload_n 0, 1), (103, .getfield 22, 3), (106, .iconst 2, 1), (107, .iaload, 1), (108, .invokevirtual 56, 3), (111, .aload_n 0, 1), (112, .invokevirtual 63, 3), (115, .aload_n 0, 1), (116, .getfield 53, 3), (119, .ifCond .ge 5, 3), (122, .iconst 0, 1)] : List (Nat × Instr × Nat)).all (fun e => decide (decode prog_2_method_4_code e.1 = .ok e.2)) = true := by decide +kernel
abbrev cl_3_2 : List (Nat × jm_O) := [(80, op_getA 0 4), (83, op_ic 0 1), (84, op_iald 13), (85, op_aload 0 1), (86, op_getA 0 4), (89, op_ic 2 1), (90, op_iald 13), (91, op_callV 0 4 4), (94, op_aload 0 1), (95, op_ic 2 1), (96, op_aload 0 1), (97, op_getA 0 4), (100, op_ic 1 1), (101, op_iald 13), (102, op_aload 0 1), (103, op_getA 0 4), (106, op_ic 2 1), (107, op_iald 13), (108, op_callV 0 4 4), (111, op_aload 0 1), (112, op_callV 0 8 1), (115, op_aload 0 1), (116, op_getI 0 7), (119, op_ifge 124), (122, op_ic 0 1)]
set_option maxRecDepth 100000 in
theorem gl_3_2 : jm_gl "FrescoWall$Arranger" prog_2_method_4_code 4 (Option.some Jvm.ClassFile.FieldType.boolean) false cl_3_2 :=
  jm_gc (pu_getA _ _) (sn_getA (jm_dc dc_3_2 0 rfl) fl_0_22 rfl) (
  jm_gc (pu_ic _ _) (sn_iconst (jm_dc dc_3_2 1 rfl) (by decide)) (
  jm_gc (pu_iald _) (sn_iald (jm_dc dc_3_2 2 rfl)) (
  jm_gc (pu_aload _ _) (sn_aload_n (i := 0) (jm_dc dc_3_2 3 rfl)) (
  jm_gc (pu_getA _ _) (sn_getA (jm_dc dc_3_2 4 rfl) fl_0_22 rfl) (
  jm_gc (pu_ic _ _) (sn_iconst (jm_dc dc_3_2 5 rfl) (by decide)) (
  jm_gc (pu_iald _) (sn_iald (jm_dc dc_3_2 6 rfl)) (
  jm_gc (pu_callV _ _ _) (sn_callV (jm_dc dc_3_2 7 rfl) lk_0_56) (
  jm_gc (pu_aload _ _) (sn_aload_n (i := 0) (jm_dc dc_3_2 8 rfl)) (
  jm_gc (pu_ic _ _) (sn_iconst (jm_dc dc_3_2 9 rfl) (by decide)) (
  jm_gc (pu_aload _ _) (sn_aload_n (i := 0) (jm_dc dc_3_2 10 rfl)) (
  jm_gc (pu_getA _ _) (sn_getA (jm_dc dc_3_2 11 rfl) fl_0_22 rfl) (
  jm_gc (pu_ic _ _) (sn_iconst (jm_dc dc_3_2 12 rfl) (by decide)) (
  jm_gc (pu_iald _) (sn_iald (jm_dc dc_3_2 13 rfl)) (
  jm_gc (pu_aload _ _) (sn_aload_n (i := 0) (jm_dc dc_3_2 14 rfl)) (
  jm_gc (pu_getA _ _) (sn_getA (jm_dc dc_3_2 15 rfl) fl_0_22 rfl) (
  jm_gc (pu_ic _ _) (sn_iconst (jm_dc dc_3_2 16 rfl) (by decide)) (
  jm_gc (pu_iald _) (sn_iald (jm_dc dc_3_2 17 rfl)) (
  jm_gc (pu_callV _ _ _) (sn_callV (jm_dc dc_3_2 18 rfl) lk_0_56) (
  jm_gc (pu_aload _ _) (sn_aload_n (i := 0) (jm_dc dc_3_2 19 rfl)) (
  jm_gc (pu_callV _ _ _) (sn_callV (jm_dc dc_3_2 20 rfl) lk_0_63) (
  jm_gc (pu_aload _ _) (sn_aload_n (i := 0) (jm_dc dc_3_2 21 rfl)) (
  jm_gc (pu_getI _ _) (sn_getI (jm_dc dc_3_2 22 rfl) fl_0_53 (Or.inl rfl)) (
  jm_gc (pu_ifge _) (sn_ifge (jm_dc dc_3_2 23 rfl) (by decide)) (
  jm_gc (pu_ic _ _) (sn_iconst (jm_dc dc_3_2 24 rfl) (by decide)) (
  jm_gn)))))))))))))))))))))))))
theorem dc_3_3 : ([(123, .ireturn, 1), (124, .aload_n 0, 1), (125, .iload_n 1, 1), (126, .putfield 29, 3), (129, .aload_n 0, 1), (130, .aload_n 0, 1), (131, .getfield 66, 3), (134, .putfield 43, 3), (137, .aload_n 0, 1), (138, .aload_n 0, 1), (139, .getfield 69, 3), (142, .putfield 47, 3), (145, .iconst 1, 1), (146, .ireturn, 1)] : List (Nat × Instr × Nat)).all (fun e => decide (decode prog_2_method_4_code e.1 = .ok e.2)) = true := by decide +kernel
abbrev cl_3_3 : List (Nat × jm_O) := [(123, op_zret), (124, op_aload 0 1), (125, op_iload 1 1), (126, op_putI 0 8), (129, op_aload 0 1), (130, op_aload 0 1), (131, op_getJ 0 5), (134, op_putJ 0 9), (137, op_aload 0 1), (138, op_aload 0 1), (139, op_getJ 0 6), (142, op_putJ 0 10), (145, op_ic 1 1), (146, op_zret)]
set_option maxRecDepth 100000 in
theorem gl_3_3 : jm_gl "FrescoWall$Arranger" prog_2_method_4_code 4 (Option.some Jvm.ClassFile.FieldType.boolean) false cl_3_3 :=
  jm_gc (pu_zret) (sn_zret (jm_dc dc_3_3 0 rfl) rfl) (
  jm_gc (pu_aload _ _) (sn_aload_n (i := 0) (jm_dc dc_3_3 1 rfl)) (
  jm_gc (pu_iload _ _) (sn_iload_n (i := 1) (jm_dc dc_3_3 2 rfl)) (
  jm_gc (pu_putI _ _) (sn_putI (jm_dc dc_3_3 3 rfl) flw_0_29 rfl) (
  jm_gc (pu_aload _ _) (sn_aload_n (i := 0) (jm_dc dc_3_3 4 rfl)) (
  jm_gc (pu_aload _ _) (sn_aload_n (i := 0) (jm_dc dc_3_3 5 rfl)) (
  jm_gc (pu_getJ _ _) (sn_getJ (jm_dc dc_3_3 6 rfl) fl_0_66 rfl) (
  jm_gc (pu_putJ _ _) (sn_putJ (jm_dc dc_3_3 7 rfl) flw_0_43 rfl) (
  jm_gc (pu_aload _ _) (sn_aload_n (i := 0) (jm_dc dc_3_3 8 rfl)) (
  jm_gc (pu_aload _ _) (sn_aload_n (i := 0) (jm_dc dc_3_3 9 rfl)) (
  jm_gc (pu_getJ _ _) (sn_getJ (jm_dc dc_3_3 10 rfl) fl_0_69 rfl) (
  jm_gc (pu_putJ _ _) (sn_putJ (jm_dc dc_3_3 11 rfl) flw_0_47 rfl) (
  jm_gc (pu_ic _ _) (sn_iconst (jm_dc dc_3_3 12 rfl) (by decide)) (
  jm_gc (pu_zret) (sn_zret (jm_dc dc_3_3 13 rfl) rfl) (
  jm_gn))))))))))))))
theorem dc_4_0 : ([(0, .aload_n 0, 1), (1, .getfield 19, 3), (4, .iload_n 1, 1), (5, .iconst 0, 1), (6, .iastore, 1), (7, .iconst 0, 1), (8, .istore 4, 2), (10, .iload 4, 2), (12, .aload_n 0, 1), (13, .getfield 25, 3), (16, .getfield 72, 3), (19, .iload_n 2, 1), (20, .aaload, 1), (21, .getfield 78, 3), (24, .if_icmp .ge 82, 3), (27, .iconst 0, 1), (28, .istore 5, 2), (30, .iload 5, 2), (32, .aload_n 0, 1), (33, .getfield 25, 3), (36, .getfield 72, 3), (39, .iload_n 3, 1), (40, .aaload, 1), (41, .getfield 78, 3), (44, .if_icmp .ge 56, 3)] : List (Nat × Instr × Nat)).all (fun e => decide (decode prog_2_method_5_code e.1 = .ok e.2)) = true := by decide +kernel
abbrev cl_4_0 : List (Nat × jm_O) := [(0, op_aload 0 1), (1, op_getA 0 3), (4, op_iload 1 1), (5, op_ic 0 1), (6, op_iast), (7, op_ic 0 1), (8, op_istore 4 2), (10, op_iload 4 2), (12, op_aload 0 1), (13, op_getA 0 0), (16, op_getA 3 0), (19, op_iload 2 1), (20, op_aald), (21, op_getI 1 3), (24, op_cge 106), (27, op_ic 0 1), (28, op_istore 5 2), (30, op_iload 5 2), (32, op_aload 0 1), (33, op_getA 0 0), (36, op_getA 3 0), (39, op_iload 3 1), (40, op_aald), (41, op_getI 1 3), (44, op_cge 100)]
set_option maxRecDepth 100000 in
theorem gl_4_0 : jm_gl "FrescoWall$Arranger" prog_2_method_5_code 8 (Option.none : Option Jvm.ClassFile.FieldType) false cl_4_0 :=
  jm_gc (pu_aload _ _) (sn_aload_n (i := 0) (jm_dc dc_4_0 0 rfl)) (
  jm_gc (pu_getA _ _) (sn_getA (jm_dc dc_4_0 1 rfl) fl_0_19 rfl) (
  jm_gc (pu_iload _ _) (sn_iload_n (i := 1) (jm_dc dc_4_0 2 rfl)) (
  jm_gc (pu_ic _ _) (sn_iconst (jm_dc dc_4_0 3 rfl) (by decide)) (
  jm_gc (pu_iast) (sn_iast (jm_dc dc_4_0 4 rfl)) (
  jm_gc (pu_ic _ _) (sn_iconst (jm_dc dc_4_0 5 rfl) (by decide)) (
  jm_gc (pu_istore _ _) (sn_istore (jm_dc dc_4_0 6 rfl)) (
  jm_gc (pu_iload _ _) (sn_iload (jm_dc dc_4_0 7 rfl)) (
  jm_gc (pu_aload _ _) (sn_aload_n (i := 0) (jm_dc dc_4_0 8 rfl)) (
  jm_gc (pu_getA _ _) (sn_getA (jm_dc dc_4_0 9 rfl) fl_0_25 rfl) (
  jm_gc (pu_getA _ _) (sn_getA (jm_dc dc_4_0 10 rfl) fl_0_72 rfl) (
  jm_gc (pu_iload _ _) (sn_iload_n (i := 2) (jm_dc dc_4_0 11 rfl)) (
  jm_gc (pu_aald) (sn_aald (jm_dc dc_4_0 12 rfl)) (
  jm_gc (pu_getI _ _) (sn_getI (jm_dc dc_4_0 13 rfl) fl_0_78 (Or.inl rfl)) (
  jm_gc (pu_cge _) (sn_cge (jm_dc dc_4_0 14 rfl) (by decide)) (
  jm_gc (pu_ic _ _) (sn_iconst (jm_dc dc_4_0 15 rfl) (by decide)) (
  jm_gc (pu_istore _ _) (sn_istore (jm_dc dc_4_0 16 rfl)) (
  jm_gc (pu_iload _ _) (sn_iload (jm_dc dc_4_0 17 rfl)) (
  jm_gc (pu_aload _ _) (sn_aload_n (i := 0) (jm_dc dc_4_0 18 rfl)) (
  jm_gc (pu_getA _ _) (sn_getA (jm_dc dc_4_0 19 rfl) fl_0_25 rfl) (
  jm_gc (pu_getA _ _) (sn_getA (jm_dc dc_4_0 20 rfl) fl_0_72 rfl) (
  jm_gc (pu_iload _ _) (sn_iload_n (i := 3) (jm_dc dc_4_0 21 rfl)) (
  jm_gc (pu_aald) (sn_aald (jm_dc dc_4_0 22 rfl)) (
  jm_gc (pu_getI _ _) (sn_getI (jm_dc dc_4_0 23 rfl) fl_0_78 (Or.inl rfl)) (
  jm_gc (pu_cge _) (sn_cge (jm_dc dc_4_0 24 rfl) (by decide)) (
  jm_gn)))))))))))))))))))))))))
theorem dc_4_1 : ([(47, .aload_n 0, 1), (48, .getfield 25, 3), (51, .iload_n 2, 1), (52, .iload 4, 2), (54, .iload_n 3, 1), (55, .iload 5, 2), (57, .invokevirtual 83, 3), (60, .lstore 6, 2), (62, .lload 6, 2), (64, .lconst 0, 1), (65, .lcmp, 1), (66, .ifCond .lt 28, 3), (69, .aload_n 0, 1), (70, .iload_n 1, 1), (71, .lload 6, 2), (73, .aload_n 0, 1), (74, .getfield 25, 3), (77, .iload_n 2, 1), (78, .iload 4, 2), (80, .iload_n 3, 1), (81, .iload 5, 2), (83, .lload 6, 2), (85, .invokestatic 87, 3), (88, .invokevirtual 91, 3), (91, .invokevirtual 95, 3)] : List (Nat × Instr × Nat)).all (fun e => decide (decode prog_2_method_5_code e.1 = .ok e.2)) = true := by decide +kernel
abbrev cl_4_1 : List (Nat × jm_O) := [(47, op_aload 0 1), (48, op_getA 0 0), (51, op_iload 2 1), (52, op_iload 4 2), (54, op_iload 3 1), (55, op_iload 5 2), (57, op_callV 3 32 5), (60, op_lstore 6 2), (62, op_lload 6 2), (64, op_lc 0 1), (65, op_lcmp), (66, op_iflt 94), (69, op_aload 0 1), (70, op_iload 1 1), (71, op_lload 6 2), (73, op_aload 0 1), (74, op_getA 0 0), (77, op_iload 2 1), (78, op_iload 4 2), (80, op_iload 3 1), (81, op_iload 5 2), (83, op_lload 6 2), (85, op_callT 306 1), (88, op_callV 3 33 6), (91, op_callV 0 5 4)]
set_option maxRecDepth 100000 in
theorem gl_4_1 : jm_gl "FrescoWall$Arranger" prog_2_method_5_code 8 (Option.none : Option Jvm.ClassFile.FieldType) false cl_4_1 :=
  jm_gc (pu_aload _ _) (sn_aload_n (i := 0) (jm_dc dc_4_1 0 rfl)) (
  jm_gc (pu_getA _ _) (sn_getA (jm_dc dc_4_1 1 rfl) fl_0_25 rfl) (
  jm_gc (pu_iload _ _) (sn_iload_n (i := 2) (jm_dc dc_4_1 2 rfl)) (
  jm_gc (pu_iload _ _) (sn_iload (jm_dc dc_4_1 3 rfl)) (
  jm_gc (pu_iload _ _) (sn_iload_n (i := 3) (jm_dc dc_4_1 4 rfl)) (
  jm_gc (pu_iload _ _) (sn_iload (jm_dc dc_4_1 5 rfl)) (
  jm_gc (pu_callV _ _ _) (sn_callV (jm_dc dc_4_1 6 rfl) lk_0_83) (
  jm_gc (pu_lstore _ _) (sn_lstore (jm_dc dc_4_1 7 rfl)) (
  jm_gc (pu_lload _ _) (sn_lload (jm_dc dc_4_1 8 rfl)) (
  jm_gc (pu_lc _ _) (sn_lconst (jm_dc dc_4_1 9 rfl) (by decide)) (
  jm_gc (pu_lcmp) (sn_lcmp (jm_dc dc_4_1 10 rfl)) (
  jm_gc (pu_iflt _) (sn_iflt (jm_dc dc_4_1 11 rfl) (by decide)) (
  jm_gc (pu_aload _ _) (sn_aload_n (i := 0) (jm_dc dc_4_1 12 rfl)) (
  jm_gc (pu_iload _ _) (sn_iload_n (i := 1) (jm_dc dc_4_1 13 rfl)) (
  jm_gc (pu_lload _ _) (sn_lload (jm_dc dc_4_1 14 rfl)) (
  jm_gc (pu_aload _ _) (sn_aload_n (i := 0) (jm_dc dc_4_1 15 rfl)) (
  jm_gc (pu_getA _ _) (sn_getA (jm_dc dc_4_1 16 rfl) fl_0_25 rfl) (
  jm_gc (pu_iload _ _) (sn_iload_n (i := 2) (jm_dc dc_4_1 17 rfl)) (
  jm_gc (pu_iload _ _) (sn_iload (jm_dc dc_4_1 18 rfl)) (
  jm_gc (pu_iload _ _) (sn_iload_n (i := 3) (jm_dc dc_4_1 19 rfl)) (
  jm_gc (pu_iload _ _) (sn_iload (jm_dc dc_4_1 20 rfl)) (
  jm_gc (pu_lload _ _) (sn_lload (jm_dc dc_4_1 21 rfl)) (
  jm_gc (pu_callT _ _) (sn_callT (jm_dc dc_4_1 22 rfl) lk_0_87 (by decide)) (
  jm_gc (pu_callV _ _ _) (sn_callV (jm_dc dc_4_1 23 rfl) lk_0_91) (
  jm_gc (pu_callV _ _ _) (sn_callV (jm_dc dc_4_1 24 rfl) lk_0_95) (
  jm_gn)))))))))))))))))))))))))
theorem dc_4_2 : ([(94, .iinc 5 1, 3), (97, .goto (-67), 3), (100, .iinc 4 1, 3), (103, .goto (-93), 3), (106, .return_, 1)] : List (Nat × Instr × Nat)).all (fun e => decide (decode prog_2_method_5_code e.1 = .ok e.2)) = true := by decide +kernel
abbrev cl_4_2 : List (Nat × jm_O) := [(94, op_iinc 5 1), (97, op_goto 30), (100, op_iinc 4 1), (103, op_goto 10), (106, op_vret)]
set_option maxRecDepth 100000 in
theorem gl_4_2 : jm_gl "FrescoWall$Arranger" prog_2_method_5_code 8 (Option.none : Option Jvm.ClassFile.FieldType) false cl_4_2 :=
  jm_gc (pu_iinc _ _) (sn_iinc (jm_dc dc_4_2 0 rfl) (by decide)) (
  jm_gc (pu_goto _) (sn_goto (jm_dc dc_4_2 1 rfl) (by decide)) (
  jm_gc (pu_iinc _ _) (sn_iinc (jm_dc dc_4_2 2 rfl) (by decide)) (
  jm_gc (pu_goto _) (sn_goto (jm_dc dc_4_2 3 rfl) (by decide)) (
  jm_gc (pu_vret) (sn_vret (jm_dc dc_4_2 4 rfl) rfl) (
  jm_gn)))))
theorem dc_5_0 : ([(0, .aload_n 0, 1), (1, .iload_n 1, 1), (2, .lload_n 2, 1), (3, .invokevirtual 99, 3), (6, .istore 5, 2), (8, .iload 5, 2), (10, .ifCond .ge 42, 3), (13, .iload_n 1, 1), (14, .bipush 64, 2), (16, .imul, 1), (17, .aload_n 0, 1), (18, .getfield 19, 3), (21, .iload_n 1, 1), (22, .iaload, 1), (23, .iadd, 1), (24, .istore 5, 2), (26, .aload_n 0, 1), (27, .getfield 11, 3), (30, .iload 5, 2), (32, .lload_n 2, 1), (33, .lastore, 1), (34, .aload_n 0, 1), (35, .getfield 15, 3), (38, .iload 5, 2), (40, .iconst 0, 1)] : List (Nat × Instr × Nat)).all (fun e => decide (decode prog_2_method_6_code e.1 = .ok e.2)) = true := by decide +kernel
abbrev cl_5_0 : List (Nat × jm_O) := [(0, op_aload 0 1), (1, op_iload 1 1), (2, op_lload 2 1), (3, op_callV 0 6 3), (6, op_istore 5 2), (8, op_iload 5 2), (10, op_ifge 52), (13, op_iload 1 1), (14, op_ic 64 2), (16, op_ibin (fun x y => x * y)), (17, op_aload 0 1), (18, op_getA 0 3), (21, op_iload 1 1), (22, op_iald 13), (23, op_ibin (fun x y => x + y)), (24, op_istore 5 2), (26, op_aload 0 1), (27, op_getA 0 1), (30, op_iload 5 2), (32, op_lload 2 1), (33, op_last), (34, op_aload 0 1), (35, op_getA 0 2), (38, op_iload 5 2), (40, op_ic 0 1)]
set_option maxRecDepth 100000 in
theorem gl_5_0 : jm_gl "FrescoWall$Arranger" prog_2_method_6_code 6 (Option.none : Option Jvm.ClassFile.FieldType) false cl_5_0 :=
  jm_gc (pu_aload _ _) (sn_aload_n (i := 0) (jm_dc dc_5_0 0 rfl)) (
  jm_gc (pu_iload _ _) (sn_iload_n (i := 1) (jm_dc dc_5_0 1 rfl)) (
  jm_gc (pu_lload _ _) (sn_lload_n (i := 2) (jm_dc dc_5_0 2 rfl)) (
  jm_gc (pu_callV _ _ _) (sn_callV (jm_dc dc_5_0 3 rfl) lk_0_99) (
  jm_gc (pu_istore _ _) (sn_istore (jm_dc dc_5_0 4 rfl)) (
  jm_gc (pu_iload _ _) (sn_iload (jm_dc dc_5_0 5 rfl)) (
  jm_gc (pu_ifge _) (sn_ifge (jm_dc dc_5_0 6 rfl) (by decide)) (
  jm_gc (pu_iload _ _) (sn_iload_n (i := 1) (jm_dc dc_5_0 7 rfl)) (
  jm_gc (pu_ic _ _) (sn_bipush (jm_dc dc_5_0 8 rfl) (by decide)) (
  jm_gc (pu_ibin _) (sn_imul (jm_dc dc_5_0 9 rfl)) (
  jm_gc (pu_aload _ _) (sn_aload_n (i := 0) (jm_dc dc_5_0 10 rfl)) (
  jm_gc (pu_getA _ _) (sn_getA (jm_dc dc_5_0 11 rfl) fl_0_19 rfl) (
  jm_gc (pu_iload _ _) (sn_iload_n (i := 1) (jm_dc dc_5_0 12 rfl)) (
  jm_gc (pu_iald _) (sn_iald (jm_dc dc_5_0 13 rfl)) (
  jm_gc (pu_ibin _) (sn_iadd (jm_dc dc_5_0 14 rfl)) (
  jm_gc (pu_istore _ _) (sn_istore (jm_dc dc_5_0 15 rfl)) (
  jm_gc (pu_aload _ _) (sn_aload_n (i := 0) (jm_dc dc_5_0 16 rfl)) (
  jm_gc (pu_getA _ _) (sn_getA (jm_dc dc_5_0 17 rfl) fl_0_11 rfl) (
  jm_gc (pu_iload _ _) (sn_iload (jm_dc dc_5_0 18 rfl)) (
  jm_gc (pu_lload _ _) (sn_lload_n (i := 2) (jm_dc dc_5_0 19 rfl)) (
  jm_gc (pu_last) (sn_last (jm_dc dc_5_0 20 rfl)) (
  jm_gc (pu_aload _ _) (sn_aload_n (i := 0) (jm_dc dc_5_0 21 rfl)) (
  jm_gc (pu_getA _ _) (sn_getA (jm_dc dc_5_0 22 rfl) fl_0_15 rfl) (
  jm_gc (pu_iload _ _) (sn_iload (jm_dc dc_5_0 23 rfl)) (
  jm_gc (pu_ic _ _) (sn_iconst (jm_dc dc_5_0 24 rfl) (by decide)) (
  jm_gn)))))))))))))))))))))))))
theorem dc_5_1 : ([(41, .iastore, 1), (42, .aload_n 0, 1), (43, .getfield 19, 3), (46, .iload_n 1, 1), (47, .dup2, 1), (48, .iaload, 1), (49, .iconst 1, 1), (50, .iadd, 1), (51, .iastore, 1), (52, .aload_n 0, 1), (53, .getfield 15, 3), (56, .iload 5, 2), (58, .dup2, 1), (59, .iaload, 1), (60, .iload 4, 2), (62, .iadd, 1), (63, .iastore, 1), (64, .return_, 1)] : List (Nat × Instr × Nat)).all (fun e => decide (decode prog_2_method_6_code e.1 = .ok e.2)) = true := by decide +kernel
abbrev cl_5_1 : List (Nat × jm_O) := [(41, op_iast), (42, op_aload 0 1), (43, op_getA 0 3), (46, op_iload 1 1), (47, op_dup2), (48, op_iald 13), (49, op_ic 1 1), (50, op_ibin (fun x y => x + y)), (51, op_iast), (52, op_aload 0 1), (53, op_getA 0 2), (56, op_iload 5 2), (58, op_dup2), (59, op_iald 13), (60, op_iload 4 2), (62, op_ibin (fun x y => x + y)), (63, op_iast), (64, op_vret)]
set_option maxRecDepth 100000 in
theorem gl_5_1 : jm_gl "FrescoWall$Arranger" prog_2_method_6_code 6 (Option.none : Option Jvm.ClassFile.FieldType) false cl_5_1 :=
  jm_gc (pu_iast) (sn_iast (jm_dc dc_5_1 0 rfl)) (
  jm_gc (pu_aload _ _) (sn_aload_n (i := 0) (jm_dc dc_5_1 1 rfl)) (
  jm_gc (pu_getA _ _) (sn_getA (jm_dc dc_5_1 2 rfl) fl_0_19 rfl) (
  jm_gc (pu_iload _ _) (sn_iload_n (i := 1) (jm_dc dc_5_1 3 rfl)) (
  jm_gc (pu_dup2) (sn_dup2 (jm_dc dc_5_1 4 rfl)) (
  jm_gc (pu_iald _) (sn_iald (jm_dc dc_5_1 5 rfl)) (
  jm_gc (pu_ic _ _) (sn_iconst (jm_dc dc_5_1 6 rfl) (by decide)) (
  jm_gc (pu_ibin _) (sn_iadd (jm_dc dc_5_1 7 rfl)) (
  jm_gc (pu_iast) (sn_iast (jm_dc dc_5_1 8 rfl)) (
  jm_gc (pu_aload _ _) (sn_aload_n (i := 0) (jm_dc dc_5_1 9 rfl)) (
  jm_gc (pu_getA _ _) (sn_getA (jm_dc dc_5_1 10 rfl) fl_0_15 rfl) (
  jm_gc (pu_iload _ _) (sn_iload (jm_dc dc_5_1 11 rfl)) (
  jm_gc (pu_dup2) (sn_dup2 (jm_dc dc_5_1 12 rfl)) (
  jm_gc (pu_iald _) (sn_iald (jm_dc dc_5_1 13 rfl)) (
  jm_gc (pu_iload _ _) (sn_iload (jm_dc dc_5_1 14 rfl)) (
  jm_gc (pu_ibin _) (sn_iadd (jm_dc dc_5_1 15 rfl)) (
  jm_gc (pu_iast) (sn_iast (jm_dc dc_5_1 16 rfl)) (
  jm_gc (pu_vret) (sn_vret (jm_dc dc_5_1 17 rfl) rfl) (
  jm_gn))))))))))))))))))
theorem dc_6_0 : ([(0, .iload_n 1, 1), (1, .bipush 64, 2), (3, .imul, 1), (4, .istore 4, 2), (6, .iload 4, 2), (8, .istore 5, 2), (10, .iload 5, 2), (12, .iload 4, 2), (14, .aload_n 0, 1), (15, .getfield 19, 3), (18, .iload_n 1, 1), (19, .iaload, 1), (20, .iadd, 1), (21, .if_icmp .ge 24, 3), (24, .aload_n 0, 1), (25, .getfield 11, 3), (28, .iload 5, 2), (30, .laload, 1), (31, .lload_n 2, 1), (32, .lcmp, 1), (33, .ifCond .ne 6, 3), (36, .iload 5, 2), (38, .ireturn, 1), (39, .iinc 5 1, 3), (42, .goto (-32), 3)] : List (Nat × Instr × Nat)).all (fun e => decide (decode prog_2_method_7_code e.1 = .ok e.2)) = true := by decide +kernel
abbrev cl_6_0 : List (Nat × jm_O) := [(0, op_iload 1 1), (1, op_ic 64 2), (3, op_ibin (fun x y => x * y)), (4, op_istore 4 2), (6, op_iload 4 2), (8, op_istore 5 2), (10, op_iload 5 2), (12, op_iload 4 2), (14, op_aload 0 1), (15, op_getA 0 3), (18, op_iload 1 1), (19, op_iald 13), (20, op_ibin (fun x y => x + y)), (21, op_cge 45), (24, op_aload 0 1), (25, op_getA 0 1), (28, op_iload 5 2), (30, op_lald), (31, op_lload 2 1), (32, op_lcmp), (33, op_ifne 39), (36, op_iload 5 2), (38, op_iret), (39, op_iinc 5 1), (42, op_goto 10)]
set_option maxRecDepth 100000 in
theorem gl_6_0 : jm_gl "FrescoWall$Arranger" prog_2_method_7_code 6 (Option.some Jvm.ClassFile.FieldType.int) false cl_6_0 :=
  jm_gc (pu_iload _ _) (sn_iload_n (i := 1) (jm_dc dc_6_0 0 rfl)) (
  jm_gc (pu_ic _ _) (sn_bipush (jm_dc dc_6_0 1 rfl) (by decide)) (
  jm_gc (pu_ibin _) (sn_imul (jm_dc dc_6_0 2 rfl)) (
  jm_gc (pu_istore _ _) (sn_istore (jm_dc dc_6_0 3 rfl)) (
  jm_gc (pu_iload _ _) (sn_iload (jm_dc dc_6_0 4 rfl)) (
  jm_gc (pu_istore _ _) (sn_istore (jm_dc dc_6_0 5 rfl)) (
  jm_gc (pu_iload _ _) (sn_iload (jm_dc dc_6_0 6 rfl)) (
  jm_gc (pu_iload _ _) (sn_iload (jm_dc dc_6_0 7 rfl)) (
  jm_gc (pu_aload _ _) (sn_aload_n (i := 0) (jm_dc dc_6_0 8 rfl)) (
  jm_gc (pu_getA _ _) (sn_getA (jm_dc dc_6_0 9 rfl) fl_0_19 rfl) (
  jm_gc (pu_iload _ _) (sn_iload_n (i := 1) (jm_dc dc_6_0 10 rfl)) (
  jm_gc (pu_iald _) (sn_iald (jm_dc dc_6_0 11 rfl)) (
  jm_gc (pu_ibin _) (sn_iadd (jm_dc dc_6_0 12 rfl)) (
  jm_gc (pu_cge _) (sn_cge (jm_dc dc_6_0 13 rfl) (by decide)) (
  jm_gc (pu_aload _ _) (sn_aload_n (i := 0) (jm_dc dc_6_0 14 rfl)) (
  jm_gc (pu_getA _ _) (sn_getA (jm_dc dc_6_0 15 rfl) fl_0_11 rfl) (
  jm_gc (pu_iload _ _) (sn_iload (jm_dc dc_6_0 16 rfl)) (
  jm_gc (pu_lald) (sn_lald (jm_dc dc_6_0 17 rfl)) (
  jm_gc (pu_lload _ _) (sn_lload_n (i := 2) (jm_dc dc_6_0 18 rfl)) (
  jm_gc (pu_lcmp) (sn_lcmp (jm_dc dc_6_0 19 rfl)) (
  jm_gc (pu_ifne _) (sn_ifne (jm_dc dc_6_0 20 rfl) (by decide)) (
  jm_gc (pu_iload _ _) (sn_iload (jm_dc dc_6_0 21 rfl)) (
  jm_gc (pu_iret) (sn_iret (jm_dc dc_6_0 22 rfl) rfl) (
  jm_gc (pu_iinc _ _) (sn_iinc (jm_dc dc_6_0 23 rfl) (by decide)) (
  jm_gc (pu_goto _) (sn_goto (jm_dc dc_6_0 24 rfl) (by decide)) (
  jm_gn)))))))))))))))))))))))))
theorem dc_6_1 : ([(45, .iconst (-1), 1), (46, .ireturn, 1)] : List (Nat × Instr × Nat)).all (fun e => decide (decode prog_2_method_7_code e.1 = .ok e.2)) = true := by decide +kernel
abbrev cl_6_1 : List (Nat × jm_O) := [(45, op_ic (-1) 1), (46, op_iret)]
set_option maxRecDepth 100000 in
theorem gl_6_1 : jm_gl "FrescoWall$Arranger" prog_2_method_7_code 6 (Option.some Jvm.ClassFile.FieldType.int) false cl_6_1 :=
  jm_gc (pu_ic _ _) (sn_iconst (jm_dc dc_6_1 0 rfl) (by decide)) (
  jm_gc (pu_iret) (sn_iret (jm_dc dc_6_1 1 rfl) rfl) (
  jm_gn))
theorem dc_7_0 : ([(0, .iconst 0, 1), (1, .istore_n 1, 1), (2, .iload_n 1, 1), (3, .aload_n 0, 1), (4, .getfield 19, 3), (7, .iconst 0, 1), (8, .iaload, 1), (9, .if_icmp .ge 28, 3), (12, .aload_n 0, 1), (13, .aload_n 0, 1), (14, .getfield 15, 3), (17, .iload_n 1, 1), (18, .iaload, 1), (19, .aload_n 0, 1), (20, .getfield 11, 3), (23, .iload_n 1, 1), (24, .laload, 1), (25, .ldc2_w 41, 3), (28, .invokevirtual 103, 3), (31, .iinc 1 1, 3), (34, .goto (-32), 3), (37, .return_, 1)] : List (Nat × Instr × Nat)).all (fun e => decide (decode prog_2_method_8_code e.1 = .ok e.2)) = true := by decide +kernel
abbrev cl_7_0 : List (Nat × jm_O) := [(0, op_ic 0 1), (1, op_istore 1 1), (2, op_iload 1 1), (3, op_aload 0 1), (4, op_getA 0 3), (7, op_ic 0 1), (8, op_iald 13), (9, op_cge 37), (12, op_aload 0 1), (13, op_aload 0 1), (14, op_getA 0 2), (17, op_iload 1 1), (18, op_iald 13), (19, op_aload 0 1), (20, op_getA 0 1), (23, op_iload 1 1), (24, op_lald), (25, op_lc 549756338176 3), (28, op_callV 0 12 4), (31, op_iinc 1 1), (34, op_goto 2), (37, op_vret)]
set_option maxRecDepth 100000 in
theorem gl_7_0 : jm_gl "FrescoWall$Arranger" prog_2_method_8_code 2 (Option.none : Option Jvm.ClassFile.FieldType) false cl_7_0 :=
  jm_gc (pu_ic _ _) (sn_iconst (jm_dc dc_7_0 0 rfl) (by decide)) (
  jm_gc (pu_istore _ _) (sn_istore_n (i := 1) (jm_dc dc_7_0 1 rfl)) (
  jm_gc (pu_iload _ _) (sn_iload_n (i := 1) (jm_dc dc_7_0 2 rfl)) (
  jm_gc (pu_aload _ _) (sn_aload_n (i := 0) (jm_dc dc_7_0 3 rfl)) (
  jm_gc (pu_getA _ _) (sn_getA (jm_dc dc_7_0 4 rfl) fl_0_19 rfl) (
  jm_gc (pu_ic _ _) (sn_iconst (jm_dc dc_7_0 5 rfl) (by decide)) (
  jm_gc (pu_iald _) (sn_iald (jm_dc dc_7_0 6 rfl)) (
  jm_gc (pu_cge _) (sn_cge (jm_dc dc_7_0 7 rfl) (by decide)) (
  jm_gc (pu_aload _ _) (sn_aload_n (i := 0) (jm_dc dc_7_0 8 rfl)) (
  jm_gc (pu_aload _ _) (sn_aload_n (i := 0) (jm_dc dc_7_0 9 rfl)) (
  jm_gc (pu_getA _ _) (sn_getA (jm_dc dc_7_0 10 rfl) fl_0_15 rfl) (
  jm_gc (pu_iload _ _) (sn_iload_n (i := 1) (jm_dc dc_7_0 11 rfl)) (
  jm_gc (pu_iald _) (sn_iald (jm_dc dc_7_0 12 rfl)) (
  jm_gc (pu_aload _ _) (sn_aload_n (i := 0) (jm_dc dc_7_0 13 rfl)) (
  jm_gc (pu_getA _ _) (sn_getA (jm_dc dc_7_0 14 rfl) fl_0_11 rfl) (
  jm_gc (pu_iload _ _) (sn_iload_n (i := 1) (jm_dc dc_7_0 15 rfl)) (
  jm_gc (pu_lald) (sn_lald (jm_dc dc_7_0 16 rfl)) (
  jm_gc (pu_lc _ _) (sn_ldc2 (jm_dc dc_7_0 17 rfl) (kc_tb 1084 (by decide +kernel))) (
  jm_gc (pu_callV _ _ _) (sn_callV (jm_dc dc_7_0 18 rfl) lk_0_103) (
  jm_gc (pu_iinc _ _) (sn_iinc (jm_dc dc_7_0 19 rfl) (by decide)) (
  jm_gc (pu_goto _) (sn_goto (jm_dc dc_7_0 20 rfl) (by decide)) (
  jm_gc (pu_vret) (sn_vret (jm_dc dc_7_0 21 rfl) rfl) (
  jm_gn))))))))))))))))))))))
theorem dc_8_0 : ([(0, .iconst 0, 1), (1, .istore_n 1, 1), (2, .iload_n 1, 1), (3, .aload_n 0, 1), (4, .getfield 19, 3), (7, .iconst 0, 1), (8, .iaload, 1), (9, .if_icmp .ge 46, 3), (12, .iconst 0, 1), (13, .istore_n 2, 1), (14, .iload_n 2, 1), (15, .aload_n 0, 1), (16, .getfield 19, 3), (19, .iconst 1, 1), (20, .iaload, 1), (21, .if_icmp .ge 28, 3), (24, .aload_n 0, 1), (25, .aload_n 0, 1), (26, .getfield 11, 3), (29, .iload_n 1, 1), (30, .laload, 1), (31, .aload_n 0, 1), (32, .getfield 11, 3), (35, .bipush 64, 2), (37, .iload_n 2, 1)] : List (Nat × Instr × Nat)).all (fun e => decide (decode prog_2_method_9_code e.1 = .ok e.2)) = true := by decide +kernel
abbrev cl_8_0 : List (Nat × jm_O) := [(0, op_ic 0 1), (1, op_istore 1 1), (2, op_iload 1 1), (3, op_aload 0 1), (4, op_getA 0 3), (7, op_ic 0 1), (8, op_iald 13), (9, op_cge 55), (12, op_ic 0 1), (13, op_istore 2 1), (14, op_iload 2 1), (15, op_aload 0 1), (16, op_getA 0 3), (19, op_ic 1 1), (20, op_iald 13), (21, op_cge 49), (24, op_aload 0 1), (25, op_aload 0 1), (26, op_getA 0 1), (29, op_iload 1 1), (30, op_lald), (31, op_aload 0 1), (32, op_getA 0 1), (35, op_ic 64 2), (37, op_iload 2 1)]
set_option maxRecDepth 100000 in
theorem gl_8_0 : jm_gl "FrescoWall$Arranger" prog_2_method_9_code 9 (Option.none : Option Jvm.ClassFile.FieldType) false cl_8_0 :=
  jm_gc (pu_ic _ _) (sn_iconst (jm_dc dc_8_0 0 rfl) (by decide)) (
  jm_gc (pu_istore _ _) (sn_istore_n (i := 1) (jm_dc dc_8_0 1 rfl)) (
  jm_gc (pu_iload _ _) (sn_iload_n (i := 1) (jm_dc dc_8_0 2 rfl)) (
  jm_gc (pu_aload _ _) (sn_aload_n (i := 0) (jm_dc dc_8_0 3 rfl)) (
  jm_gc (pu_getA _ _) (sn_getA (jm_dc dc_8_0 4 rfl) fl_0_19 rfl) (
  jm_gc (pu_ic _ _) (sn_iconst (jm_dc dc_8_0 5 rfl) (by decide)) (
  jm_gc (pu_iald _) (sn_iald (jm_dc dc_8_0 6 rfl)) (
  jm_gc (pu_cge _) (sn_cge (jm_dc dc_8_0 7 rfl) (by decide)) (
  jm_gc (pu_ic _ _) (sn_iconst (jm_dc dc_8_0 8 rfl) (by decide)) (
  jm_gc (pu_istore _ _) (sn_istore_n (i := 2) (jm_dc dc_8_0 9 rfl)) (
  jm_gc (pu_iload _ _) (sn_iload_n (i := 2) (jm_dc dc_8_0 10 rfl)) (
  jm_gc (pu_aload _ _) (sn_aload_n (i := 0) (jm_dc dc_8_0 11 rfl)) (
  jm_gc (pu_getA _ _) (sn_getA (jm_dc dc_8_0 12 rfl) fl_0_19 rfl) (
  jm_gc (pu_ic _ _) (sn_iconst (jm_dc dc_8_0 13 rfl) (by decide)) (
  jm_gc (pu_iald _) (sn_iald (jm_dc dc_8_0 14 rfl)) (
  jm_gc (pu_cge _) (sn_cge (jm_dc dc_8_0 15 rfl) (by decide)) (
  jm_gc (pu_aload _ _) (sn_aload_n (i := 0) (jm_dc dc_8_0 16 rfl)) (
  jm_gc (pu_aload _ _) (sn_aload_n (i := 0) (jm_dc dc_8_0 17 rfl)) (
  jm_gc (pu_getA _ _) (sn_getA (jm_dc dc_8_0 18 rfl) fl_0_11 rfl) (
  jm_gc (pu_iload _ _) (sn_iload_n (i := 1) (jm_dc dc_8_0 19 rfl)) (
  jm_gc (pu_lald) (sn_lald (jm_dc dc_8_0 20 rfl)) (
  jm_gc (pu_aload _ _) (sn_aload_n (i := 0) (jm_dc dc_8_0 21 rfl)) (
  jm_gc (pu_getA _ _) (sn_getA (jm_dc dc_8_0 22 rfl) fl_0_11 rfl) (
  jm_gc (pu_ic _ _) (sn_bipush (jm_dc dc_8_0 23 rfl) (by decide)) (
  jm_gc (pu_iload _ _) (sn_iload_n (i := 2) (jm_dc dc_8_0 24 rfl)) (
  jm_gn)))))))))))))))))))))))))
theorem dc_8_1 : ([(38, .iadd, 1), (39, .laload, 1), (40, .invokevirtual 107, 3), (43, .iinc 2 1, 3), (46, .goto (-32), 3), (49, .iinc 1 1, 3), (52, .goto (-50), 3), (55, .iconst 0, 1), (56, .istore_n 1, 1), (57, .iload_n 1, 1), (58, .aload_n 0, 1), (59, .getfield 19, 3), (62, .iconst 2, 1), (63, .iaload, 1), (64, .if_icmp .ge 113, 3), (67, .aload_n 0, 1), (68, .getfield 11, 3), (71, .sipush 128, 3), (74, .iload_n 1, 1), (75, .iadd, 1), (76, .laload, 1), (77, .lstore_n 2, 1), (78, .lload_n 2, 1), (79, .invokestatic 111, 3), (82, .lstore 4, 2)] : List (Nat × Instr × Nat)).all (fun e => decide (decode prog_2_method_9_code e.1 = .ok e.2)) = true := by decide +kernel
abbrev cl_8_1 : List (Nat × jm_O) := [(38, op_ibin (fun x y => x + y)), (39, op_lald), (40, op_callV 0 9 3), (43, op_iinc 2 1), (46, op_goto 14), (49, op_iinc 1 1), (52, op_goto 2), (55, op_ic 0 1), (56, op_istore 1 1), (57, op_iload 1 1), (58, op_aload 0 1), (59, op_getA 0 3), (62, op_ic 2 1), (63, op_iald 13), (64, op_cge 177), (67, op_aload 0 1), (68, op_getA 0 1), (71, op_ic 128 3), (74, op_iload 1 1), (75, op_ibin (fun x y => x + y)), (76, op_lald), (77, op_lstore 2 1), (78, op_lload 2 1), (79, op_callS 314 1), (82, op_lstore 4 2)]
set_option maxRecDepth 100000 in
theorem gl_8_1 : jm_gl "FrescoWall$Arranger" prog_2_method_9_code 9 (Option.none : Option Jvm.ClassFile.FieldType) false cl_8_1 :=
  jm_gc (pu_ibin _) (sn_iadd (jm_dc dc_8_1 0 rfl)) (
  jm_gc (pu_lald) (sn_lald (jm_dc dc_8_1 1 rfl)) (
  jm_gc (pu_callV _ _ _) (sn_callV (jm_dc dc_8_1 2 rfl) lk_0_107) (
  jm_gc (pu_iinc _ _) (sn_iinc (jm_dc dc_8_1 3 rfl) (by decide)) (
  jm_gc (pu_goto _) (sn_goto (jm_dc dc_8_1 4 rfl) (by decide)) (
  jm_gc (pu_iinc _ _) (sn_iinc (jm_dc dc_8_1 5 rfl) (by decide)) (
  jm_gc (pu_goto _) (sn_goto (jm_dc dc_8_1 6 rfl) (by decide)) (
  jm_gc (pu_ic _ _) (sn_iconst (jm_dc dc_8_1 7 rfl) (by decide)) (
  jm_gc (pu_istore _ _) (sn_istore_n (i := 1) (jm_dc dc_8_1 8 rfl)) (
  jm_gc (pu_iload _ _) (sn_iload_n (i := 1) (jm_dc dc_8_1 9 rfl)) (
  jm_gc (pu_aload _ _) (sn_aload_n (i := 0) (jm_dc dc_8_1 10 rfl)) (
  jm_gc (pu_getA _ _) (sn_getA (jm_dc dc_8_1 11 rfl) fl_0_19 rfl) (
  jm_gc (pu_ic _ _) (sn_iconst (jm_dc dc_8_1 12 rfl) (by decide)) (
  jm_gc (pu_iald _) (sn_iald (jm_dc dc_8_1 13 rfl)) (
  jm_gc (pu_cge _) (sn_cge (jm_dc dc_8_1 14 rfl) (by decide)) (
  jm_gc (pu_aload _ _) (sn_aload_n (i := 0) (jm_dc dc_8_1 15 rfl)) (
  jm_gc (pu_getA _ _) (sn_getA (jm_dc dc_8_1 16 rfl) fl_0_11 rfl) (
  jm_gc (pu_ic _ _) (sn_sipush (jm_dc dc_8_1 17 rfl) (by decide)) (
  jm_gc (pu_iload _ _) (sn_iload_n (i := 1) (jm_dc dc_8_1 18 rfl)) (
  jm_gc (pu_ibin _) (sn_iadd (jm_dc dc_8_1 19 rfl)) (
  jm_gc (pu_lald) (sn_lald (jm_dc dc_8_1 20 rfl)) (
  jm_gc (pu_lstore _ _) (sn_lstore_n (i := 2) (jm_dc dc_8_1 21 rfl)) (
  jm_gc (pu_lload _ _) (sn_lload_n (i := 2) (jm_dc dc_8_1 22 rfl)) (
  jm_gc (pu_callS _ _) (sn_callS (jm_dc dc_8_1 23 rfl) lk_0_111) (
  jm_gc (pu_lstore _ _) (sn_lstore (jm_dc dc_8_1 24 rfl)) (
  jm_gn)))))))))))))))))))))))))
theorem dc_8_2 : ([(84, .iconst 0, 1), (85, .istore 6, 2), (87, .iload 6, 2), (89, .aload_n 0, 1), (90, .getfield 19, 3), (93, .iconst 0, 1), (94, .iaload, 1), (95, .if_icmp .ge 31, 3), (98, .aload_n 0, 1), (99, .aload_n 0, 1), (100, .getfield 11, 3), (103, .iload 6, 2), (105, .laload, 1), (106, .aload_n 0, 1), (107, .getfield 11, 3), (110, .iload 6, 2), (112, .laload, 1), (113, .lload_n 2, 1), (114, .invokestatic 115, 3), (117, .invokevirtual 107, 3), (120, .iinc 6 1, 3), (123, .goto (-36), 3), (126, .iconst 0, 1), (127, .istore 6, 2), (129, .iload 6, 2)] : List (Nat × Instr × Nat)).all (fun e => decide (decode prog_2_method_9_code e.1 = .ok e.2)) = true := by decide +kernel
abbrev cl_8_2 : List (Nat × jm_O) := [(84, op_ic 0 1), (85, op_istore 6 2), (87, op_iload 6 2), (89, op_aload 0 1), (90, op_getA 0 3), (93, op_ic 0 1), (94, op_iald 13), (95, op_cge 126), (98, op_aload 0 1), (99, op_aload 0 1), (100, op_getA 0 1), (103, op_iload 6 2), (105, op_lald), (106, op_aload 0 1), (107, op_getA 0 1), (110, op_iload 6 2), (112, op_lald), (113, op_lload 2 1), (114, op_callS 313 2), (117, op_callV 0 9 3), (120, op_iinc 6 1), (123, op_goto 87), (126, op_ic 0 1), (127, op_istore 6 2), (129, op_iload 6 2)]
set_option maxRecDepth 100000 in
theorem gl_8_2 : jm_gl "FrescoWall$Arranger" prog_2_method_9_code 9 (Option.none : Option Jvm.ClassFile.FieldType) false cl_8_2 :=
  jm_gc (pu_ic _ _) (sn_iconst (jm_dc dc_8_2 0 rfl) (by decide)) (
  jm_gc (pu_istore _ _) (sn_istore (jm_dc dc_8_2 1 rfl)) (
  jm_gc (pu_iload _ _) (sn_iload (jm_dc dc_8_2 2 rfl)) (
  jm_gc (pu_aload _ _) (sn_aload_n (i := 0) (jm_dc dc_8_2 3 rfl)) (
  jm_gc (pu_getA _ _) (sn_getA (jm_dc dc_8_2 4 rfl) fl_0_19 rfl) (
  jm_gc (pu_ic _ _) (sn_iconst (jm_dc dc_8_2 5 rfl) (by decide)) (
  jm_gc (pu_iald _) (sn_iald (jm_dc dc_8_2 6 rfl)) (
  jm_gc (pu_cge _) (sn_cge (jm_dc dc_8_2 7 rfl) (by decide)) (
  jm_gc (pu_aload _ _) (sn_aload_n (i := 0) (jm_dc dc_8_2 8 rfl)) (
  jm_gc (pu_aload _ _) (sn_aload_n (i := 0) (jm_dc dc_8_2 9 rfl)) (
  jm_gc (pu_getA _ _) (sn_getA (jm_dc dc_8_2 10 rfl) fl_0_11 rfl) (
  jm_gc (pu_iload _ _) (sn_iload (jm_dc dc_8_2 11 rfl)) (
  jm_gc (pu_lald) (sn_lald (jm_dc dc_8_2 12 rfl)) (
  jm_gc (pu_aload _ _) (sn_aload_n (i := 0) (jm_dc dc_8_2 13 rfl)) (
  jm_gc (pu_getA _ _) (sn_getA (jm_dc dc_8_2 14 rfl) fl_0_11 rfl) (
  jm_gc (pu_iload _ _) (sn_iload (jm_dc dc_8_2 15 rfl)) (
  jm_gc (pu_lald) (sn_lald (jm_dc dc_8_2 16 rfl)) (
  jm_gc (pu_lload _ _) (sn_lload_n (i := 2) (jm_dc dc_8_2 17 rfl)) (
  jm_gc (pu_callS _ _) (sn_callS (jm_dc dc_8_2 18 rfl) lk_0_115) (
  jm_gc (pu_callV _ _ _) (sn_callV (jm_dc dc_8_2 19 rfl) lk_0_107) (
  jm_gc (pu_iinc _ _) (sn_iinc (jm_dc dc_8_2 20 rfl) (by decide)) (
  jm_gc (pu_goto _) (sn_goto (jm_dc dc_8_2 21 rfl) (by decide)) (
  jm_gc (pu_ic _ _) (sn_iconst (jm_dc dc_8_2 22 rfl) (by decide)) (
  jm_gc (pu_istore _ _) (sn_istore (jm_dc dc_8_2 23 rfl)) (
  jm_gc (pu_iload _ _) (sn_iload (jm_dc dc_8_2 24 rfl)) (
  jm_gn)))))))))))))))))))))))))
theorem dc_8_3 : ([(131, .aload_n 0, 1), (132, .getfield 19, 3), (135, .iconst 1, 1), (136, .iaload, 1), (137, .if_icmp .ge 34, 3), (140, .aload_n 0, 1), (141, .getfield 11, 3), (144, .bipush 64, 2), (146, .iload 6, 2), (148, .iadd, 1), (149, .laload, 1), (150, .lstore 7, 2), (152, .aload_n 0, 1), (153, .lload 7, 2), (155, .lload 4, 2), (157, .invokestatic 115, 3), (160, .lload 7, 2), (162, .invokevirtual 107, 3), (165, .iinc 6 1, 3), (168, .goto (-39), 3), (171, .iinc 1 1, 3), (174, .goto (-117), 3), (177, .return_, 1)] : List (Nat × Instr × Nat)).all (fun e => decide (decode prog_2_method_9_code e.1 = .ok e.2)) = true := by decide +kernel
abbrev cl_8_3 : List (Nat × jm_O) := [(131, op_aload 0 1), (132, op_getA 0 3), (135, op_ic 1 1), (136, op_iald 13), (137, op_cge 171), (140, op_aload 0 1), (141, op_getA 0 1), (144, op_ic 64 2), (146, op_iload 6 2), (148, op_ibin (fun x y => x + y)), (149, op_lald), (150, op_lstore 7 2), (152, op_aload 0 1), (153, op_lload 7 2), (155, op_lload 4 2), (157, op_callS 313 2), (160, op_lload 7 2), (162, op_callV 0 9 3), (165, op_iinc 6 1), (168, op_goto 129), (171, op_iinc 1 1), (174, op_goto 57), (177, op_vret)]
set_option maxRecDepth 100000 in
theorem gl_8_3 : jm_gl "FrescoWall$Arranger" prog_2_method_9_code 9 (Option.none : Option Jvm.ClassFile.FieldType) false cl_8_3 :=
  jm_gc (pu_aload _ _) (sn_aload_n (i := 0) (jm_dc dc_8_3 0 rfl)) (
  jm_gc (pu_getA _ _) (sn_getA (jm_dc dc_8_3 1 rfl) fl_0_19 rfl) (
  jm_gc (pu_ic _ _) (sn_iconst (jm_dc dc_8_3 2 rfl) (by decide)) (
  jm_gc (pu_iald _) (sn_iald (jm_dc dc_8_3 3 rfl)) (
  jm_gc (pu_cge _) (sn_cge (jm_dc dc_8_3 4 rfl) (by decide)) (
  jm_gc (pu_aload _ _) (sn_aload_n (i := 0) (jm_dc dc_8_3 5 rfl)) (
  jm_gc (pu_getA _ _) (sn_getA (jm_dc dc_8_3 6 rfl) fl_0_11 rfl) (
  jm_gc (pu_ic _ _) (sn_bipush (jm_dc dc_8_3 7 rfl) (by decide)) (
  jm_gc (pu_iload _ _) (sn_iload (jm_dc dc_8_3 8 rfl)) (
  jm_gc (pu_ibin _) (sn_iadd (jm_dc dc_8_3 9 rfl)) (
  jm_gc (pu_lald) (sn_lald (jm_dc dc_8_3 10 rfl)) (
  jm_gc (pu_lstore _ _) (sn_lstore (jm_dc dc_8_3 11 rfl)) (
  jm_gc (pu_aload _ _) (sn_aload_n (i := 0) (jm_dc dc_8_3 12 rfl)) (
  jm_gc (pu_lload _ _) (sn_lload (jm_dc dc_8_3 13 rfl)) (
  jm_gc (pu_lload _ _) (sn_lload (jm_dc dc_8_3 14 rfl)) (
  jm_gc (pu_callS _ _) (sn_callS (jm_dc dc_8_3 15 rfl) lk_0_115) (
  jm_gc (pu_lload _ _) (sn_lload (jm_dc dc_8_3 16 rfl)) (
  jm_gc (pu_callV _ _ _) (sn_callV (jm_dc dc_8_3 17 rfl) lk_0_107) (
  jm_gc (pu_iinc _ _) (sn_iinc (jm_dc dc_8_3 18 rfl) (by decide)) (
  jm_gc (pu_goto _) (sn_goto (jm_dc dc_8_3 19 rfl) (by decide)) (
  jm_gc (pu_iinc _ _) (sn_iinc (jm_dc dc_8_3 20 rfl) (by decide)) (
  jm_gc (pu_goto _) (sn_goto (jm_dc dc_8_3 21 rfl) (by decide)) (
  jm_gc (pu_vret) (sn_vret (jm_dc dc_8_3 22 rfl) rfl) (
  jm_gn)))))))))))))))))))))))
theorem dc_9_0 : ([(0, .aload_n 0, 1), (1, .iconst 0, 1), (2, .lload_n 1, 1), (3, .invokevirtual 99, 3), (6, .istore 5, 2), (8, .aload_n 0, 1), (9, .iconst 1, 1), (10, .lload_n 3, 1), (11, .invokevirtual 99, 3), (14, .istore 6, 2), (16, .aload_n 0, 1), (17, .iconst 2, 1), (18, .lload_n 1, 1), (19, .lload_n 3, 1), (20, .invokestatic 119, 3), (23, .invokevirtual 99, 3), (26, .istore 7, 2), (28, .aload_n 0, 1), (29, .iload 5, 2), (31, .invokevirtual 122, 3), (34, .aload_n 0, 1), (35, .iload 6, 2), (37, .invokevirtual 122, 3), (40, .iadd, 1), (41, .aload_n 0, 1)] : List (Nat × Instr × Nat)).all (fun e => decide (decode prog_2_method_10_code e.1 = .ok e.2)) = true := by decide +kernel
abbrev cl_9_0 : List (Nat × jm_O) := [(0, op_aload 0 1), (1, op_ic 0 1), (2, op_lload 1 1), (3, op_callV 0 6 3), (6, op_istore 5 2), (8, op_aload 0 1), (9, op_ic 1 1), (10, op_lload 3 1), (11, op_callV 0 6 3), (14, op_istore 6 2), (16, op_aload 0 1), (17, op_ic 2 1), (18, op_lload 1 1), (19, op_lload 3 1), (20, op_callS 315 2), (23, op_callV 0 6 3), (26, op_istore 7 2), (28, op_aload 0 1), (29, op_iload 5 2), (31, op_callV 0 10 2), (34, op_aload 0 1), (35, op_iload 6 2), (37, op_callV 0 10 2), (40, op_ibin (fun x y => x + y)), (41, op_aload 0 1)]
set_option maxRecDepth 100000 in
theorem gl_9_0 : jm_gl "FrescoWall$Arranger" prog_2_method_10_code 10 (Option.none : Option Jvm.ClassFile.FieldType) false cl_9_0 :=
  jm_gc (pu_aload _ _) (sn_aload_n (i := 0) (jm_dc dc_9_0 0 rfl)) (
  jm_gc (pu_ic _ _) (sn_iconst (jm_dc dc_9_0 1 rfl) (by decide)) (
  jm_gc (pu_lload _ _) (sn_lload_n (i := 1) (jm_dc dc_9_0 2 rfl)) (
  jm_gc (pu_callV _ _ _) (sn_callV (jm_dc dc_9_0 3 rfl) lk_0_99) (
  jm_gc (pu_istore _ _) (sn_istore (jm_dc dc_9_0 4 rfl)) (
  jm_gc (pu_aload _ _) (sn_aload_n (i := 0) (jm_dc dc_9_0 5 rfl)) (
  jm_gc (pu_ic _ _) (sn_iconst (jm_dc dc_9_0 6 rfl) (by decide)) (
  jm_gc (pu_lload _ _) (sn_lload_n (i := 3) (jm_dc dc_9_0 7 rfl)) (
  jm_gc (pu_callV _ _ _) (sn_callV (jm_dc dc_9_0 8 rfl) lk_0_99) (
  jm_gc (pu_istore _ _) (sn_istore (jm_dc dc_9_0 9 rfl)) (
  jm_gc (pu_aload _ _) (sn_aload_n (i := 0) (jm_dc dc_9_0 10 rfl)) (
  jm_gc (pu_ic _ _) (sn_iconst (jm_dc dc_9_0 11 rfl) (by decide)) (
  jm_gc (pu_lload _ _) (sn_lload_n (i := 1) (jm_dc dc_9_0 12 rfl)) (
  jm_gc (pu_lload _ _) (sn_lload_n (i := 3) (jm_dc dc_9_0 13 rfl)) (
  jm_gc (pu_callS _ _) (sn_callS (jm_dc dc_9_0 14 rfl) lk_0_119) (
  jm_gc (pu_callV _ _ _) (sn_callV (jm_dc dc_9_0 15 rfl) lk_0_99) (
  jm_gc (pu_istore _ _) (sn_istore (jm_dc dc_9_0 16 rfl)) (
  jm_gc (pu_aload _ _) (sn_aload_n (i := 0) (jm_dc dc_9_0 17 rfl)) (
  jm_gc (pu_iload _ _) (sn_iload (jm_dc dc_9_0 18 rfl)) (
  jm_gc (pu_callV _ _ _) (sn_callV (jm_dc dc_9_0 19 rfl) lk_0_122) (
  jm_gc (pu_aload _ _) (sn_aload_n (i := 0) (jm_dc dc_9_0 20 rfl)) (
  jm_gc (pu_iload _ _) (sn_iload (jm_dc dc_9_0 21 rfl)) (
  jm_gc (pu_callV _ _ _) (sn_callV (jm_dc dc_9_0 22 rfl) lk_0_122) (
  jm_gc (pu_ibin _) (sn_iadd (jm_dc dc_9_0 23 rfl)) (
  jm_gc (pu_aload _ _) (sn_aload_n (i := 0) (jm_dc dc_9_0 24 rfl)) (
  jm_gn)))))))))))))))))))))))))
theorem dc_9_1 : ([(42, .iload 7, 2), (44, .invokevirtual 122, 3), (47, .iadd, 1), (48, .istore 8, 2), (50, .aload_n 0, 1), (51, .iload 8, 2), (53, .lload_n 1, 1), (54, .lload_n 3, 1), (55, .invokevirtual 125, 3), (58, .ifCond .ne 4, 3), (61, .return_, 1), (62, .iload 5, 2), (64, .ifCond .ge 29, 3), (67, .aload_n 0, 1), (68, .getfield 25, 3), (71, .aload_n 0, 1), (72, .getfield 22, 3), (75, .iconst 0, 1), (76, .iaload, 1), (77, .ldc2_w 41, 3), (80, .aload_n 0, 1), (81, .getfield 22, 3), (84, .iconst 1, 1), (85, .iaload, 1), (86, .lload_n 1, 1)] : List (Nat × Instr × Nat)).all (fun e => decide (decode prog_2_method_10_code e.1 = .ok e.2)) = true := by decide +kernel
abbrev cl_9_1 : List (Nat × jm_O) := [(42, op_iload 7 2), (44, op_callV 0 10 2), (47, op_ibin (fun x y => x + y)), (48, op_istore 8 2), (50, op_aload 0 1), (51, op_iload 8 2), (53, op_lload 1 1), (54, op_lload 3 1), (55, op_callV 0 11 4), (58, op_ifne 62), (61, op_vret), (62, op_iload 5 2), (64, op_ifge 93), (67, op_aload 0 1), (68, op_getA 0 0), (71, op_aload 0 1), (72, op_getA 0 4), (75, op_ic 0 1), (76, op_iald 13), (77, op_lc 549756338176 3), (80, op_aload 0 1), (81, op_getA 0 4), (84, op_ic 1 1), (85, op_iald 13), (86, op_lload 1 1)]
set_option maxRecDepth 100000 in
theorem gl_9_1 : jm_gl "FrescoWall$Arranger" prog_2_method_10_code 10 (Option.none : Option Jvm.ClassFile.FieldType) false cl_9_1 :=
  jm_gc (pu_iload _ _) (sn_iload (jm_dc dc_9_1 0 rfl)) (
  jm_gc (pu_callV _ _ _) (sn_callV (jm_dc dc_9_1 1 rfl) lk_0_122) (
  jm_gc (pu_ibin _) (sn_iadd (jm_dc dc_9_1 2 rfl)) (
  jm_gc (pu_istore _ _) (sn_istore (jm_dc dc_9_1 3 rfl)) (
  jm_gc (pu_aload _ _) (sn_aload_n (i := 0) (jm_dc dc_9_1 4 rfl)) (
  jm_gc (pu_iload _ _) (sn_iload (jm_dc dc_9_1 5 rfl)) (
  jm_gc (pu_lload _ _) (sn_lload_n (i := 1) (jm_dc dc_9_1 6 rfl)) (
  jm_gc (pu_lload _ _) (sn_lload_n (i := 3) (jm_dc dc_9_1 7 rfl)) (
  jm_gc (pu_callV _ _ _) (sn_callV (jm_dc dc_9_1 8 rfl) lk_0_125) (
  jm_gc (pu_ifne _) (sn_ifne (jm_dc dc_9_1 9 rfl) (by decide)) (
  jm_gc (pu_vret) (sn_vret (jm_dc dc_9_1 10 rfl) rfl) (
  jm_gc (pu_iload _ _) (sn_iload (jm_dc dc_9_1 11 rfl)) (
  jm_gc (pu_ifge _) (sn_ifge (jm_dc dc_9_1 12 rfl) (by decide)) (
  jm_gc (pu_aload _ _) (sn_aload_n (i := 0) (jm_dc dc_9_1 13 rfl)) (
  jm_gc (pu_getA _ _) (sn_getA (jm_dc dc_9_1 14 rfl) fl_0_25 rfl) (
  jm_gc (pu_aload _ _) (sn_aload_n (i := 0) (jm_dc dc_9_1 15 rfl)) (
  jm_gc (pu_getA _ _) (sn_getA (jm_dc dc_9_1 16 rfl) fl_0_22 rfl) (
  jm_gc (pu_ic _ _) (sn_iconst (jm_dc dc_9_1 17 rfl) (by decide)) (
  jm_gc (pu_iald _) (sn_iald (jm_dc dc_9_1 18 rfl)) (
  jm_gc (pu_lc _ _) (sn_ldc2 (jm_dc dc_9_1 19 rfl) (kc_tb 1084 (by decide +kernel))) (
  jm_gc (pu_aload _ _) (sn_aload_n (i := 0) (jm_dc dc_9_1 20 rfl)) (
  jm_gc (pu_getA _ _) (sn_getA (jm_dc dc_9_1 21 rfl) fl_0_22 rfl) (
  jm_gc (pu_ic _ _) (sn_iconst (jm_dc dc_9_1 22 rfl) (by decide)) (
  jm_gc (pu_iald _) (sn_iald (jm_dc dc_9_1 23 rfl)) (
  jm_gc (pu_lload _ _) (sn_lload_n (i := 1) (jm_dc dc_9_1 24 rfl)) (
  jm_gn)))))))))))))))))))))))))
theorem dc_9_2 : ([(87, .invokevirtual 129, 3), (90, .ifCond .ne 63, 3), (93, .iload 6, 2), (95, .ifCond .ge 29, 3), (98, .aload_n 0, 1), (99, .getfield 25, 3), (102, .aload_n 0, 1), (103, .getfield 22, 3), (106, .iconst 0, 1), (107, .iaload, 1), (108, .ldc2_w 41, 3), (111, .aload_n 0, 1), (112, .getfield 22, 3), (115, .iconst 2, 1), (116, .iaload, 1), (117, .lload_n 3, 1), (118, .invokevirtual 129, 3), (121, .ifCond .ne 32, 3), (124, .iload 7, 2), (126, .ifCond .ge 31, 3), (129, .aload_n 0, 1), (130, .getfield 25, 3), (133, .aload_n 0, 1), (134, .getfield 22, 3), (137, .iconst 1, 1)] : List (Nat × Instr × Nat)).all (fun e => decide (decode prog_2_method_10_code e.1 = .ok e.2)) = true := by decide +kernel
abbrev cl_9_2 : List (Nat × jm_O) := [(87, op_callV 3 39 5), (90, op_ifne 153), (93, op_iload 6 2), (95, op_ifge 124), (98, op_aload 0 1), (99, op_getA 0 0), (102, op_aload 0 1), (103, op_getA 0 4), (106, op_ic 0 1), (107, op_iald 13), (108, op_lc 549756338176 3), (111, op_aload 0 1), (112, op_getA 0 4), (115, op_ic 2 1), (116, op_iald 13), (117, op_lload 3 1), (118, op_callV 3 39 5), (121, op_ifne 153), (124, op_iload 7 2), (126, op_ifge 157), (129, op_aload 0 1), (130, op_getA 0 0), (133, op_aload 0 1), (134, op_getA 0 4), (137, op_ic 1 1)]
set_option maxRecDepth 100000 in
theorem gl_9_2 : jm_gl "FrescoWall$Arranger" prog_2_method_10_code 10 (Option.none : Option Jvm.ClassFile.FieldType) false cl_9_2 :=
  jm_gc (pu_callV _ _ _) (sn_callV (jm_dc dc_9_2 0 rfl) lk_0_129) (
  jm_gc (pu_ifne _) (sn_ifne (jm_dc dc_9_2 1 rfl) (by decide)) (
  jm_gc (pu_iload _ _) (sn_iload (jm_dc dc_9_2 2 rfl)) (
  jm_gc (pu_ifge _) (sn_ifge (jm_dc dc_9_2 3 rfl) (by decide)) (
  jm_gc (pu_aload _ _) (sn_aload_n (i := 0) (jm_dc dc_9_2 4 rfl)) (
  jm_gc (pu_getA _ _) (sn_getA (jm_dc dc_9_2 5 rfl) fl_0_25 rfl) (
  jm_gc (pu_aload _ _) (sn_aload_n (i := 0) (jm_dc dc_9_2 6 rfl)) (
  jm_gc (pu_getA _ _) (sn_getA (jm_dc dc_9_2 7 rfl) fl_0_22 rfl) (
  jm_gc (pu_ic _ _) (sn_iconst (jm_dc dc_9_2 8 rfl) (by decide)) (
  jm_gc (pu_iald _) (sn_iald (jm_dc dc_9_2 9 rfl)) (
  jm_gc (pu_lc _ _) (sn_ldc2 (jm_dc dc_9_2 10 rfl) (kc_tb 1084 (by decide +kernel))) (
  jm_gc (pu_aload _ _) (sn_aload_n (i := 0) (jm_dc dc_9_2 11 rfl)) (
  jm_gc (pu_getA _ _) (sn_getA (jm_dc dc_9_2 12 rfl) fl_0_22 rfl) (
  jm_gc (pu_ic _ _) (sn_iconst (jm_dc dc_9_2 13 rfl) (by decide)) (
  jm_gc (pu_iald _) (sn_iald (jm_dc dc_9_2 14 rfl)) (
  jm_gc (pu_lload _ _) (sn_lload_n (i := 3) (jm_dc dc_9_2 15 rfl)) (
  jm_gc (pu_callV _ _ _) (sn_callV (jm_dc dc_9_2 16 rfl) lk_0_129) (
  jm_gc (pu_ifne _) (sn_ifne (jm_dc dc_9_2 17 rfl) (by decide)) (
  jm_gc (pu_iload _ _) (sn_iload (jm_dc dc_9_2 18 rfl)) (
  jm_gc (pu_ifge _) (sn_ifge (jm_dc dc_9_2 19 rfl) (by decide)) (
  jm_gc (pu_aload _ _) (sn_aload_n (i := 0) (jm_dc dc_9_2 20 rfl)) (
  jm_gc (pu_getA _ _) (sn_getA (jm_dc dc_9_2 21 rfl) fl_0_25 rfl) (
  jm_gc (pu_aload _ _) (sn_aload_n (i := 0) (jm_dc dc_9_2 22 rfl)) (
  jm_gc (pu_getA _ _) (sn_getA (jm_dc dc_9_2 23 rfl) fl_0_22 rfl) (
  jm_gc (pu_ic _ _) (sn_iconst (jm_dc dc_9_2 24 rfl) (by decide)) (
  jm_gn)))))))))))))))))))))))))
theorem dc_9_3 : ([(138, .iaload, 1), (139, .lload_n 1, 1), (140, .aload_n 0, 1), (141, .getfield 22, 3), (144, .iconst 2, 1), (145, .iaload, 1), (146, .lload_n 3, 1), (147, .invokevirtual 129, 3), (150, .ifCond .eq 7, 3), (153, .iconst 1, 1), (154, .goto 4, 3), (157, .iconst 0, 1), (158, .istore 9, 2), (160, .iload 9, 2), (162, .ifCond .ne 11, 3), (165, .aload_n 0, 1), (166, .iload 8, 2), (168, .lload_n 1, 1), (169, .lload_n 3, 1), (170, .invokevirtual 103, 3), (173, .return_, 1)] : List (Nat × Instr × Nat)).all (fun e => decide (decode prog_2_method_10_code e.1 = .ok e.2)) = true := by decide +kernel
abbrev cl_9_3 : List (Nat × jm_O) := [(138, op_iald 13), (139, op_lload 1 1), (140, op_aload 0 1), (141, op_getA 0 4), (144, op_ic 2 1), (145, op_iald 13), (146, op_lload 3 1), (147, op_callV 3 39 5), (150, op_ifeq 157), (153, op_ic 1 1), (154, op_goto 158), (157, op_ic 0 1), (158, op_istore 9 2), (160, op_iload 9 2), (162, op_ifne 173), (165, op_aload 0 1), (166, op_iload 8 2), (168, op_lload 1 1), (169, op_lload 3 1), (170, op_callV 0 12 4), (173, op_vret)]
set_option maxRecDepth 100000 in
theorem gl_9_3 : jm_gl "FrescoWall$Arranger" prog_2_method_10_code 10 (Option.none : Option Jvm.ClassFile.FieldType) false cl_9_3 :=
  jm_gc (pu_iald _) (sn_iald (jm_dc dc_9_3 0 rfl)) (
  jm_gc (pu_lload _ _) (sn_lload_n (i := 1) (jm_dc dc_9_3 1 rfl)) (
  jm_gc (pu_aload _ _) (sn_aload_n (i := 0) (jm_dc dc_9_3 2 rfl)) (
  jm_gc (pu_getA _ _) (sn_getA (jm_dc dc_9_3 3 rfl) fl_0_22 rfl) (
  jm_gc (pu_ic _ _) (sn_iconst (jm_dc dc_9_3 4 rfl) (by decide)) (
  jm_gc (pu_iald _) (sn_iald (jm_dc dc_9_3 5 rfl)) (
  jm_gc (pu_lload _ _) (sn_lload_n (i := 3) (jm_dc dc_9_3 6 rfl)) (
  jm_gc (pu_callV _ _ _) (sn_callV (jm_dc dc_9_3 7 rfl) lk_0_129) (
  jm_gc (pu_ifeq _) (sn_ifeq (jm_dc dc_9_3 8 rfl) (by decide)) (
  jm_gc (pu_ic _ _) (sn_iconst (jm_dc dc_9_3 9 rfl) (by decide)) (
  jm_gc (pu_goto _) (sn_goto (jm_dc dc_9_3 10 rfl) (by decide)) (
  jm_gc (pu_ic _ _) (sn_iconst (jm_dc dc_9_3 11 rfl) (by decide)) (
  jm_gc (pu_istore _ _) (sn_istore (jm_dc dc_9_3 12 rfl)) (
  jm_gc (pu_iload _ _) (sn_iload (jm_dc dc_9_3 13 rfl)) (
  jm_gc (pu_ifne _) (sn_ifne (jm_dc dc_9_3 14 rfl) (by decide)) (
  jm_gc (pu_aload _ _) (sn_aload_n (i := 0) (jm_dc dc_9_3 15 rfl)) (
  jm_gc (pu_iload _ _) (sn_iload (jm_dc dc_9_3 16 rfl)) (
  jm_gc (pu_lload _ _) (sn_lload_n (i := 1) (jm_dc dc_9_3 17 rfl)) (
  jm_gc (pu_lload _ _) (sn_lload_n (i := 3) (jm_dc dc_9_3 18 rfl)) (
  jm_gc (pu_callV _ _ _) (sn_callV (jm_dc dc_9_3 19 rfl) lk_0_103) (
  jm_gc (pu_vret) (sn_vret (jm_dc dc_9_3 20 rfl) rfl) (
  jm_gn)))))))))))))))))))))
theorem dc_10_0 : ([(0, .iload_n 1, 1), (1, .ifCond .ge 7, 3), (4, .iconst 0, 1), (5, .goto 9, 3), (8, .aload_n 0, 1), (9, .getfield 15, 3), (12, .iload_n 1, 1), (13, .iaload, 1), (14, .ireturn, 1)] : List (Nat × Instr × Nat)).all (fun e => decide (decode prog_2_method_11_code e.1 = .ok e.2)) = true := by decide +kernel
abbrev cl_10_0 : List (Nat × jm_O) := [(0, op_iload 1 1), (1, op_ifge 8), (4, op_ic 0 1), (5, op_goto 14), (8, op_aload 0 1), (9, op_getA 0 2), (12, op_iload 1 1), (13, op_iald 13), (14, op_iret)]
set_option maxRecDepth 100000 in
theorem gl_10_0 : jm_gl "FrescoWall$Arranger" prog_2_method_11_code 2 (Option.some Jvm.ClassFile.FieldType.int) false cl_10_0 :=
  jm_gc (pu_iload _ _) (sn_iload_n (i := 1) (jm_dc dc_10_0 0 rfl)) (
  jm_gc (pu_ifge _) (sn_ifge (jm_dc dc_10_0 1 rfl) (by decide)) (
  jm_gc (pu_ic _ _) (sn_iconst (jm_dc dc_10_0 2 rfl) (by decide)) (
  jm_gc (pu_goto _) (sn_goto (jm_dc dc_10_0 3 rfl) (by decide)) (
  jm_gc (pu_aload _ _) (sn_aload_n (i := 0) (jm_dc dc_10_0 4 rfl)) (
  jm_gc (pu_getA _ _) (sn_getA (jm_dc dc_10_0 5 rfl) fl_0_15 rfl) (
  jm_gc (pu_iload _ _) (sn_iload_n (i := 1) (jm_dc dc_10_0 6 rfl)) (
  jm_gc (pu_iald _) (sn_iald (jm_dc dc_10_0 7 rfl)) (
  jm_gc (pu_iret) (sn_iret (jm_dc dc_10_0 8 rfl) rfl) (
  jm_gn)))))))))
theorem dc_11_0 : ([(0, .iload_n 1, 1), (1, .aload_n 0, 1), (2, .getfield 53, 3), (5, .if_icmp .eq 17, 3), (8, .iload_n 1, 1), (9, .aload_n 0, 1), (10, .getfield 53, 3), (13, .if_icmp .le 7, 3), (16, .iconst 1, 1), (17, .goto 4, 3), (20, .iconst 0, 1), (21, .ireturn, 1), (22, .lload_n 2, 1), (23, .aload_n 0, 1), (24, .getfield 66, 3), (27, .lcmp, 1), (28, .ifCond .lt 22, 3), (31, .lload_n 2, 1), (32, .aload_n 0, 1), (33, .getfield 66, 3), (36, .lcmp, 1), (37, .ifCond .ne 17, 3), (40, .lload 4, 2), (42, .aload_n 0, 1), (43, .getfield 69, 3)] : List (Nat × Instr × Nat)).all (fun e => decide (decode prog_2_method_12_code e.1 = .ok e.2)) = true := by decide +kernel
abbrev cl_11_0 : List (Nat × jm_O) := [(0, op_iload 1 1), (1, op_aload 0 1), (2, op_getI 0 7), (5, op_ceq 22), (8, op_iload 1 1), (9, op_aload 0 1), (10, op_getI 0 7), (13, op_cle 20), (16, op_ic 1 1), (17, op_goto 21), (20, op_ic 0 1), (21, op_zret), (22, op_lload 2 1), (23, op_aload 0 1), (24, op_getJ 0 5), (27, op_lcmp), (28, op_iflt 50), (31, op_lload 2 1), (32, op_aload 0 1), (33, op_getJ 0 5), (36, op_lcmp), (37, op_ifne 54), (40, op_lload 4 2), (42, op_aload 0 1), (43, op_getJ 0 6)]
set_option maxRecDepth 100000 in
theorem gl_11_0 : jm_gl "FrescoWall$Arranger" prog_2_method_12_code 6 (Option.some Jvm.ClassFile.FieldType.boolean) false cl_11_0 :=
  jm_gc (pu_iload _ _) (sn_iload_n (i := 1) (jm_dc dc_11_0 0 rfl)) (
  jm_gc (pu_aload _ _) (sn_aload_n (i := 0) (jm_dc dc_11_0 1 rfl)) (
  jm_gc (pu_getI _ _) (sn_getI (jm_dc dc_11_0 2 rfl) fl_0_53 (Or.inl rfl)) (
  jm_gc (pu_ceq _) (sn_ceq (jm_dc dc_11_0 3 rfl) (by decide)) (
  jm_gc (pu_iload _ _) (sn_iload_n (i := 1) (jm_dc dc_11_0 4 rfl)) (
  jm_gc (pu_aload _ _) (sn_aload_n (i := 0) (jm_dc dc_11_0 5 rfl)) (
  jm_gc (pu_getI _ _) (sn_getI (jm_dc dc_11_0 6 rfl) fl_0_53 (Or.inl rfl)) (
  jm_gc (pu_cle _) (sn_cle (jm_dc dc_11_0 7 rfl) (by decide)) (
  jm_gc (pu_ic _ _) (sn_iconst (jm_dc dc_11_0 8 rfl) (by decide)) (
  jm_gc (pu_goto _) (sn_goto (jm_dc dc_11_0 9 rfl) (by decide)) (
  jm_gc (pu_ic _ _) (sn_iconst (jm_dc dc_11_0 10 rfl) (by decide)) (
  jm_gc (pu_zret) (sn_zret (jm_dc dc_11_0 11 rfl) rfl) (
  jm_gc (pu_lload _ _) (sn_lload_n (i := 2) (jm_dc dc_11_0 12 rfl)) (
  jm_gc (pu_aload _ _) (sn_aload_n (i := 0) (jm_dc dc_11_0 13 rfl)) (
  jm_gc (pu_getJ _ _) (sn_getJ (jm_dc dc_11_0 14 rfl) fl_0_66 rfl) (
  jm_gc (pu_lcmp) (sn_lcmp (jm_dc dc_11_0 15 rfl)) (
  jm_gc (pu_iflt _) (sn_iflt (jm_dc dc_11_0 16 rfl) (by decide)) (
  jm_gc (pu_lload _ _) (sn_lload_n (i := 2) (jm_dc dc_11_0 17 rfl)) (
  jm_gc (pu_aload _ _) (sn_aload_n (i := 0) (jm_dc dc_11_0 18 rfl)) (
  jm_gc (pu_getJ _ _) (sn_getJ (jm_dc dc_11_0 19 rfl) fl_0_66 rfl) (
  jm_gc (pu_lcmp) (sn_lcmp (jm_dc dc_11_0 20 rfl)) (
  jm_gc (pu_ifne _) (sn_ifne (jm_dc dc_11_0 21 rfl) (by decide)) (
  jm_gc (pu_lload _ _) (sn_lload (jm_dc dc_11_0 22 rfl)) (
  jm_gc (pu_aload _ _) (sn_aload_n (i := 0) (jm_dc dc_11_0 23 rfl)) (
  jm_gc (pu_getJ _ _) (sn_getJ (jm_dc dc_11_0 24 rfl) fl_0_69 rfl) (
  jm_gn)))))))))))))))))))))))))
theorem dc_11_1 : ([(46, .lcmp, 1), (47, .ifCond .ge 7, 3), (50, .iconst 1, 1), (51, .goto 4, 3), (54, .iconst 0, 1), (55, .ireturn, 1)] : List (Nat × Instr × Nat)).all (fun e => decide (decode prog_2_method_12_code e.1 = .ok e.2)) = true := by decide +kernel
abbrev cl_11_1 : List (Nat × jm_O) := [(46, op_lcmp), (47, op_ifge 54), (50, op_ic 1 1), (51, op_goto 55), (54, op_ic 0 1), (55, op_zret)]
set_option maxRecDepth 100000 in
theorem gl_11_1 : jm_gl "FrescoWall$Arranger" prog_2_method_12_code 6 (Option.some Jvm.ClassFile.FieldType.boolean) false cl_11_1 :=
  jm_gc (pu_lcmp) (sn_lcmp (jm_dc dc_11_1 0 rfl)) (
  jm_gc (pu_ifge _) (sn_ifge (jm_dc dc_11_1 1 rfl) (by decide)) (
  jm_gc (pu_ic _ _) (sn_iconst (jm_dc dc_11_1 2 rfl) (by decide)) (
  jm_gc (pu_goto _) (sn_goto (jm_dc dc_11_1 3 rfl) (by decide)) (
  jm_gc (pu_ic _ _) (sn_iconst (jm_dc dc_11_1 4 rfl) (by decide)) (
  jm_gc (pu_zret) (sn_zret (jm_dc dc_11_1 5 rfl) rfl) (
  jm_gn))))))
theorem dc_12_0 : ([(0, .aload_n 0, 1), (1, .iload_n 1, 1), (2, .lload_n 2, 1), (3, .lload 4, 2), (5, .invokevirtual 125, 3), (8, .ifCond .eq 19, 3), (11, .aload_n 0, 1), (12, .iload_n 1, 1), (13, .putfield 53, 3), (16, .aload_n 0, 1), (17, .lload_n 2, 1), (18, .putfield 66, 3), (21, .aload_n 0, 1), (22, .lload 4, 2), (24, .putfield 69, 3), (27, .return_, 1)] : List (Nat × Instr × Nat)).all (fun e => decide (decode prog_2_method_13_code e.1 = .ok e.2)) = true := by decide +kernel
abbrev cl_12_0 : List (Nat × jm_O) := [(0, op_aload 0 1), (1, op_iload 1 1), (2, op_lload 2 1), (3, op_lload 4 2), (5, op_callV 0 11 4), (8, op_ifeq 27), (11, op_aload 0 1), (12, op_iload 1 1), (13, op_putI 0 7), (16, op_aload 0 1), (17, op_lload 2 1), (18, op_putJ 0 5), (21, op_aload 0 1), (22, op_lload 4 2), (24, op_putJ 0 6), (27, op_vret)]
set_option maxRecDepth 100000 in
theorem gl_12_0 : jm_gl "FrescoWall$Arranger" prog_2_method_13_code 6 (Option.none : Option Jvm.ClassFile.FieldType) false cl_12_0 :=
  jm_gc (pu_aload _ _) (sn_aload_n (i := 0) (jm_dc dc_12_0 0 rfl)) (
  jm_gc (pu_iload _ _) (sn_iload_n (i := 1) (jm_dc dc_12_0 1 rfl)) (
  jm_gc (pu_lload _ _) (sn_lload_n (i := 2) (jm_dc dc_12_0 2 rfl)) (
  jm_gc (pu_lload _ _) (sn_lload (jm_dc dc_12_0 3 rfl)) (
  jm_gc (pu_callV _ _ _) (sn_callV (jm_dc dc_12_0 4 rfl) lk_0_125) (
  jm_gc (pu_ifeq _) (sn_ifeq (jm_dc dc_12_0 5 rfl) (by decide)) (
  jm_gc (pu_aload _ _) (sn_aload_n (i := 0) (jm_dc dc_12_0 6 rfl)) (
  jm_gc (pu_iload _ _) (sn_iload_n (i := 1) (jm_dc dc_12_0 7 rfl)) (
  jm_gc (pu_putI _ _) (sn_putI (jm_dc dc_12_0 8 rfl) flw_0_53 rfl) (
  jm_gc (pu_aload _ _) (sn_aload_n (i := 0) (jm_dc dc_12_0 9 rfl)) (
  jm_gc (pu_lload _ _) (sn_lload_n (i := 2) (jm_dc dc_12_0 10 rfl)) (
  jm_gc (pu_putJ _ _) (sn_putJ (jm_dc dc_12_0 11 rfl) flw_0_66 rfl) (
  jm_gc (pu_aload _ _) (sn_aload_n (i := 0) (jm_dc dc_12_0 12 rfl)) (
  jm_gc (pu_lload _ _) (sn_lload (jm_dc dc_12_0 13 rfl)) (
  jm_gc (pu_putJ _ _) (sn_putJ (jm_dc dc_12_0 14 rfl) flw_0_69 rfl) (
  jm_gc (pu_vret) (sn_vret (jm_dc dc_12_0 15 rfl) rfl) (
  jm_gn))))))))))))))))
theorem dc_13_0 : ([(0, .aload_n 0, 1), (1, .invokespecial 1, 3), (4, .aload_n 0, 1), (5, .sipush 160, 3), (8, .newarray .long, 2), (10, .putfield 9, 3), (13, .aload_n 0, 1), (14, .iload_n 2, 1), (15, .putfield 13, 3), (18, .aload_n 0, 1), (19, .iload_n 3, 1), (20, .putfield 17, 3), (23, .aload_n 0, 1), (24, .iload 4, 2), (26, .putfield 20, 3), (29, .aload_n 0, 1), (30, .aload_n 1, 1), (31, .getfield 23, 3), (34, .putfield 28, 3), (37, .aload_n 0, 1), (38, .aload_n 1, 1), (39, .getfield 31, 3), (42, .invokevirtual 35, 3), (45, .checkcast 36, 3), (48, .putfield 40, 3)] : List (Nat × Instr × Nat)).all (fun e => decide (decode prog_3_method_1_code e.1 = .ok e.2)) = true := by decide +kernel
abbrev cl_13_0 : List (Nat × jm_O) := [(0, op_aload 0 1), (1, op_objInit), (4, op_aload 0 1), (5, op_ic 160 3), (8, op_newa 14 2), (10, op_putA 1 13), (13, op_aload 0 1), (14, op_iload 2 1), (15, op_putI 1 0), (18, op_aload 0 1), (19, op_iload 3 1), (20, op_putI 1 1), (23, op_aload 0 1), (24, op_iload 4 2), (26, op_putI 1 2), (29, op_aload 0 1), (30, op_aload 1 1), (31, op_getI 7 3), (34, op_putI 1 3), (37, op_aload 0 1), (38, op_aload 1 1), (39, op_getA 7 4), (42, op_clone), (45, op_castI), (48, op_putA 1 4)]
set_option maxRecDepth 100000 in
theorem gl_13_0 : jm_gl "FrescoWall$Bit" prog_3_method_1_code 10 (Option.none : Option Jvm.ClassFile.FieldType) true cl_13_0 :=
  jm_gc (pu_aload _ _) (sn_aload_n (i := 0) (jm_dc dc_13_0 0 rfl)) (
  jm_gc (pu_objInit) (sn_objInit (jm_dc dc_13_0 1 rfl) ⟨kc_tb 500 (by decide +kernel), kc_tb 23 (by decide +kernel), kc_tb 24 (by decide +kernel)⟩) (
  jm_gc (pu_aload _ _) (sn_aload_n (i := 0) (jm_dc dc_13_0 2 rfl)) (
  jm_gc (pu_ic _ _) (sn_sipush (jm_dc dc_13_0 3 rfl) (by decide)) (
  jm_gc (pu_newa _ _) (sn_newJ (jm_dc dc_13_0 4 rfl) (kc_tb 226 (by decide +kernel))) (
  jm_gc (pu_putA _ _) (sn_putAF (jm_dc dc_13_0 5 rfl) flw_1_9 rfl rfl) (
  jm_gc (pu_aload _ _) (sn_aload_n (i := 0) (jm_dc dc_13_0 6 rfl)) (
  jm_gc (pu_iload _ _) (sn_iload_n (i := 2) (jm_dc dc_13_0 7 rfl)) (
  jm_gc (pu_putI _ _) (sn_putIF (jm_dc dc_13_0 8 rfl) flw_1_13 rfl rfl) (
  jm_gc (pu_aload _ _) (sn_aload_n (i := 0) (jm_dc dc_13_0 9 rfl)) (
  jm_gc (pu_iload _ _) (sn_iload_n (i := 3) (jm_dc dc_13_0 10 rfl)) (
  jm_gc (pu_putI _ _) (sn_putIF (jm_dc dc_13_0 11 rfl) flw_1_17 rfl rfl) (
  jm_gc (pu_aload _ _) (sn_aload_n (i := 0) (jm_dc dc_13_0 12 rfl)) (
  jm_gc (pu_iload _ _) (sn_iload (jm_dc dc_13_0 13 rfl)) (
  jm_gc (pu_putI _ _) (sn_putIF (jm_dc dc_13_0 14 rfl) flw_1_20 rfl rfl) (
  jm_gc (pu_aload _ _) (sn_aload_n (i := 0) (jm_dc dc_13_0 15 rfl)) (
  jm_gc (pu_aload _ _) (sn_aload_n (i := 1) (jm_dc dc_13_0 16 rfl)) (
  jm_gc (pu_getI _ _) (sn_getI (jm_dc dc_13_0 17 rfl) fl_1_23 (Or.inl rfl)) (
  jm_gc (pu_putI _ _) (sn_putIF (jm_dc dc_13_0 18 rfl) flw_1_28 rfl rfl) (
  jm_gc (pu_aload _ _) (sn_aload_n (i := 0) (jm_dc dc_13_0 19 rfl)) (
  jm_gc (pu_aload _ _) (sn_aload_n (i := 1) (jm_dc dc_13_0 20 rfl)) (
  jm_gc (pu_getA _ _) (sn_getA (jm_dc dc_13_0 21 rfl) fl_1_31 rfl) (
  jm_gc (pu_clone) (sn_clone (jm_dc dc_13_0 22 rfl) ⟨kc_tb 501 (by decide +kernel), kc_tb 502 (by decide +kernel), kc_tb 503 (by decide +kernel), kc_tb 504 (by decide +kernel), kc_tb 505 (by decide +kernel), kc_tb 506 (by decide +kernel)⟩) (
  jm_gc (pu_castI) (sn_castI (jm_dc dc_13_0 23 rfl) (kc_tb 507 (by decide +kernel))) (
  jm_gc (pu_putA _ _) (sn_putAF (jm_dc dc_13_0 24 rfl) flw_1_40 rfl rfl) (
  jm_gn)))))))))))))))))))))))))
theorem dc_13_1 : ([(51, .aload_n 0, 1), (52, .aload_n 1, 1), (53, .getfield 43, 3), (56, .invokevirtual 35, 3), (59, .checkcast 36, 3), (62, .putfield 46, 3), (65, .aload_n 0, 1), (66, .aload_n 1, 1), (67, .getfield 49, 3), (70, .invokevirtual 35, 3), (73, .checkcast 36, 3), (76, .putfield 52, 3), (79, .aload_n 0, 1), (80, .aload_n 1, 1), (81, .getfield 53, 3), (84, .putfield 56, 3), (87, .aload_n 0, 1), (88, .aload_n 1, 1), (89, .getfield 57, 3), (92, .invokevirtual 35, 3), (95, .checkcast 36, 3), (98, .putfield 60, 3), (101, .aload_n 0, 1), (102, .aload_n 1, 1), (103, .getfield 61, 3)] : List (Nat × Instr × Nat)).all (fun e => decide (decode prog_3_method_1_code e.1 = .ok e.2)) = true := by decide +kernel
abbrev cl_13_1 : List (Nat × jm_O) := [(51, op_aload 0 1), (52, op_aload 1 1), (53, op_getA 7 5), (56, op_clone), (59, op_castI), (62, op_putA 1 5), (65, op_aload 0 1), (66, op_aload 1 1), (67, op_getA 7 6), (70, op_clone), (73, op_castI), (76, op_putA 1 6), (79, op_aload 0 1), (80, op_aload 1 1), (81, op_getI 7 7), (84, op_putI 1 7), (87, op_aload 0 1), (88, op_aload 1 1), (89, op_getA 7 8), (92, op_clone), (95, op_castI), (98, op_putA 1 8), (101, op_aload 0 1), (102, op_aload 1 1), (103, op_getA 7 9)]
set_option maxRecDepth 100000 in
theorem gl_13_1 : jm_gl "FrescoWall$Bit" prog_3_method_1_code 10 (Option.none : Option Jvm.ClassFile.FieldType) true cl_13_1 :=
  jm_gc (pu_aload _ _) (sn_aload_n (i := 0) (jm_dc dc_13_1 0 rfl)) (
  jm_gc (pu_aload _ _) (sn_aload_n (i := 1) (jm_dc dc_13_1 1 rfl)) (
  jm_gc (pu_getA _ _) (sn_getA (jm_dc dc_13_1 2 rfl) fl_1_43 rfl) (
  jm_gc (pu_clone) (sn_clone (jm_dc dc_13_1 3 rfl) ⟨kc_tb 501 (by decide +kernel), kc_tb 502 (by decide +kernel), kc_tb 503 (by decide +kernel), kc_tb 504 (by decide +kernel), kc_tb 505 (by decide +kernel), kc_tb 506 (by decide +kernel)⟩) (
  jm_gc (pu_castI) (sn_castI (jm_dc dc_13_1 4 rfl) (kc_tb 507 (by decide +kernel))) (
  jm_gc (pu_putA _ _) (sn_putAF (jm_dc dc_13_1 5 rfl) flw_1_46 rfl rfl) (
  jm_gc (pu_aload _ _) (sn_aload_n (i := 0) (jm_dc dc_13_1 6 rfl)) (
  jm_gc (pu_aload _ _) (sn_aload_n (i := 1) (jm_dc dc_13_1 7 rfl)) (
  jm_gc (pu_getA _ _) (sn_getA (jm_dc dc_13_1 8 rfl) fl_1_49 rfl) (
  jm_gc (pu_clone) (sn_clone (jm_dc dc_13_1 9 rfl) ⟨kc_tb 501 (by decide +kernel), kc_tb 502 (by decide +kernel), kc_tb 503 (by decide +kernel), kc_tb 504 (by decide +kernel), kc_tb 505 (by decide +kernel), kc_tb 506 (by decide +kernel)⟩) (
  jm_gc (pu_castI) (sn_castI (jm_dc dc_13_1 10 rfl) (kc_tb 507 (by decide +kernel))) (
  jm_gc (pu_putA _ _) (sn_putAF (jm_dc dc_13_1 11 rfl) flw_1_52 rfl rfl) (
  jm_gc (pu_aload _ _) (sn_aload_n (i := 0) (jm_dc dc_13_1 12 rfl)) (
  jm_gc (pu_aload _ _) (sn_aload_n (i := 1) (jm_dc dc_13_1 13 rfl)) (
  jm_gc (pu_getI _ _) (sn_getI (jm_dc dc_13_1 14 rfl) fl_1_53 (Or.inl rfl)) (
  jm_gc (pu_putI _ _) (sn_putIF (jm_dc dc_13_1 15 rfl) flw_1_56 rfl rfl) (
  jm_gc (pu_aload _ _) (sn_aload_n (i := 0) (jm_dc dc_13_1 16 rfl)) (
  jm_gc (pu_aload _ _) (sn_aload_n (i := 1) (jm_dc dc_13_1 17 rfl)) (
  jm_gc (pu_getA _ _) (sn_getA (jm_dc dc_13_1 18 rfl) fl_1_57 rfl) (
  jm_gc (pu_clone) (sn_clone (jm_dc dc_13_1 19 rfl) ⟨kc_tb 501 (by decide +kernel), kc_tb 502 (by decide +kernel), kc_tb 503 (by decide +kernel), kc_tb 504 (by decide +kernel), kc_tb 505 (by decide +kernel), kc_tb 506 (by decide +kernel)⟩) (
  jm_gc (pu_castI) (sn_castI (jm_dc dc_13_1 20 rfl) (kc_tb 507 (by decide +kernel))) (
  jm_gc (pu_putA _ _) (sn_putAF (jm_dc dc_13_1 21 rfl) flw_1_60 rfl rfl) (
  jm_gc (pu_aload _ _) (sn_aload_n (i := 0) (jm_dc dc_13_1 22 rfl)) (
  jm_gc (pu_aload _ _) (sn_aload_n (i := 1) (jm_dc dc_13_1 23 rfl)) (
  jm_gc (pu_getA _ _) (sn_getA (jm_dc dc_13_1 24 rfl) fl_1_61 rfl) (
  jm_gn)))))))))))))))))))))))))
theorem dc_13_2 : ([(106, .invokevirtual 35, 3), (109, .checkcast 36, 3), (112, .putfield 64, 3), (115, .aload_n 0, 1), (116, .aload_n 1, 1), (117, .getfield 65, 3), (120, .invokevirtual 35, 3), (123, .checkcast 36, 3), (126, .putfield 68, 3), (129, .aload_n 0, 1), (130, .aload_n 1, 1), (131, .invokevirtual 69, 3), (134, .putfield 73, 3), (137, .iconst 0, 1), (138, .istore 5, 2), (140, .aload_n 1, 1), (141, .aload_n 1, 1), (142, .getfield 31, 3), (145, .invokevirtual 75, 3), (148, .istore 6, 2), (150, .aload_n 1, 1), (151, .aload_n 1, 1), (152, .getfield 43, 3), (155, .invokevirtual 75, 3), (158, .istore 7, 2)] : List (Nat × Instr × Nat)).all (fun e => decide (decode prog_3_method_1_code e.1 = .ok e.2)) = true := by decide +kernel
abbrev cl_13_2 : List (Nat × jm_O) := [(106, op_clone), (109, op_castI), (112, op_putA 1 9), (115, op_aload 0 1), (116, op_aload 1 1), (117, op_getA 7 10), (120, op_clone), (123, op_castI), (126, op_putA 1 10), (129, op_aload 0 1), (130, op_aload 1 1), (131, op_callV 7 84 1), (134, op_putI 1 11), (137, op_ic 0 1), (138, op_istore 5 2), (140, op_aload 1 1), (141, op_aload 1 1), (142, op_getA 7 4), (145, op_callV 7 86 2), (148, op_istore 6 2), (150, op_aload 1 1), (151, op_aload 1 1), (152, op_getA 7 5), (155, op_callV 7 86 2), (158, op_istore 7 2)]
set_option maxRecDepth 100000 in
theorem gl_13_2 : jm_gl "FrescoWall$Bit" prog_3_method_1_code 10 (Option.none : Option Jvm.ClassFile.FieldType) true cl_13_2 :=
  jm_gc (pu_clone) (sn_clone (jm_dc dc_13_2 0 rfl) ⟨kc_tb 501 (by decide +kernel), kc_tb 502 (by decide +kernel), kc_tb 503 (by decide +kernel), kc_tb 504 (by decide +kernel), kc_tb 505 (by decide +kernel), kc_tb 506 (by decide +kernel)⟩) (
  jm_gc (pu_castI) (sn_castI (jm_dc dc_13_2 1 rfl) (kc_tb 507 (by decide +kernel))) (
  jm_gc (pu_putA _ _) (sn_putAF (jm_dc dc_13_2 2 rfl) flw_1_64 rfl rfl) (
  jm_gc (pu_aload _ _) (sn_aload_n (i := 0) (jm_dc dc_13_2 3 rfl)) (
  jm_gc (pu_aload _ _) (sn_aload_n (i := 1) (jm_dc dc_13_2 4 rfl)) (
  jm_gc (pu_getA _ _) (sn_getA (jm_dc dc_13_2 5 rfl) fl_1_65 rfl) (
  jm_gc (pu_clone) (sn_clone (jm_dc dc_13_2 6 rfl) ⟨kc_tb 501 (by decide +kernel), kc_tb 502 (by decide +kernel), kc_tb 503 (by decide +kernel), kc_tb 504 (by decide +kernel), kc_tb 505 (by decide +kernel), kc_tb 506 (by decide +kernel)⟩) (
  jm_gc (pu_castI) (sn_castI (jm_dc dc_13_2 7 rfl) (kc_tb 507 (by decide +kernel))) (
  jm_gc (pu_putA _ _) (sn_putAF (jm_dc dc_13_2 8 rfl) flw_1_68 rfl rfl) (
  jm_gc (pu_aload _ _) (sn_aload_n (i := 0) (jm_dc dc_13_2 9 rfl)) (
  jm_gc (pu_aload _ _) (sn_aload_n (i := 1) (jm_dc dc_13_2 10 rfl)) (
  jm_gc (pu_callV _ _ _) (sn_callV (jm_dc dc_13_2 11 rfl) lk_1_69) (
  jm_gc (pu_putI _ _) (sn_putIF (jm_dc dc_13_2 12 rfl) flw_1_73 rfl rfl) (
  jm_gc (pu_ic _ _) (sn_iconst (jm_dc dc_13_2 13 rfl) (by decide)) (
  jm_gc (pu_istore _ _) (sn_istore (jm_dc dc_13_2 14 rfl)) (
  jm_gc (pu_aload _ _) (sn_aload_n (i := 1) (jm_dc dc_13_2 15 rfl)) (
  jm_gc (pu_aload _ _) (sn_aload_n (i := 1) (jm_dc dc_13_2 16 rfl)) (
  jm_gc (pu_getA _ _) (sn_getA (jm_dc dc_13_2 17 rfl) fl_1_31 rfl) (
  jm_gc (pu_callV _ _ _) (sn_callV (jm_dc dc_13_2 18 rfl) lk_1_75) (
  jm_gc (pu_istore _ _) (sn_istore (jm_dc dc_13_2 19 rfl)) (
  jm_gc (pu_aload _ _) (sn_aload_n (i := 1) (jm_dc dc_13_2 20 rfl)) (
  jm_gc (pu_aload _ _) (sn_aload_n (i := 1) (jm_dc dc_13_2 21 rfl)) (
  jm_gc (pu_getA _ _) (sn_getA (jm_dc dc_13_2 22 rfl) fl_1_43 rfl) (
  jm_gc (pu_callV _ _ _) (sn_callV (jm_dc dc_13_2 23 rfl) lk_1_75) (
  jm_gc (pu_istore _ _) (sn_istore (jm_dc dc_13_2 24 rfl)) (
  jm_gn)))))))))))))))))))))))))
theorem dc_13_3 : ([(160, .aload_n 1, 1), (161, .aload_n 1, 1), (162, .getfield 31, 3), (165, .invokevirtual 79, 3), (168, .istore 8, 2), (170, .iload 8, 2), (172, .iload 6, 2), (174, .if_icmp .ge 54, 3), (177, .aload_n 1, 1), (178, .aload_n 1, 1), (179, .getfield 43, 3), (182, .invokevirtual 79, 3), (185, .istore 9, 2), (187, .iload 9, 2), (189, .iload 7, 2), (191, .if_icmp .ge 31, 3), (194, .aload_n 1, 1), (195, .iload 8, 2), (197, .iload 9, 2), (199, .invokevirtual 82, 3), (202, .ifCond .eq 14, 3), (205, .iinc 5 1, 3), (208, .aload_n 0, 1), (209, .iload 8, 2), (211, .iload 9, 2)] : List (Nat × Instr × Nat)).all (fun e => decide (decode prog_3_method_1_code e.1 = .ok e.2)) = true := by decide +kernel
abbrev cl_13_3 : List (Nat × jm_O) := [(160, op_aload 1 1), (161, op_aload 1 1), (162, op_getA 7 4), (165, op_callV 7 85 2), (168, op_istore 8 2), (170, op_iload 8 2), (172, op_iload 6 2), (174, op_cge 228), (177, op_aload 1 1), (178, op_aload 1 1), (179, op_getA 7 5), (182, op_callV 7 85 2), (185, op_istore 9 2), (187, op_iload 9 2), (189, op_iload 7 2), (191, op_cge 222), (194, op_aload 1 1), (195, op_iload 8 2), (197, op_iload 9 2), (199, op_callV 7 92 3), (202, op_ifeq 216), (205, op_iinc 5 1), (208, op_aload 0 1), (209, op_iload 8 2), (211, op_iload 9 2)]
set_option maxRecDepth 100000 in
theorem gl_13_3 : jm_gl "FrescoWall$Bit" prog_3_method_1_code 10 (Option.none : Option Jvm.ClassFile.FieldType) true cl_13_3 :=
  jm_gc (pu_aload _ _) (sn_aload_n (i := 1) (jm_dc dc_13_3 0 rfl)) (
  jm_gc (pu_aload _ _) (sn_aload_n (i := 1) (jm_dc dc_13_3 1 rfl)) (
  jm_gc (pu_getA _ _) (sn_getA (jm_dc dc_13_3 2 rfl) fl_1_31 rfl) (
  jm_gc (pu_callV _ _ _) (sn_callV (jm_dc dc_13_3 3 rfl) lk_1_79) (
  jm_gc (pu_istore _ _) (sn_istore (jm_dc dc_13_3 4 rfl)) (
  jm_gc (pu_iload _ _) (sn_iload (jm_dc dc_13_3 5 rfl)) (
  jm_gc (pu_iload _ _) (sn_iload (jm_dc dc_13_3 6 rfl)) (
  jm_gc (pu_cge _) (sn_cge (jm_dc dc_13_3 7 rfl) (by decide)) (
  jm_gc (pu_aload _ _) (sn_aload_n (i := 1) (jm_dc dc_13_3 8 rfl)) (
  jm_gc (pu_aload _ _) (sn_aload_n (i := 1) (jm_dc dc_13_3 9 rfl)) (
  jm_gc (pu_getA _ _) (sn_getA (jm_dc dc_13_3 10 rfl) fl_1_43 rfl) (
  jm_gc (pu_callV _ _ _) (sn_callV (jm_dc dc_13_3 11 rfl) lk_1_79) (
  jm_gc (pu_istore _ _) (sn_istore (jm_dc dc_13_3 12 rfl)) (
  jm_gc (pu_iload _ _) (sn_iload (jm_dc dc_13_3 13 rfl)) (
  jm_gc (pu_iload _ _) (sn_iload (jm_dc dc_13_3 14 rfl)) (
  jm_gc (pu_cge _) (sn_cge (jm_dc dc_13_3 15 rfl) (by decide)) (
  jm_gc (pu_aload _ _) (sn_aload_n (i := 1) (jm_dc dc_13_3 16 rfl)) (
  jm_gc (pu_iload _ _) (sn_iload (jm_dc dc_13_3 17 rfl)) (
  jm_gc (pu_iload _ _) (sn_iload (jm_dc dc_13_3 18 rfl)) (
  jm_gc (pu_callV _ _ _) (sn_callV (jm_dc dc_13_3 19 rfl) lk_1_82) (
  jm_gc (pu_ifeq _) (sn_ifeq (jm_dc dc_13_3 20 rfl) (by decide)) (
  jm_gc (pu_iinc _ _) (sn_iinc (jm_dc dc_13_3 21 rfl) (by decide)) (
  jm_gc (pu_aload _ _) (sn_aload_n (i := 0) (jm_dc dc_13_3 22 rfl)) (
  jm_gc (pu_iload _ _) (sn_iload (jm_dc dc_13_3 23 rfl)) (
  jm_gc (pu_iload _ _) (sn_iload (jm_dc dc_13_3 24 rfl)) (
  jm_gn)))))))))))))))))))))))))
theorem dc_13_4 : ([(213, .invokevirtual 86, 3), (216, .iinc 9 1, 3), (219, .goto (-32), 3), (222, .iinc 8 1, 3), (225, .goto (-55), 3), (228, .aload_n 0, 1), (229, .iload 5, 2), (231, .putfield 90, 3), (234, .return_, 1)] : List (Nat × Instr × Nat)).all (fun e => decide (decode prog_3_method_1_code e.1 = .ok e.2)) = true := by decide +kernel
abbrev cl_13_4 : List (Nat × jm_O) := [(213, op_callV 1 14 3), (216, op_iinc 9 1), (219, op_goto 187), (222, op_iinc 8 1), (225, op_goto 170), (228, op_aload 0 1), (229, op_iload 5 2), (231, op_putI 1 12), (234, op_vret)]
set_option maxRecDepth 100000 in
theorem gl_13_4 : jm_gl "FrescoWall$Bit" prog_3_method_1_code 10 (Option.none : Option Jvm.ClassFile.FieldType) true cl_13_4 :=
  jm_gc (pu_callV _ _ _) (sn_callV (jm_dc dc_13_4 0 rfl) lk_1_86) (
  jm_gc (pu_iinc _ _) (sn_iinc (jm_dc dc_13_4 1 rfl) (by decide)) (
  jm_gc (pu_goto _) (sn_goto (jm_dc dc_13_4 2 rfl) (by decide)) (
  jm_gc (pu_iinc _ _) (sn_iinc (jm_dc dc_13_4 3 rfl) (by decide)) (
  jm_gc (pu_goto _) (sn_goto (jm_dc dc_13_4 4 rfl) (by decide)) (
  jm_gc (pu_aload _ _) (sn_aload_n (i := 0) (jm_dc dc_13_4 5 rfl)) (
  jm_gc (pu_iload _ _) (sn_iload (jm_dc dc_13_4 6 rfl)) (
  jm_gc (pu_putI _ _) (sn_putIF (jm_dc dc_13_4 7 rfl) flw_1_90 rfl rfl) (
  jm_gc (pu_vret) (sn_vret (jm_dc dc_13_4 8 rfl) rfl) (
  jm_gn)))))))))
theorem dc_14_0 : ([(0, .iconst 0, 1), (1, .istore_n 3, 1), (2, .iload_n 3, 1), (3, .iconst 4, 1), (4, .if_icmp .ge 46, 3), (7, .iload_n 3, 1), (8, .bipush 40, 2), (10, .imul, 1), (11, .bipush 20, 2), (13, .iadd, 1), (14, .iload_n 3, 1), (15, .iload_n 1, 1), (16, .iload_n 2, 1), (17, .invokestatic 93, 3), (20, .iadd, 1), (21, .istore 4, 2), (23, .aload_n 0, 1), (24, .getfield 9, 3), (27, .iload 4, 2), (29, .dup2, 1), (30, .laload, 1), (31, .lconst 1, 1), (32, .bipush 20, 2), (34, .iload_n 3, 1), (35, .iload_n 1, 1)] : List (Nat × Instr × Nat)).all (fun e => decide (decode prog_3_method_2_code e.1 = .ok e.2)) = true := by decide +kernel
abbrev cl_14_0 : List (Nat × jm_O) := [(0, op_ic 0 1), (1, op_istore 3 1), (2, op_iload 3 1), (3, op_ic 4 1), (4, op_cge 50), (7, op_iload 3 1), (8, op_ic 40 2), (10, op_ibin (fun x y => x * y)), (11, op_ic 20 2), (13, op_ibin (fun x y => x + y)), (14, op_iload 3 1), (15, op_iload 1 1), (16, op_iload 2 1), (17, op_callS 312 3), (20, op_ibin (fun x y => x + y)), (21, op_istore 4 2), (23, op_aload 0 1), (24, op_getA 1 13), (27, op_iload 4 2), (29, op_dup2), (30, op_lald), (31, op_lc 1 1), (32, op_ic 20 2), (34, op_iload 3 1), (35, op_iload 1 1)]
set_option maxRecDepth 100000 in
theorem gl_14_0 : jm_gl "FrescoWall$Bit" prog_3_method_2_code 5 (Option.none : Option Jvm.ClassFile.FieldType) false cl_14_0 :=
  jm_gc (pu_ic _ _) (sn_iconst (jm_dc dc_14_0 0 rfl) (by decide)) (
  jm_gc (pu_istore _ _) (sn_istore_n (i := 3) (jm_dc dc_14_0 1 rfl)) (
  jm_gc (pu_iload _ _) (sn_iload_n (i := 3) (jm_dc dc_14_0 2 rfl)) (
  jm_gc (pu_ic _ _) (sn_iconst (jm_dc dc_14_0 3 rfl) (by decide)) (
  jm_gc (pu_cge _) (sn_cge (jm_dc dc_14_0 4 rfl) (by decide)) (
  jm_gc (pu_iload _ _) (sn_iload_n (i := 3) (jm_dc dc_14_0 5 rfl)) (
  jm_gc (pu_ic _ _) (sn_bipush (jm_dc dc_14_0 6 rfl) (by decide)) (
  jm_gc (pu_ibin _) (sn_imul (jm_dc dc_14_0 7 rfl)) (
  jm_gc (pu_ic _ _) (sn_bipush (jm_dc dc_14_0 8 rfl) (by decide)) (
  jm_gc (pu_ibin _) (sn_iadd (jm_dc dc_14_0 9 rfl)) (
  jm_gc (pu_iload _ _) (sn_iload_n (i := 3) (jm_dc dc_14_0 10 rfl)) (
  jm_gc (pu_iload _ _) (sn_iload_n (i := 1) (jm_dc dc_14_0 11 rfl)) (
  jm_gc (pu_iload _ _) (sn_iload_n (i := 2) (jm_dc dc_14_0 12 rfl)) (
  jm_gc (pu_callS _ _) (sn_callS (jm_dc dc_14_0 13 rfl) lk_1_93) (
  jm_gc (pu_ibin _) (sn_iadd (jm_dc dc_14_0 14 rfl)) (
  jm_gc (pu_istore _ _) (sn_istore (jm_dc dc_14_0 15 rfl)) (
  jm_gc (pu_aload _ _) (sn_aload_n (i := 0) (jm_dc dc_14_0 16 rfl)) (
  jm_gc (pu_getA _ _) (sn_getA (jm_dc dc_14_0 17 rfl) fl_1_9 rfl) (
  jm_gc (pu_iload _ _) (sn_iload (jm_dc dc_14_0 18 rfl)) (
  jm_gc (pu_dup2) (sn_dup2 (jm_dc dc_14_0 19 rfl)) (
  jm_gc (pu_lald) (sn_lald (jm_dc dc_14_0 20 rfl)) (
  jm_gc (pu_lc _ _) (sn_lconst (jm_dc dc_14_0 21 rfl) (by decide)) (
  jm_gc (pu_ic _ _) (sn_bipush (jm_dc dc_14_0 22 rfl) (by decide)) (
  jm_gc (pu_iload _ _) (sn_iload_n (i := 3) (jm_dc dc_14_0 23 rfl)) (
  jm_gc (pu_iload _ _) (sn_iload_n (i := 1) (jm_dc dc_14_0 24 rfl)) (
  jm_gn)))))))))))))))))))))))))
theorem dc_14_1 : ([(36, .iload_n 2, 1), (37, .invokestatic 99, 3), (40, .iadd, 1), (41, .lshl, 1), (42, .lor, 1), (43, .lastore, 1), (44, .iinc 3 1, 3), (47, .goto (-45), 3), (50, .return_, 1)] : List (Nat × Instr × Nat)).all (fun e => decide (decode prog_3_method_2_code e.1 = .ok e.2)) = true := by decide +kernel
abbrev cl_14_1 : List (Nat × jm_O) := [(36, op_iload 2 1), (37, op_callS 311 3), (40, op_ibin (fun x y => x + y)), (41, op_lsh (fun x y => x <<< (y.toInt64 &&& 63))), (42, op_lbin (fun x y => x ||| y)), (43, op_last), (44, op_iinc 3 1), (47, op_goto 2), (50, op_vret)]
set_option maxRecDepth 100000 in
theorem gl_14_1 : jm_gl "FrescoWall$Bit" prog_3_method_2_code 5 (Option.none : Option Jvm.ClassFile.FieldType) false cl_14_1 :=
  jm_gc (pu_iload _ _) (sn_iload_n (i := 2) (jm_dc dc_14_1 0 rfl)) (
  jm_gc (pu_callS _ _) (sn_callS (jm_dc dc_14_1 1 rfl) lk_1_99) (
  jm_gc (pu_ibin _) (sn_iadd (jm_dc dc_14_1 2 rfl)) (
  jm_gc (pu_lsh _) (sn_lshl (jm_dc dc_14_1 3 rfl)) (
  jm_gc (pu_lbin _) (sn_lor (jm_dc dc_14_1 4 rfl)) (
  jm_gc (pu_last) (sn_last (jm_dc dc_14_1 5 rfl)) (
  jm_gc (pu_iinc _ _) (sn_iinc (jm_dc dc_14_1 6 rfl) (by decide)) (
  jm_gc (pu_goto _) (sn_goto (jm_dc dc_14_1 7 rfl) (by decide)) (
  jm_gc (pu_vret) (sn_vret (jm_dc dc_14_1 8 rfl) rfl) (
  jm_gn)))))))))
theorem dc_15_0 : ([(0, .iload_n 1, 1), (1, .iconst 1, 1), (2, .iadd, 1), (3, .aload_n 0, 1), (4, .getfield 28, 3), (7, .if_icmp .ge 9, 3), (10, .iload_n 1, 1), (11, .iconst 1, 1), (12, .iadd, 1), (13, .goto 4, 3), (16, .iconst 0, 1), (17, .ireturn, 1)] : List (Nat × Instr × Nat)).all (fun e => decide (decode prog_3_method_3_code e.1 = .ok e.2)) = true := by decide +kernel
abbrev cl_15_0 : List (Nat × jm_O) := [(0, op_iload 1 1), (1, op_ic 1 1), (2, op_ibin (fun x y => x + y)), (3, op_aload 0 1), (4, op_getI 1 3), (7, op_cge 16), (10, op_iload 1 1), (11, op_ic 1 1), (12, op_ibin (fun x y => x + y)), (13, op_goto 17), (16, op_ic 0 1), (17, op_iret)]
set_option maxRecDepth 100000 in
theorem gl_15_0 : jm_gl "FrescoWall$Bit" prog_3_method_3_code 2 (Option.some Jvm.ClassFile.FieldType.int) false cl_15_0 :=
  jm_gc (pu_iload _ _) (sn_iload_n (i := 1) (jm_dc dc_15_0 0 rfl)) (
  jm_gc (pu_ic _ _) (sn_iconst (jm_dc dc_15_0 1 rfl) (by decide)) (
  jm_gc (pu_ibin _) (sn_iadd (jm_dc dc_15_0 2 rfl)) (
  jm_gc (pu_aload _ _) (sn_aload_n (i := 0) (jm_dc dc_15_0 3 rfl)) (
  jm_gc (pu_getI _ _) (sn_getI (jm_dc dc_15_0 4 rfl) fl_1_28 (Or.inl rfl)) (
  jm_gc (pu_cge _) (sn_cge (jm_dc dc_15_0 5 rfl) (by decide)) (
  jm_gc (pu_iload _ _) (sn_iload_n (i := 1) (jm_dc dc_15_0 6 rfl)) (
  jm_gc (pu_ic _ _) (sn_iconst (jm_dc dc_15_0 7 rfl) (by decide)) (
  jm_gc (pu_ibin _) (sn_iadd (jm_dc dc_15_0 8 rfl)) (
  jm_gc (pu_goto _) (sn_goto (jm_dc dc_15_0 9 rfl) (by decide)) (
  jm_gc (pu_ic _ _) (sn_iconst (jm_dc dc_15_0 10 rfl) (by decide)) (
  jm_gc (pu_iret) (sn_iret (jm_dc dc_15_0 11 rfl) rfl) (
  jm_gn))))))))))))
theorem dc_16_0 : ([(0, .iload 4, 2), (2, .bipush (-40), 2), (4, .if_icmp .le 24, 3), (7, .iload 4, 2), (9, .bipush 40, 2), (11, .if_icmp .ge 17, 3), (14, .iload 5, 2), (16, .bipush (-40), 2), (18, .if_icmp .le 10, 3), (21, .iload 5, 2), (23, .bipush 40, 2), (25, .if_icmp .lt 5, 3), (28, .iconst 0, 1), (29, .ireturn, 1), (30, .iconst 0, 1), (31, .istore 6, 2), (33, .bipush 40, 2), (35, .bipush 40, 2), (37, .iload 5, 2), (39, .iadd, 1), (40, .invokestatic 102, 3), (43, .istore 7, 2), (45, .iconst 0, 1), (46, .iload 5, 2), (48, .invokestatic 108, 3)] : List (Nat × Instr × Nat)).all (fun e => decide (decode prog_3_method_4_code e.1 = .ok e.2)) = true := by decide +kernel
abbrev cl_16_0 : List (Nat × jm_O) := [(0, op_iload 4 2), (2, op_ic (-40) 2), (4, op_cle 28), (7, op_iload 4 2), (9, op_ic 40 2), (11, op_cge 28), (14, op_iload 5 2), (16, op_ic (-40) 2), (18, op_cle 28), (21, op_iload 5 2), (23, op_ic 40 2), (25, op_clt 30), (28, op_ic 0 1), (29, op_iret), (30, op_ic 0 1), (31, op_istore 6 2), (33, op_ic 40 2), (35, op_ic 40 2), (37, op_iload 5 2), (39, op_ibin (fun x y => x + y)), (40, op_mmin), (43, op_istore 7 2), (45, op_ic 0 1), (46, op_iload 5 2), (48, op_mmax)]
set_option maxRecDepth 100000 in
theorem gl_16_0 : jm_gl "FrescoWall$Bit" prog_3_method_4_code 13 (Option.some Jvm.ClassFile.FieldType.int) false cl_16_0 :=
  jm_gc (pu_iload _ _) (sn_iload (jm_dc dc_16_0 0 rfl)) (
  jm_gc (pu_ic _ _) (sn_bipush (jm_dc dc_16_0 1 rfl) (by decide)) (
  jm_gc (pu_cle _) (sn_cle (jm_dc dc_16_0 2 rfl) (by decide)) (
  jm_gc (pu_iload _ _) (sn_iload (jm_dc dc_16_0 3 rfl)) (
  jm_gc (pu_ic _ _) (sn_bipush (jm_dc dc_16_0 4 rfl) (by decide)) (
  jm_gc (pu_cge _) (sn_cge (jm_dc dc_16_0 5 rfl) (by decide)) (
  jm_gc (pu_iload _ _) (sn_iload (jm_dc dc_16_0 6 rfl)) (
  jm_gc (pu_ic _ _) (sn_bipush (jm_dc dc_16_0 7 rfl) (by decide)) (
  jm_gc (pu_cle _) (sn_cle (jm_dc dc_16_0 8 rfl) (by decide)) (
  jm_gc (pu_iload _ _) (sn_iload (jm_dc dc_16_0 9 rfl)) (
  jm_gc (pu_ic _ _) (sn_bipush (jm_dc dc_16_0 10 rfl) (by decide)) (
  jm_gc (pu_clt _) (sn_clt (jm_dc dc_16_0 11 rfl) (by decide)) (
  jm_gc (pu_ic _ _) (sn_iconst (jm_dc dc_16_0 12 rfl) (by decide)) (
  jm_gc (pu_iret) (sn_iret (jm_dc dc_16_0 13 rfl) rfl) (
  jm_gc (pu_ic _ _) (sn_iconst (jm_dc dc_16_0 14 rfl) (by decide)) (
  jm_gc (pu_istore _ _) (sn_istore (jm_dc dc_16_0 15 rfl)) (
  jm_gc (pu_ic _ _) (sn_bipush (jm_dc dc_16_0 16 rfl) (by decide)) (
  jm_gc (pu_ic _ _) (sn_bipush (jm_dc dc_16_0 17 rfl) (by decide)) (
  jm_gc (pu_iload _ _) (sn_iload (jm_dc dc_16_0 18 rfl)) (
  jm_gc (pu_ibin _) (sn_iadd (jm_dc dc_16_0 19 rfl)) (
  jm_gc (pu_mmin) (sn_mmin (jm_dc dc_16_0 20 rfl) ⟨kc_tb 645 (by decide +kernel), kc_tb 478 (by decide +kernel), kc_tb 13 (by decide +kernel), kc_tb 479 (by decide +kernel)⟩) (
  jm_gc (pu_istore _ _) (sn_istore (jm_dc dc_16_0 21 rfl)) (
  jm_gc (pu_ic _ _) (sn_iconst (jm_dc dc_16_0 22 rfl) (by decide)) (
  jm_gc (pu_iload _ _) (sn_iload (jm_dc dc_16_0 23 rfl)) (
  jm_gc (pu_mmax) (sn_mmax (jm_dc dc_16_0 24 rfl) ⟨kc_tb 646 (by decide +kernel), kc_tb 481 (by decide +kernel), kc_tb 13 (by decide +kernel), kc_tb 482 (by decide +kernel)⟩) (
  jm_gn)))))))))))))))))))))))))
theorem dc_16_1 : ([(51, .istore 8, 2), (53, .iload 8, 2), (55, .iload 7, 2), (57, .if_icmp .ge 70, 3), (60, .aload_n 2, 1), (61, .getfield 9, 3), (64, .iload_n 3, 1), (65, .bipush 40, 2), (67, .imul, 1), (68, .iload 8, 2), (70, .iadd, 1), (71, .iload 5, 2), (73, .isub, 1), (74, .laload, 1), (75, .lstore 9, 2), (77, .iload 4, 2), (79, .ifCond .lt 11, 3), (82, .lload 9, 2), (84, .iload 4, 2), (86, .lshl, 1), (87, .goto 9, 3), (90, .lload 9, 2), (92, .iload 4, 2), (94, .ineg, 1), (95, .lushr, 1)] : List (Nat × Instr × Nat)).all (fun e => decide (decode prog_3_method_4_code e.1 = .ok e.2)) = true := by decide +kernel
abbrev cl_16_1 : List (Nat × jm_O) := [(51, op_istore 8 2), (53, op_iload 8 2), (55, op_iload 7 2), (57, op_cge 127), (60, op_aload 2 1), (61, op_getA 1 13), (64, op_iload 3 1), (65, op_ic 40 2), (67, op_ibin (fun x y => x * y)), (68, op_iload 8 2), (70, op_ibin (fun x y => x + y)), (71, op_iload 5 2), (73, op_ibin (fun x y => x - y)), (74, op_lald), (75, op_lstore 9 2), (77, op_iload 4 2), (79, op_iflt 90), (82, op_lload 9 2), (84, op_iload 4 2), (86, op_lsh (fun x y => x <<< (y.toInt64 &&& 63))), (87, op_goto 96), (90, op_lload 9 2), (92, op_iload 4 2), (94, op_iun (fun x => -x)), (95, op_lsh (fun x y => (x.toUInt64 >>> (y.toInt64.toUInt64 &&& Int64.toUInt64 63)).toInt64))]
set_option maxRecDepth 100000 in
theorem gl_16_1 : jm_gl "FrescoWall$Bit" prog_3_method_4_code 13 (Option.some Jvm.ClassFile.FieldType.int) false cl_16_1 :=
  jm_gc (pu_istore _ _) (sn_istore (jm_dc dc_16_1 0 rfl)) (
  jm_gc (pu_iload _ _) (sn_iload (jm_dc dc_16_1 1 rfl)) (
  jm_gc (pu_iload _ _) (sn_iload (jm_dc dc_16_1 2 rfl)) (
  jm_gc (pu_cge _) (sn_cge (jm_dc dc_16_1 3 rfl) (by decide)) (
  jm_gc (pu_aload _ _) (sn_aload_n (i := 2) (jm_dc dc_16_1 4 rfl)) (
  jm_gc (pu_getA _ _) (sn_getA (jm_dc dc_16_1 5 rfl) fl_1_9 rfl) (
  jm_gc (pu_iload _ _) (sn_iload_n (i := 3) (jm_dc dc_16_1 6 rfl)) (
  jm_gc (pu_ic _ _) (sn_bipush (jm_dc dc_16_1 7 rfl) (by decide)) (
  jm_gc (pu_ibin _) (sn_imul (jm_dc dc_16_1 8 rfl)) (
  jm_gc (pu_iload _ _) (sn_iload (jm_dc dc_16_1 9 rfl)) (
  jm_gc (pu_ibin _) (sn_iadd (jm_dc dc_16_1 10 rfl)) (
  jm_gc (pu_iload _ _) (sn_iload (jm_dc dc_16_1 11 rfl)) (
  jm_gc (pu_ibin _) (sn_isub (jm_dc dc_16_1 12 rfl)) (
  jm_gc (pu_lald) (sn_lald (jm_dc dc_16_1 13 rfl)) (
  jm_gc (pu_lstore _ _) (sn_lstore (jm_dc dc_16_1 14 rfl)) (
  jm_gc (pu_iload _ _) (sn_iload (jm_dc dc_16_1 15 rfl)) (
  jm_gc (pu_iflt _) (sn_iflt (jm_dc dc_16_1 16 rfl) (by decide)) (
  jm_gc (pu_lload _ _) (sn_lload (jm_dc dc_16_1 17 rfl)) (
  jm_gc (pu_iload _ _) (sn_iload (jm_dc dc_16_1 18 rfl)) (
  jm_gc (pu_lsh _) (sn_lshl (jm_dc dc_16_1 19 rfl)) (
  jm_gc (pu_goto _) (sn_goto (jm_dc dc_16_1 20 rfl) (by decide)) (
  jm_gc (pu_lload _ _) (sn_lload (jm_dc dc_16_1 21 rfl)) (
  jm_gc (pu_iload _ _) (sn_iload (jm_dc dc_16_1 22 rfl)) (
  jm_gc (pu_iun _) (sn_ineg (jm_dc dc_16_1 23 rfl)) (
  jm_gc (pu_lsh _) (sn_lushr (jm_dc dc_16_1 24 rfl)) (
  jm_gn)))))))))))))))))))))))))
theorem dc_16_2 : ([(96, .lstore 11, 2), (98, .iload 6, 2), (100, .aload_n 0, 1), (101, .getfield 9, 3), (104, .iload_n 1, 1), (105, .bipush 40, 2), (107, .imul, 1), (108, .iload 8, 2), (110, .iadd, 1), (111, .laload, 1), (112, .lload 11, 2), (114, .land, 1), (115, .invokestatic 111, 3), (118, .iadd, 1), (119, .istore 6, 2), (121, .iinc 8 1, 3), (124, .goto (-71), 3), (127, .iload 6, 2), (129, .ireturn, 1)] : List (Nat × Instr × Nat)).all (fun e => decide (decode prog_3_method_4_code e.1 = .ok e.2)) = true := by decide +kernel
abbrev cl_16_2 : List (Nat × jm_O) := [(96, op_lstore 11 2), (98, op_iload 6 2), (100, op_aload 0 1), (101, op_getA 1 13), (104, op_iload 1 1), (105, op_ic 40 2), (107, op_ibin (fun x y => x * y)), (108, op_iload 8 2), (110, op_ibin (fun x y => x + y)), (111, op_lald), (112, op_lload 11 2), (114, op_lbin (fun x y => x &&& y)), (115, op_callS 320 1), (118, op_ibin (fun x y => x + y)), (119, op_istore 6 2), (121, op_iinc 8 1), (124, op_goto 53), (127, op_iload 6 2), (129, op_iret)]
set_option maxRecDepth 100000 in
theorem gl_16_2 : jm_gl "FrescoWall$Bit" prog_3_method_4_code 13 (Option.some Jvm.ClassFile.FieldType.int) false cl_16_2 :=
  jm_gc (pu_lstore _ _) (sn_lstore (jm_dc dc_16_2 0 rfl)) (
  jm_gc (pu_iload _ _) (sn_iload (jm_dc dc_16_2 1 rfl)) (
  jm_gc (pu_aload _ _) (sn_aload_n (i := 0) (jm_dc dc_16_2 2 rfl)) (
  jm_gc (pu_getA _ _) (sn_getA (jm_dc dc_16_2 3 rfl) fl_1_9 rfl) (
  jm_gc (pu_iload _ _) (sn_iload_n (i := 1) (jm_dc dc_16_2 4 rfl)) (
  jm_gc (pu_ic _ _) (sn_bipush (jm_dc dc_16_2 5 rfl) (by decide)) (
  jm_gc (pu_ibin _) (sn_imul (jm_dc dc_16_2 6 rfl)) (
  jm_gc (pu_iload _ _) (sn_iload (jm_dc dc_16_2 7 rfl)) (
  jm_gc (pu_ibin _) (sn_iadd (jm_dc dc_16_2 8 rfl)) (
  jm_gc (pu_lald) (sn_lald (jm_dc dc_16_2 9 rfl)) (
  jm_gc (pu_lload _ _) (sn_lload (jm_dc dc_16_2 10 rfl)) (
  jm_gc (pu_lbin _) (sn_land (jm_dc dc_16_2 11 rfl)) (
  jm_gc (pu_callS _ _) (sn_callS (jm_dc dc_16_2 12 rfl) lk_1_111) (
  jm_gc (pu_ibin _) (sn_iadd (jm_dc dc_16_2 13 rfl)) (
  jm_gc (pu_istore _ _) (sn_istore (jm_dc dc_16_2 14 rfl)) (
  jm_gc (pu_iinc _ _) (sn_iinc (jm_dc dc_16_2 15 rfl) (by decide)) (
  jm_gc (pu_goto _) (sn_goto (jm_dc dc_16_2 16 rfl) (by decide)) (
  jm_gc (pu_iload _ _) (sn_iload (jm_dc dc_16_2 17 rfl)) (
  jm_gc (pu_iret) (sn_iret (jm_dc dc_16_2 18 rfl) rfl) (
  jm_gn)))))))))))))))))))
theorem dc_17_0 : ([(0, .lload_n 2, 1), (1, .ldc2_w 117, 3), (4, .lcmp, 1), (5, .ifCond .lt 29, 3), (8, .lload_n 2, 1), (9, .ldc2_w 119, 3), (12, .lcmp, 1), (13, .ifCond .ge 21, 3), (16, .lload 4, 2), (18, .ldc2_w 117, 3), (21, .lcmp, 1), (22, .ifCond .lt 12, 3), (25, .lload 4, 2), (27, .ldc2_w 119, 3), (30, .lcmp, 1), (31, .ifCond .lt 5, 3), (34, .iconst 0, 1), (35, .ireturn, 1), (36, .aload_n 0, 1), (37, .getfield 9, 3), (40, .iload_n 1, 1), (41, .bipush 40, 2), (43, .imul, 1), (44, .bipush 20, 2), (46, .iadd, 1)] : List (Nat × Instr × Nat)).all (fun e => decide (decode prog_3_method_5_code e.1 = .ok e.2)) = true := by decide +kernel
abbrev cl_17_0 : List (Nat × jm_O) := [(0, op_lload 2 1), (1, op_lc (-20) 3), (4, op_lcmp), (5, op_iflt 34), (8, op_lload 2 1), (9, op_lc 20 3), (12, op_lcmp), (13, op_ifge 34), (16, op_lload 4 2), (18, op_lc (-20) 3), (21, op_lcmp), (22, op_iflt 34), (25, op_lload 4 2), (27, op_lc 20 3), (30, op_lcmp), (31, op_iflt 36), (34, op_ic 0 1), (35, op_zret), (36, op_aload 0 1), (37, op_getA 1 13), (40, op_iload 1 1), (41, op_ic 40 2), (43, op_ibin (fun x y => x * y)), (44, op_ic 20 2), (46, op_ibin (fun x y => x + y))]
set_option maxRecDepth 100000 in
theorem gl_17_0 : jm_gl "FrescoWall$Bit" prog_3_method_5_code 6 (Option.some Jvm.ClassFile.FieldType.boolean) false cl_17_0 :=
  jm_gc (pu_lload _ _) (sn_lload_n (i := 2) (jm_dc dc_17_0 0 rfl)) (
  jm_gc (pu_lc _ _) (sn_ldc2 (jm_dc dc_17_0 1 rfl) (kc_tb 970 (by decide +kernel))) (
  jm_gc (pu_lcmp) (sn_lcmp (jm_dc dc_17_0 2 rfl)) (
  jm_gc (pu_iflt _) (sn_iflt (jm_dc dc_17_0 3 rfl) (by decide)) (
  jm_gc (pu_lload _ _) (sn_lload_n (i := 2) (jm_dc dc_17_0 4 rfl)) (
  jm_gc (pu_lc _ _) (sn_ldc2 (jm_dc dc_17_0 5 rfl) (kc_tb 971 (by decide +kernel))) (
  jm_gc (pu_lcmp) (sn_lcmp (jm_dc dc_17_0 6 rfl)) (
  jm_gc (pu_ifge _) (sn_ifge (jm_dc dc_17_0 7 rfl) (by decide)) (
  jm_gc (pu_lload _ _) (sn_lload (jm_dc dc_17_0 8 rfl)) (
  jm_gc (pu_lc _ _) (sn_ldc2 (jm_dc dc_17_0 9 rfl) (kc_tb 970 (by decide +kernel))) (
  jm_gc (pu_lcmp) (sn_lcmp (jm_dc dc_17_0 10 rfl)) (
  jm_gc (pu_iflt _) (sn_iflt (jm_dc dc_17_0 11 rfl) (by decide)) (
  jm_gc (pu_lload _ _) (sn_lload (jm_dc dc_17_0 12 rfl)) (
  jm_gc (pu_lc _ _) (sn_ldc2 (jm_dc dc_17_0 13 rfl) (kc_tb 971 (by decide +kernel))) (
  jm_gc (pu_lcmp) (sn_lcmp (jm_dc dc_17_0 14 rfl)) (
  jm_gc (pu_iflt _) (sn_iflt (jm_dc dc_17_0 15 rfl) (by decide)) (
  jm_gc (pu_ic _ _) (sn_iconst (jm_dc dc_17_0 16 rfl) (by decide)) (
  jm_gc (pu_zret) (sn_zret (jm_dc dc_17_0 17 rfl) rfl) (
  jm_gc (pu_aload _ _) (sn_aload_n (i := 0) (jm_dc dc_17_0 18 rfl)) (
  jm_gc (pu_getA _ _) (sn_getA (jm_dc dc_17_0 19 rfl) fl_1_9 rfl) (
  jm_gc (pu_iload _ _) (sn_iload_n (i := 1) (jm_dc dc_17_0 20 rfl)) (
  jm_gc (pu_ic _ _) (sn_bipush (jm_dc dc_17_0 21 rfl) (by decide)) (
  jm_gc (pu_ibin _) (sn_imul (jm_dc dc_17_0 22 rfl)) (
  jm_gc (pu_ic _ _) (sn_bipush (jm_dc dc_17_0 23 rfl) (by decide)) (
  jm_gc (pu_ibin _) (sn_iadd (jm_dc dc_17_0 24 rfl)) (
  jm_gn)))))))))))))))))))))))))
theorem dc_17_1 : ([(47, .lload 4, 2), (49, .l2i, 1), (50, .iadd, 1), (51, .laload, 1), (52, .bipush 20, 2), (54, .lload_n 2, 1), (55, .l2i, 1), (56, .iadd, 1), (57, .lshr, 1), (58, .lconst 1, 1), (59, .land, 1), (60, .lconst 0, 1), (61, .lcmp, 1), (62, .ifCond .eq 7, 3), (65, .iconst 1, 1), (66, .goto 4, 3), (69, .iconst 0, 1), (70, .ireturn, 1)] : List (Nat × Instr × Nat)).all (fun e => decide (decode prog_3_method_5_code e.1 = .ok e.2)) = true := by decide +kernel
abbrev cl_17_1 : List (Nat × jm_O) := [(47, op_lload 4 2), (49, op_l2i), (50, op_ibin (fun x y => x + y)), (51, op_lald), (52, op_ic 20 2), (54, op_lload 2 1), (55, op_l2i), (56, op_ibin (fun x y => x + y)), (57, op_lsh (fun x y => x >>> (y.toInt64 &&& 63))), (58, op_lc 1 1), (59, op_lbin (fun x y => x &&& y)), (60, op_lc 0 1), (61, op_lcmp), (62, op_ifeq 69), (65, op_ic 1 1), (66, op_goto 70), (69, op_ic 0 1), (70, op_zret)]
set_option maxRecDepth 100000 in
theorem gl_17_1 : jm_gl "FrescoWall$Bit" prog_3_method_5_code 6 (Option.some Jvm.ClassFile.FieldType.boolean) false cl_17_1 :=
  jm_gc (pu_lload _ _) (sn_lload (jm_dc dc_17_1 0 rfl)) (
  jm_gc (pu_l2i) (sn_l2i (jm_dc dc_17_1 1 rfl)) (
  jm_gc (pu_ibin _) (sn_iadd (jm_dc dc_17_1 2 rfl)) (
  jm_gc (pu_lald) (sn_lald (jm_dc dc_17_1 3 rfl)) (
  jm_gc (pu_ic _ _) (sn_bipush (jm_dc dc_17_1 4 rfl) (by decide)) (
  jm_gc (pu_lload _ _) (sn_lload_n (i := 2) (jm_dc dc_17_1 5 rfl)) (
  jm_gc (pu_l2i) (sn_l2i (jm_dc dc_17_1 6 rfl)) (
  jm_gc (pu_ibin _) (sn_iadd (jm_dc dc_17_1 7 rfl)) (
  jm_gc (pu_lsh _) (sn_lshr (jm_dc dc_17_1 8 rfl)) (
  jm_gc (pu_lc _ _) (sn_lconst (jm_dc dc_17_1 9 rfl) (by decide)) (
  jm_gc (pu_lbin _) (sn_land (jm_dc dc_17_1 10 rfl)) (
  jm_gc (pu_lc _ _) (sn_lconst (jm_dc dc_17_1 11 rfl) (by decide)) (
  jm_gc (pu_lcmp) (sn_lcmp (jm_dc dc_17_1 12 rfl)) (
  jm_gc (pu_ifeq _) (sn_ifeq (jm_dc dc_17_1 13 rfl) (by decide)) (
  jm_gc (pu_ic _ _) (sn_iconst (jm_dc dc_17_1 14 rfl) (by decide)) (
  jm_gc (pu_goto _) (sn_goto (jm_dc dc_17_1 15 rfl) (by decide)) (
  jm_gc (pu_ic _ _) (sn_iconst (jm_dc dc_17_1 16 rfl) (by decide)) (
  jm_gc (pu_zret) (sn_zret (jm_dc dc_17_1 17 rfl) rfl) (
  jm_gn))))))))))))))))))
theorem dc_18_0 : ([(0, .aload_n 0, 1), (1, .iload_n 1, 1), (2, .invokevirtual 121, 3), (5, .istore 4, 2), (7, .aload_n 2, 1), (8, .iload_n 3, 1), (9, .invokevirtual 121, 3), (12, .istore 5, 2), (14, .aload_n 0, 1), (15, .getfield 40, 3), (18, .iload_n 1, 1), (19, .iaload, 1), (20, .aload_n 0, 1), (21, .getfield 40, 3), (24, .iload 4, 2), (26, .iaload, 1), (27, .isub, 1), (28, .istore 6, 2), (30, .aload_n 0, 1), (31, .getfield 46, 3), (34, .iload_n 1, 1), (35, .iaload, 1), (36, .aload_n 0, 1), (37, .getfield 46, 3), (40, .iload 4, 2)] : List (Nat × Instr × Nat)).all (fun e => decide (decode prog_3_method_6_code e.1 = .ok e.2)) = true := by decide +kernel
abbrev cl_18_0 : List (Nat × jm_O) := [(0, op_aload 0 1), (1, op_iload 1 1), (2, op_callV 1 15 2), (5, op_istore 4 2), (7, op_aload 2 1), (8, op_iload 3 1), (9, op_callV 1 15 2), (12, op_istore 5 2), (14, op_aload 0 1), (15, op_getA 1 4), (18, op_iload 1 1), (19, op_iald 13), (20, op_aload 0 1), (21, op_getA 1 4), (24, op_iload 4 2), (26, op_iald 13), (27, op_ibin (fun x y => x - y)), (28, op_istore 6 2), (30, op_aload 0 1), (31, op_getA 1 5), (34, op_iload 1 1), (35, op_iald 13), (36, op_aload 0 1), (37, op_getA 1 5), (40, op_iload 4 2)]
set_option maxRecDepth 100000 in
theorem gl_18_0 : jm_gl "FrescoWall$Bit" prog_3_method_6_code 10 (Option.some Jvm.ClassFile.FieldType.int) false cl_18_0 :=
  jm_gc (pu_aload _ _) (sn_aload_n (i := 0) (jm_dc dc_18_0 0 rfl)) (
  jm_gc (pu_iload _ _) (sn_iload_n (i := 1) (jm_dc dc_18_0 1 rfl)) (
  jm_gc (pu_callV _ _ _) (sn_callV (jm_dc dc_18_0 2 rfl) lk_1_121) (
  jm_gc (pu_istore _ _) (sn_istore (jm_dc dc_18_0 3 rfl)) (
  jm_gc (pu_aload _ _) (sn_aload_n (i := 2) (jm_dc dc_18_0 4 rfl)) (
  jm_gc (pu_iload _ _) (sn_iload_n (i := 3) (jm_dc dc_18_0 5 rfl)) (
  jm_gc (pu_callV _ _ _) (sn_callV (jm_dc dc_18_0 6 rfl) lk_1_121) (
  jm_gc (pu_istore _ _) (sn_istore (jm_dc dc_18_0 7 rfl)) (
  jm_gc (pu_aload _ _) (sn_aload_n (i := 0) (jm_dc dc_18_0 8 rfl)) (
  jm_gc (pu_getA _ _) (sn_getA (jm_dc dc_18_0 9 rfl) fl_1_40 rfl) (
  jm_gc (pu_iload _ _) (sn_iload_n (i := 1) (jm_dc dc_18_0 10 rfl)) (
  jm_gc (pu_iald _) (sn_iald (jm_dc dc_18_0 11 rfl)) (
  jm_gc (pu_aload _ _) (sn_aload_n (i := 0) (jm_dc dc_18_0 12 rfl)) (
  jm_gc (pu_getA _ _) (sn_getA (jm_dc dc_18_0 13 rfl) fl_1_40 rfl) (
  jm_gc (pu_iload _ _) (sn_iload (jm_dc dc_18_0 14 rfl)) (
  jm_gc (pu_iald _) (sn_iald (jm_dc dc_18_0 15 rfl)) (
  jm_gc (pu_ibin _) (sn_isub (jm_dc dc_18_0 16 rfl)) (
  jm_gc (pu_istore _ _) (sn_istore (jm_dc dc_18_0 17 rfl)) (
  jm_gc (pu_aload _ _) (sn_aload_n (i := 0) (jm_dc dc_18_0 18 rfl)) (
  jm_gc (pu_getA _ _) (sn_getA (jm_dc dc_18_0 19 rfl) fl_1_46 rfl) (
  jm_gc (pu_iload _ _) (sn_iload_n (i := 1) (jm_dc dc_18_0 20 rfl)) (
  jm_gc (pu_iald _) (sn_iald (jm_dc dc_18_0 21 rfl)) (
  jm_gc (pu_aload _ _) (sn_aload_n (i := 0) (jm_dc dc_18_0 22 rfl)) (
  jm_gc (pu_getA _ _) (sn_getA (jm_dc dc_18_0 23 rfl) fl_1_46 rfl) (
  jm_gc (pu_iload _ _) (sn_iload (jm_dc dc_18_0 24 rfl)) (
  jm_gn)))))))))))))))))))))))))
theorem dc_18_1 : ([(42, .iaload, 1), (43, .isub, 1), (44, .istore 7, 2), (46, .aload_n 2, 1), (47, .getfield 40, 3), (50, .iload 5, 2), (52, .iaload, 1), (53, .aload_n 2, 1), (54, .getfield 40, 3), (57, .iload_n 3, 1), (58, .iaload, 1), (59, .isub, 1), (60, .istore 8, 2), (62, .aload_n 2, 1), (63, .getfield 46, 3), (66, .iload 5, 2), (68, .iaload, 1), (69, .aload_n 2, 1), (70, .getfield 46, 3), (73, .iload_n 3, 1), (74, .iaload, 1), (75, .isub, 1), (76, .istore 9, 2), (78, .iload 8, 2), (80, .iload 6, 2)] : List (Nat × Instr × Nat)).all (fun e => decide (decode prog_3_method_6_code e.1 = .ok e.2)) = true := by decide +kernel
abbrev cl_18_1 : List (Nat × jm_O) := [(42, op_iald 13), (43, op_ibin (fun x y => x - y)), (44, op_istore 7 2), (46, op_aload 2 1), (47, op_getA 1 4), (50, op_iload 5 2), (52, op_iald 13), (53, op_aload 2 1), (54, op_getA 1 4), (57, op_iload 3 1), (58, op_iald 13), (59, op_ibin (fun x y => x - y)), (60, op_istore 8 2), (62, op_aload 2 1), (63, op_getA 1 5), (66, op_iload 5 2), (68, op_iald 13), (69, op_aload 2 1), (70, op_getA 1 5), (73, op_iload 3 1), (74, op_iald 13), (75, op_ibin (fun x y => x - y)), (76, op_istore 9 2), (78, op_iload 8 2), (80, op_iload 6 2)]
set_option maxRecDepth 100000 in
theorem gl_18_1 : jm_gl "FrescoWall$Bit" prog_3_method_6_code 10 (Option.some Jvm.ClassFile.FieldType.int) false cl_18_1 :=
  jm_gc (pu_iald _) (sn_iald (jm_dc dc_18_1 0 rfl)) (
  jm_gc (pu_ibin _) (sn_isub (jm_dc dc_18_1 1 rfl)) (
  jm_gc (pu_istore _ _) (sn_istore (jm_dc dc_18_1 2 rfl)) (
  jm_gc (pu_aload _ _) (sn_aload_n (i := 2) (jm_dc dc_18_1 3 rfl)) (
  jm_gc (pu_getA _ _) (sn_getA (jm_dc dc_18_1 4 rfl) fl_1_40 rfl) (
  jm_gc (pu_iload _ _) (sn_iload (jm_dc dc_18_1 5 rfl)) (
  jm_gc (pu_iald _) (sn_iald (jm_dc dc_18_1 6 rfl)) (
  jm_gc (pu_aload _ _) (sn_aload_n (i := 2) (jm_dc dc_18_1 7 rfl)) (
  jm_gc (pu_getA _ _) (sn_getA (jm_dc dc_18_1 8 rfl) fl_1_40 rfl) (
  jm_gc (pu_iload _ _) (sn_iload_n (i := 3) (jm_dc dc_18_1 9 rfl)) (
  jm_gc (pu_iald _) (sn_iald (jm_dc dc_18_1 10 rfl)) (
  jm_gc (pu_ibin _) (sn_isub (jm_dc dc_18_1 11 rfl)) (
  jm_gc (pu_istore _ _) (sn_istore (jm_dc dc_18_1 12 rfl)) (
  jm_gc (pu_aload _ _) (sn_aload_n (i := 2) (jm_dc dc_18_1 13 rfl)) (
  jm_gc (pu_getA _ _) (sn_getA (jm_dc dc_18_1 14 rfl) fl_1_46 rfl) (
  jm_gc (pu_iload _ _) (sn_iload (jm_dc dc_18_1 15 rfl)) (
  jm_gc (pu_iald _) (sn_iald (jm_dc dc_18_1 16 rfl)) (
  jm_gc (pu_aload _ _) (sn_aload_n (i := 2) (jm_dc dc_18_1 17 rfl)) (
  jm_gc (pu_getA _ _) (sn_getA (jm_dc dc_18_1 18 rfl) fl_1_46 rfl) (
  jm_gc (pu_iload _ _) (sn_iload_n (i := 3) (jm_dc dc_18_1 19 rfl)) (
  jm_gc (pu_iald _) (sn_iald (jm_dc dc_18_1 20 rfl)) (
  jm_gc (pu_ibin _) (sn_isub (jm_dc dc_18_1 21 rfl)) (
  jm_gc (pu_istore _ _) (sn_istore (jm_dc dc_18_1 22 rfl)) (
  jm_gc (pu_iload _ _) (sn_iload (jm_dc dc_18_1 23 rfl)) (
  jm_gc (pu_iload _ _) (sn_iload (jm_dc dc_18_1 24 rfl)) (
  jm_gn)))))))))))))))))))))))))
theorem dc_18_2 : ([(82, .if_icmp .ne 12, 3), (85, .iload 9, 2), (87, .iload 7, 2), (89, .if_icmp .ne 5, 3), (92, .iconst 0, 1), (93, .ireturn, 1), (94, .iload 9, 2), (96, .ineg, 1), (97, .iload 6, 2), (99, .if_icmp .ne 12, 3), (102, .iload 8, 2), (104, .iload 7, 2), (106, .if_icmp .ne 5, 3), (109, .iconst 1, 1), (110, .ireturn, 1), (111, .iload 8, 2), (113, .ineg, 1), (114, .iload 6, 2), (116, .if_icmp .ne 13, 3), (119, .iload 9, 2), (121, .ineg, 1), (122, .iload 7, 2), (124, .if_icmp .ne 5, 3), (127, .iconst 2, 1), (128, .ireturn, 1)] : List (Nat × Instr × Nat)).all (fun e => decide (decode prog_3_method_6_code e.1 = .ok e.2)) = true := by decide +kernel
abbrev cl_18_2 : List (Nat × jm_O) := [(82, op_cne 94), (85, op_iload 9 2), (87, op_iload 7 2), (89, op_cne 94), (92, op_ic 0 1), (93, op_iret), (94, op_iload 9 2), (96, op_iun (fun x => -x)), (97, op_iload 6 2), (99, op_cne 111), (102, op_iload 8 2), (104, op_iload 7 2), (106, op_cne 111), (109, op_ic 1 1), (110, op_iret), (111, op_iload 8 2), (113, op_iun (fun x => -x)), (114, op_iload 6 2), (116, op_cne 129), (119, op_iload 9 2), (121, op_iun (fun x => -x)), (122, op_iload 7 2), (124, op_cne 129), (127, op_ic 2 1), (128, op_iret)]
set_option maxRecDepth 100000 in
theorem gl_18_2 : jm_gl "FrescoWall$Bit" prog_3_method_6_code 10 (Option.some Jvm.ClassFile.FieldType.int) false cl_18_2 :=
  jm_gc (pu_cne _) (sn_cne (jm_dc dc_18_2 0 rfl) (by decide)) (
  jm_gc (pu_iload _ _) (sn_iload (jm_dc dc_18_2 1 rfl)) (
  jm_gc (pu_iload _ _) (sn_iload (jm_dc dc_18_2 2 rfl)) (
  jm_gc (pu_cne _) (sn_cne (jm_dc dc_18_2 3 rfl) (by decide)) (
  jm_gc (pu_ic _ _) (sn_iconst (jm_dc dc_18_2 4 rfl) (by decide)) (
  jm_gc (pu_iret) (sn_iret (jm_dc dc_18_2 5 rfl) rfl) (
  jm_gc (pu_iload _ _) (sn_iload (jm_dc dc_18_2 6 rfl)) (
  jm_gc (pu_iun _) (sn_ineg (jm_dc dc_18_2 7 rfl)) (
  jm_gc (pu_iload _ _) (sn_iload (jm_dc dc_18_2 8 rfl)) (
  jm_gc (pu_cne _) (sn_cne (jm_dc dc_18_2 9 rfl) (by decide)) (
  jm_gc (pu_iload _ _) (sn_iload (jm_dc dc_18_2 10 rfl)) (
  jm_gc (pu_iload _ _) (sn_iload (jm_dc dc_18_2 11 rfl)) (
  jm_gc (pu_cne _) (sn_cne (jm_dc dc_18_2 12 rfl) (by decide)) (
  jm_gc (pu_ic _ _) (sn_iconst (jm_dc dc_18_2 13 rfl) (by decide)) (
  jm_gc (pu_iret) (sn_iret (jm_dc dc_18_2 14 rfl) rfl) (
  jm_gc (pu_iload _ _) (sn_iload (jm_dc dc_18_2 15 rfl)) (
  jm_gc (pu_iun _) (sn_ineg (jm_dc dc_18_2 16 rfl)) (
  jm_gc (pu_iload _ _) (sn_iload (jm_dc dc_18_2 17 rfl)) (
  jm_gc (pu_cne _) (sn_cne (jm_dc dc_18_2 18 rfl) (by decide)) (
  jm_gc (pu_iload _ _) (sn_iload (jm_dc dc_18_2 19 rfl)) (
  jm_gc (pu_iun _) (sn_ineg (jm_dc dc_18_2 20 rfl)) (
  jm_gc (pu_iload _ _) (sn_iload (jm_dc dc_18_2 21 rfl)) (
  jm_gc (pu_cne _) (sn_cne (jm_dc dc_18_2 22 rfl) (by decide)) (
  jm_gc (pu_ic _ _) (sn_iconst (jm_dc dc_18_2 23 rfl) (by decide)) (
  jm_gc (pu_iret) (sn_iret (jm_dc dc_18_2 24 rfl) rfl) (
  jm_gn)))))))))))))))))))))))))
theorem dc_18_3 : ([(129, .iload 9, 2), (131, .iload 6, 2), (133, .if_icmp .ne 15, 3), (136, .iload 8, 2), (138, .ineg, 1), (139, .iload 7, 2), (141, .if_icmp .ne 7, 3), (144, .iconst 3, 1), (145, .goto 4, 3), (148, .iconst (-1), 1), (149, .ireturn, 1)] : List (Nat × Instr × Nat)).all (fun e => decide (decode prog_3_method_6_code e.1 = .ok e.2)) = true := by decide +kernel
abbrev cl_18_3 : List (Nat × jm_O) := [(129, op_iload 9 2), (131, op_iload 6 2), (133, op_cne 148), (136, op_iload 8 2), (138, op_iun (fun x => -x)), (139, op_iload 7 2), (141, op_cne 148), (144, op_ic 3 1), (145, op_goto 149), (148, op_ic (-1) 1), (149, op_iret)]
set_option maxRecDepth 100000 in
theorem gl_18_3 : jm_gl "FrescoWall$Bit" prog_3_method_6_code 10 (Option.some Jvm.ClassFile.FieldType.int) false cl_18_3 :=
  jm_gc (pu_iload _ _) (sn_iload (jm_dc dc_18_3 0 rfl)) (
  jm_gc (pu_iload _ _) (sn_iload (jm_dc dc_18_3 1 rfl)) (
  jm_gc (pu_cne _) (sn_cne (jm_dc dc_18_3 2 rfl) (by decide)) (
  jm_gc (pu_iload _ _) (sn_iload (jm_dc dc_18_3 3 rfl)) (
  jm_gc (pu_iun _) (sn_ineg (jm_dc dc_18_3 4 rfl)) (
  jm_gc (pu_iload _ _) (sn_iload (jm_dc dc_18_3 5 rfl)) (
  jm_gc (pu_cne _) (sn_cne (jm_dc dc_18_3 6 rfl) (by decide)) (
  jm_gc (pu_ic _ _) (sn_iconst (jm_dc dc_18_3 7 rfl) (by decide)) (
  jm_gc (pu_goto _) (sn_goto (jm_dc dc_18_3 8 rfl) (by decide)) (
  jm_gc (pu_ic _ _) (sn_iconst (jm_dc dc_18_3 9 rfl) (by decide)) (
  jm_gc (pu_iret) (sn_iret (jm_dc dc_18_3 10 rfl) rfl) (
  jm_gn)))))))))))
theorem dc_29_0 : ([(0, .aload_n 0, 1), (1, .invokespecial 3, 3), (4, .aload_n 0, 1), (5, .bipush 30, 2), (7, .anewarray 9, 3), (10, .putfield 11, 3), (13, .aload_n 0, 1), (14, .bipush 100, 2), (16, .newarray .int, 2), (18, .putfield 17, 3), (21, .aload_n 0, 1), (22, .sipush 240, 3), (25, .newarray .int, 2), (27, .putfield 21, 3), (30, .iconst 0, 1), (31, .istore_n 1, 1), (32, .iload_n 1, 1), (33, .bipush 10, 2), (35, .if_icmp .ge 20, 3), (38, .aload_n 0, 1), (39, .getfield 17, 3), (42, .bipush 11, 2), (44, .iload_n 1, 1), (45, .imul, 1), (46, .bipush 9, 2)] : List (Nat × Instr × Nat)).all (fun e => decide (decode prog_5_method_1_code e.1 = .ok e.2)) = true := by decide +kernel
abbrev cl_29_0 : List (Nat × jm_O) := [(0, op_aload 0 1), (1, op_objInit), (4, op_aload 0 1), (5, op_ic 30 2), (7, op_newa 16 3), (10, op_putA 3 0), (13, op_aload 0 1), (14, op_ic 100 2), (16, op_newa 13 2), (18, op_putA 3 3), (21, op_aload 0 1), (22, op_ic 240 3), (25, op_newa 13 2), (27, op_putA 3 4), (30, op_ic 0 1), (31, op_istore 1 1), (32, op_iload 1 1), (33, op_ic 10 2), (35, op_cge 55), (38, op_aload 0 1), (39, op_getA 3 3), (42, op_ic 11 2), (44, op_iload 1 1), (45, op_ibin (fun x y => x * y)), (46, op_ic 9 2)]
set_option maxRecDepth 100000 in
theorem gl_29_0 : jm_gl "FrescoWall$Fits" prog_5_method_1_code 2 (Option.none : Option Jvm.ClassFile.FieldType) true cl_29_0 :=
  jm_gc (pu_aload _ _) (sn_aload_n (i := 0) (jm_dc dc_29_0 0 rfl)) (
  jm_gc (pu_objInit) (sn_objInit (jm_dc dc_29_0 1 rfl) ⟨kc_tb 97 (by decide +kernel), kc_tb 23 (by decide +kernel), kc_tb 24 (by decide +kernel)⟩) (
  jm_gc (pu_aload _ _) (sn_aload_n (i := 0) (jm_dc dc_29_0 2 rfl)) (
  jm_gc (pu_ic _ _) (sn_bipush (jm_dc dc_29_0 3 rfl) (by decide)) (
  jm_gc (pu_newa _ _) (sn_newQ (jm_dc dc_29_0 4 rfl) (kc_tb 98 (by decide +kernel)) (kc_tb 99 (by decide +kernel))) (
  jm_gc (pu_putA _ _) (sn_putAF (jm_dc dc_29_0 5 rfl) flw_3_11 rfl rfl) (
  jm_gc (pu_aload _ _) (sn_aload_n (i := 0) (jm_dc dc_29_0 6 rfl)) (
  jm_gc (pu_ic _ _) (sn_bipush (jm_dc dc_29_0 7 rfl) (by decide)) (
  jm_gc (pu_newa _ _) (sn_newI (jm_dc dc_29_0 8 rfl) (kc_tb 91 (by decide +kernel))) (
  jm_gc (pu_putA _ _) (sn_putAF (jm_dc dc_29_0 9 rfl) flw_3_17 rfl rfl) (
  jm_gc (pu_aload _ _) (sn_aload_n (i := 0) (jm_dc dc_29_0 10 rfl)) (
  jm_gc (pu_ic _ _) (sn_sipush (jm_dc dc_29_0 11 rfl) (by decide)) (
  jm_gc (pu_newa _ _) (sn_newI (jm_dc dc_29_0 12 rfl) (kc_tb 91 (by decide +kernel))) (
  jm_gc (pu_putA _ _) (sn_putAF (jm_dc dc_29_0 13 rfl) flw_3_21 rfl rfl) (
  jm_gc (pu_ic _ _) (sn_iconst (jm_dc dc_29_0 14 rfl) (by decide)) (
  jm_gc (pu_istore _ _) (sn_istore_n (i := 1) (jm_dc dc_29_0 15 rfl)) (
  jm_gc (pu_iload _ _) (sn_iload_n (i := 1) (jm_dc dc_29_0 16 rfl)) (
  jm_gc (pu_ic _ _) (sn_bipush (jm_dc dc_29_0 17 rfl) (by decide)) (
  jm_gc (pu_cge _) (sn_cge (jm_dc dc_29_0 18 rfl) (by decide)) (
  jm_gc (pu_aload _ _) (sn_aload_n (i := 0) (jm_dc dc_29_0 19 rfl)) (
  jm_gc (pu_getA _ _) (sn_getA (jm_dc dc_29_0 20 rfl) fl_3_17 rfl) (
  jm_gc (pu_ic _ _) (sn_bipush (jm_dc dc_29_0 21 rfl) (by decide)) (
  jm_gc (pu_iload _ _) (sn_iload_n (i := 1) (jm_dc dc_29_0 22 rfl)) (
  jm_gc (pu_ibin _) (sn_imul (jm_dc dc_29_0 23 rfl)) (
  jm_gc (pu_ic _ _) (sn_bipush (jm_dc dc_29_0 24 rfl) (by decide)) (
  jm_gn)))))))))))))))))))))))))
theorem dc_29_1 : ([(48, .iastore, 1), (49, .iinc 1 1, 3), (52, .goto (-20), 3), (55, .return_, 1)] : List (Nat × Instr × Nat)).all (fun e => decide (decode prog_5_method_1_code e.1 = .ok e.2)) = true := by decide +kernel
abbrev cl_29_1 : List (Nat × jm_O) := [(48, op_iast), (49, op_iinc 1 1), (52, op_goto 32), (55, op_vret)]
set_option maxRecDepth 100000 in
theorem gl_29_1 : jm_gl "FrescoWall$Fits" prog_5_method_1_code 2 (Option.none : Option Jvm.ClassFile.FieldType) true cl_29_1 :=
  jm_gc (pu_iast) (sn_iast (jm_dc dc_29_1 0 rfl)) (
  jm_gc (pu_iinc _ _) (sn_iinc (jm_dc dc_29_1 1 rfl) (by decide)) (
  jm_gc (pu_goto _) (sn_goto (jm_dc dc_29_1 2 rfl) (by decide)) (
  jm_gc (pu_vret) (sn_vret (jm_dc dc_29_1 3 rfl) rfl) (
  jm_gn))))
theorem dc_30_0 : ([(0, .aload_n 0, 1), (1, .getfield 24, 3), (4, .bipush 30, 2), (6, .if_icmp .ge 23, 3), (9, .aload_n 0, 1), (10, .getfield 11, 3), (13, .aload_n 0, 1), (14, .getfield 24, 3), (17, .aload_n 1, 1), (18, .aastore, 1), (19, .aload_n 0, 1), (20, .dup, 1), (21, .getfield 24, 3), (24, .iconst 1, 1), (25, .iadd, 1), (26, .putfield 24, 3), (29, .return_, 1)] : List (Nat × Instr × Nat)).all (fun e => decide (decode prog_5_method_2_code e.1 = .ok e.2)) = true := by decide +kernel
abbrev cl_30_0 : List (Nat × jm_O) := [(0, op_aload 0 1), (1, op_getI 3 1), (4, op_ic 30 2), (6, op_cge 29), (9, op_aload 0 1), (10, op_getA 3 0), (13, op_aload 0 1), (14, op_getI 3 1), (17, op_aload 1 1), (18, op_aast), (19, op_aload 0 1), (20, op_dup), (21, op_getI 3 1), (24, op_ic 1 1), (25, op_ibin (fun x y => x + y)), (26, op_putI 3 1), (29, op_vret)]
set_option maxRecDepth 100000 in
theorem gl_30_0 : jm_gl "FrescoWall$Fits" prog_5_method_2_code 2 (Option.none : Option Jvm.ClassFile.FieldType) false cl_30_0 :=
  jm_gc (pu_aload _ _) (sn_aload_n (i := 0) (jm_dc dc_30_0 0 rfl)) (
  jm_gc (pu_getI _ _) (sn_getI (jm_dc dc_30_0 1 rfl) fl_3_24 (Or.inl rfl)) (
  jm_gc (pu_ic _ _) (sn_bipush (jm_dc dc_30_0 2 rfl) (by decide)) (
  jm_gc (pu_cge _) (sn_cge (jm_dc dc_30_0 3 rfl) (by decide)) (
  jm_gc (pu_aload _ _) (sn_aload_n (i := 0) (jm_dc dc_30_0 4 rfl)) (
  jm_gc (pu_getA _ _) (sn_getA (jm_dc dc_30_0 5 rfl) fl_3_11 rfl) (
  jm_gc (pu_aload _ _) (sn_aload_n (i := 0) (jm_dc dc_30_0 6 rfl)) (
  jm_gc (pu_getI _ _) (sn_getI (jm_dc dc_30_0 7 rfl) fl_3_24 (Or.inl rfl)) (
  jm_gc (pu_aload _ _) (sn_aload_n (i := 1) (jm_dc dc_30_0 8 rfl)) (
  jm_gc (pu_aast) (sn_aast (jm_dc dc_30_0 9 rfl)) (
  jm_gc (pu_aload _ _) (sn_aload_n (i := 0) (jm_dc dc_30_0 10 rfl)) (
  jm_gc (pu_dup) (sn_dup (jm_dc dc_30_0 11 rfl)) (
  jm_gc (pu_getI _ _) (sn_getI (jm_dc dc_30_0 12 rfl) fl_3_24 (Or.inl rfl)) (
  jm_gc (pu_ic _ _) (sn_iconst (jm_dc dc_30_0 13 rfl) (by decide)) (
  jm_gc (pu_ibin _) (sn_iadd (jm_dc dc_30_0 14 rfl)) (
  jm_gc (pu_putI _ _) (sn_putI (jm_dc dc_30_0 15 rfl) flw_3_24 rfl) (
  jm_gc (pu_vret) (sn_vret (jm_dc dc_30_0 16 rfl) rfl) (
  jm_gn)))))))))))))))))
theorem dc_31_0 : ([(0, .iconst 1, 1), (1, .aload_n 0, 1), (2, .getfield 24, 3), (5, .ishl, 1), (6, .iconst 1, 1), (7, .isub, 1), (8, .ireturn, 1)] : List (Nat × Instr × Nat)).all (fun e => decide (decode prog_5_method_3_code e.1 = .ok e.2)) = true := by decide +kernel
abbrev cl_31_0 : List (Nat × jm_O) := [(0, op_ic 1 1), (1, op_aload 0 1), (2, op_getI 3 1), (5, op_ibin (fun x y => x <<< (y &&& 31))), (6, op_ic 1 1), (7, op_ibin (fun x y => x - y)), (8, op_iret)]
set_option maxRecDepth 100000 in
theorem gl_31_0 : jm_gl "FrescoWall$Fits" prog_5_method_3_code 1 (Option.some Jvm.ClassFile.FieldType.int) false cl_31_0 :=
  jm_gc (pu_ic _ _) (sn_iconst (jm_dc dc_31_0 0 rfl) (by decide)) (
  jm_gc (pu_aload _ _) (sn_aload_n (i := 0) (jm_dc dc_31_0 1 rfl)) (
  jm_gc (pu_getI _ _) (sn_getI (jm_dc dc_31_0 2 rfl) fl_3_24 (Or.inl rfl)) (
  jm_gc (pu_ibin _) (sn_ishl (jm_dc dc_31_0 3 rfl)) (
  jm_gc (pu_ic _ _) (sn_iconst (jm_dc dc_31_0 4 rfl) (by decide)) (
  jm_gc (pu_ibin _) (sn_isub (jm_dc dc_31_0 5 rfl)) (
  jm_gc (pu_iret) (sn_iret (jm_dc dc_31_0 6 rfl) rfl) (
  jm_gn)))))))
theorem dc_32_0 : ([(0, .aload_n 0, 1), (1, .getfield 11, 3), (4, .iload_n 1, 1), (5, .aaload, 1), (6, .astore 5, 2), (8, .aload_n 0, 1), (9, .getfield 11, 3), (12, .iload_n 3, 1), (13, .aaload, 1), (14, .astore 6, 2), (16, .iload_n 1, 1), (17, .iload_n 3, 1), (18, .if_icmp .eq 16, 3), (21, .aload 5, 2), (23, .getfield 28, 3), (26, .aload 6, 2), (28, .getfield 28, 3), (31, .if_icmp .eq 7, 3), (34, .iconst (-1), 1), (35, .goto 13, 3), (38, .aload 5, 2), (40, .iload_n 2, 1), (41, .aload 6, 2), (43, .iload 4, 2), (45, .invokevirtual 31, 3)] : List (Nat × Instr × Nat)).all (fun e => decide (decode prog_5_method_4_code e.1 = .ok e.2)) = true := by decide +kernel
abbrev cl_32_0 : List (Nat × jm_O) := [(0, op_aload 0 1), (1, op_getA 3 0), (4, op_iload 1 1), (5, op_aald), (6, op_astore 5 2), (8, op_aload 0 1), (9, op_getA 3 0), (12, op_iload 3 1), (13, op_aald), (14, op_astore 6 2), (16, op_iload 1 1), (17, op_iload 3 1), (18, op_ceq 34), (21, op_aload 5 2), (23, op_getI 1 2), (26, op_aload 6 2), (28, op_getI 1 2), (31, op_ceq 38), (34, op_ic (-1) 1), (35, op_goto 48), (38, op_aload 5 2), (40, op_iload 2 1), (41, op_aload 6 2), (43, op_iload 4 2), (45, op_callV 1 18 4)]
set_option maxRecDepth 100000 in
theorem gl_32_0 : jm_gl "FrescoWall$Fits" prog_5_method_4_code 11 (Option.some Jvm.ClassFile.FieldType.long) false cl_32_0 :=
  jm_gc (pu_aload _ _) (sn_aload_n (i := 0) (jm_dc dc_32_0 0 rfl)) (
  jm_gc (pu_getA _ _) (sn_getA (jm_dc dc_32_0 1 rfl) fl_3_11 rfl) (
  jm_gc (pu_iload _ _) (sn_iload_n (i := 1) (jm_dc dc_32_0 2 rfl)) (
  jm_gc (pu_aald) (sn_aald (jm_dc dc_32_0 3 rfl)) (
  jm_gc (pu_astore _ _) (sn_astore (jm_dc dc_32_0 4 rfl)) (
  jm_gc (pu_aload _ _) (sn_aload_n (i := 0) (jm_dc dc_32_0 5 rfl)) (
  jm_gc (pu_getA _ _) (sn_getA (jm_dc dc_32_0 6 rfl) fl_3_11 rfl) (
  jm_gc (pu_iload _ _) (sn_iload_n (i := 3) (jm_dc dc_32_0 7 rfl)) (
  jm_gc (pu_aald) (sn_aald (jm_dc dc_32_0 8 rfl)) (
  jm_gc (pu_astore _ _) (sn_astore (jm_dc dc_32_0 9 rfl)) (
  jm_gc (pu_iload _ _) (sn_iload_n (i := 1) (jm_dc dc_32_0 10 rfl)) (
  jm_gc (pu_iload _ _) (sn_iload_n (i := 3) (jm_dc dc_32_0 11 rfl)) (
  jm_gc (pu_ceq _) (sn_ceq (jm_dc dc_32_0 12 rfl) (by decide)) (
  jm_gc (pu_aload _ _) (sn_aload (jm_dc dc_32_0 13 rfl)) (
  jm_gc (pu_getI _ _) (sn_getI (jm_dc dc_32_0 14 rfl) fl_3_28 (Or.inl rfl)) (
  jm_gc (pu_aload _ _) (sn_aload (jm_dc dc_32_0 15 rfl)) (
  jm_gc (pu_getI _ _) (sn_getI (jm_dc dc_32_0 16 rfl) fl_3_28 (Or.inl rfl)) (
  jm_gc (pu_ceq _) (sn_ceq (jm_dc dc_32_0 17 rfl) (by decide)) (
  jm_gc (pu_ic _ _) (sn_iconst (jm_dc dc_32_0 18 rfl) (by decide)) (
  jm_gc (pu_goto _) (sn_goto (jm_dc dc_32_0 19 rfl) (by decide)) (
  jm_gc (pu_aload _ _) (sn_aload (jm_dc dc_32_0 20 rfl)) (
  jm_gc (pu_iload _ _) (sn_iload_n (i := 2) (jm_dc dc_32_0 21 rfl)) (
  jm_gc (pu_aload _ _) (sn_aload (jm_dc dc_32_0 22 rfl)) (
  jm_gc (pu_iload _ _) (sn_iload (jm_dc dc_32_0 23 rfl)) (
  jm_gc (pu_callV _ _ _) (sn_callV (jm_dc dc_32_0 24 rfl) lk_3_31) (
  jm_gn)))))))))))))))))))))))))
theorem dc_32_1 : ([(48, .istore 7, 2), (50, .iload 7, 2), (52, .ifCond .ge 7, 3), (55, .ldc2_w 37, 3), (58, .lreturn, 1), (59, .aload 5, 2), (61, .iload_n 2, 1), (62, .invokevirtual 39, 3), (65, .istore 8, 2), (67, .aload 5, 2), (69, .getfield 43, 3), (72, .iload 8, 2), (74, .iaload, 1), (75, .iload 7, 2), (77, .aload 6, 2), (79, .getfield 43, 3), (82, .iload 4, 2), (84, .iaload, 1), (85, .aload 6, 2), (87, .getfield 46, 3), (90, .iload 4, 2), (92, .iaload, 1), (93, .invokestatic 49, 3), (96, .isub, 1), (97, .istore 9, 2)] : List (Nat × Instr × Nat)).all (fun e => decide (decode prog_5_method_4_code e.1 = .ok e.2)) = true := by decide +kernel
abbrev cl_32_1 : List (Nat × jm_O) := [(48, op_istore 7 2), (50, op_iload 7 2), (52, op_ifge 59), (55, op_lc (-1) 3), (58, op_lret), (59, op_aload 5 2), (61, op_iload 2 1), (62, op_callV 1 15 2), (65, op_istore 8 2), (67, op_aload 5 2), (69, op_getA 1 4), (72, op_iload 8 2), (74, op_iald 13), (75, op_iload 7 2), (77, op_aload 6 2), (79, op_getA 1 4), (82, op_iload 4 2), (84, op_iald 13), (85, op_aload 6 2), (87, op_getA 1 5), (90, op_iload 4 2), (92, op_iald 13), (93, op_callS 309 3), (96, op_ibin (fun x y => x - y)), (97, op_istore 9 2)]
set_option maxRecDepth 100000 in
theorem gl_32_1 : jm_gl "FrescoWall$Fits" prog_5_method_4_code 11 (Option.some Jvm.ClassFile.FieldType.long) false cl_32_1 :=
  jm_gc (pu_istore _ _) (sn_istore (jm_dc dc_32_1 0 rfl)) (
  jm_gc (pu_iload _ _) (sn_iload (jm_dc dc_32_1 1 rfl)) (
  jm_gc (pu_ifge _) (sn_ifge (jm_dc dc_32_1 2 rfl) (by decide)) (
  jm_gc (pu_lc _ _) (sn_ldc2 (jm_dc dc_32_1 3 rfl) (kc_tb 684 (by decide +kernel))) (
  jm_gc (pu_lret) (sn_lret (jm_dc dc_32_1 4 rfl) rfl) (
  jm_gc (pu_aload _ _) (sn_aload (jm_dc dc_32_1 5 rfl)) (
  jm_gc (pu_iload _ _) (sn_iload_n (i := 2) (jm_dc dc_32_1 6 rfl)) (
  jm_gc (pu_callV _ _ _) (sn_callV (jm_dc dc_32_1 7 rfl) lk_3_39) (
  jm_gc (pu_istore _ _) (sn_istore (jm_dc dc_32_1 8 rfl)) (
  jm_gc (pu_aload _ _) (sn_aload (jm_dc dc_32_1 9 rfl)) (
  jm_gc (pu_getA _ _) (sn_getA (jm_dc dc_32_1 10 rfl) fl_3_43 rfl) (
  jm_gc (pu_iload _ _) (sn_iload (jm_dc dc_32_1 11 rfl)) (
  jm_gc (pu_iald _) (sn_iald (jm_dc dc_32_1 12 rfl)) (
  jm_gc (pu_iload _ _) (sn_iload (jm_dc dc_32_1 13 rfl)) (
  jm_gc (pu_aload _ _) (sn_aload (jm_dc dc_32_1 14 rfl)) (
  jm_gc (pu_getA _ _) (sn_getA (jm_dc dc_32_1 15 rfl) fl_3_43 rfl) (
  jm_gc (pu_iload _ _) (sn_iload (jm_dc dc_32_1 16 rfl)) (
  jm_gc (pu_iald _) (sn_iald (jm_dc dc_32_1 17 rfl)) (
  jm_gc (pu_aload _ _) (sn_aload (jm_dc dc_32_1 18 rfl)) (
  jm_gc (pu_getA _ _) (sn_getA (jm_dc dc_32_1 19 rfl) fl_3_46 rfl) (
  jm_gc (pu_iload _ _) (sn_iload (jm_dc dc_32_1 20 rfl)) (
  jm_gc (pu_iald _) (sn_iald (jm_dc dc_32_1 21 rfl)) (
  jm_gc (pu_callS _ _) (sn_callS (jm_dc dc_32_1 22 rfl) lk_3_49) (
  jm_gc (pu_ibin _) (sn_isub (jm_dc dc_32_1 23 rfl)) (
  jm_gc (pu_istore _ _) (sn_istore (jm_dc dc_32_1 24 rfl)) (
  jm_gn)))))))))))))))))))))))))
theorem dc_32_2 : ([(99, .aload 5, 2), (101, .getfield 46, 3), (104, .iload 8, 2), (106, .iaload, 1), (107, .iload 7, 2), (109, .aload 6, 2), (111, .getfield 43, 3), (114, .iload 4, 2), (116, .iaload, 1), (117, .aload 6, 2), (119, .getfield 46, 3), (122, .iload 4, 2), (124, .iaload, 1), (125, .invokestatic 53, 3), (128, .isub, 1), (129, .istore 10, 2), (131, .aload 5, 2), (133, .iconst 0, 1), (134, .aload 6, 2), (136, .iload 7, 2), (138, .iload 9, 2), (140, .iload 10, 2), (142, .invokevirtual 56, 3), (145, .aload_n 0, 1), (146, .getfield 60, 3)] : List (Nat × Instr × Nat)).all (fun e => decide (decode prog_5_method_4_code e.1 = .ok e.2)) = true := by decide +kernel
abbrev cl_32_2 : List (Nat × jm_O) := [(99, op_aload 5 2), (101, op_getA 1 5), (104, op_iload 8 2), (106, op_iald 13), (107, op_iload 7 2), (109, op_aload 6 2), (111, op_getA 1 4), (114, op_iload 4 2), (116, op_iald 13), (117, op_aload 6 2), (119, op_getA 1 5), (122, op_iload 4 2), (124, op_iald 13), (125, op_callS 310 3), (128, op_ibin (fun x y => x - y)), (129, op_istore 10 2), (131, op_aload 5 2), (133, op_ic 0 1), (134, op_aload 6 2), (136, op_iload 7 2), (138, op_iload 9 2), (140, op_iload 10 2), (142, op_callV 1 16 6), (145, op_aload 0 1), (146, op_getI 3 2)]
set_option maxRecDepth 100000 in
theorem gl_32_2 : jm_gl "FrescoWall$Fits" prog_5_method_4_code 11 (Option.some Jvm.ClassFile.FieldType.long) false cl_32_2 :=
  jm_gc (pu_aload _ _) (sn_aload (jm_dc dc_32_2 0 rfl)) (
  jm_gc (pu_getA _ _) (sn_getA (jm_dc dc_32_2 1 rfl) fl_3_46 rfl) (
  jm_gc (pu_iload _ _) (sn_iload (jm_dc dc_32_2 2 rfl)) (
  jm_gc (pu_iald _) (sn_iald (jm_dc dc_32_2 3 rfl)) (
  jm_gc (pu_iload _ _) (sn_iload (jm_dc dc_32_2 4 rfl)) (
  jm_gc (pu_aload _ _) (sn_aload (jm_dc dc_32_2 5 rfl)) (
  jm_gc (pu_getA _ _) (sn_getA (jm_dc dc_32_2 6 rfl) fl_3_43 rfl) (
  jm_gc (pu_iload _ _) (sn_iload (jm_dc dc_32_2 7 rfl)) (
  jm_gc (pu_iald _) (sn_iald (jm_dc dc_32_2 8 rfl)) (
  jm_gc (pu_aload _ _) (sn_aload (jm_dc dc_32_2 9 rfl)) (
  jm_gc (pu_getA _ _) (sn_getA (jm_dc dc_32_2 10 rfl) fl_3_46 rfl) (
  jm_gc (pu_iload _ _) (sn_iload (jm_dc dc_32_2 11 rfl)) (
  jm_gc (pu_iald _) (sn_iald (jm_dc dc_32_2 12 rfl)) (
  jm_gc (pu_callS _ _) (sn_callS (jm_dc dc_32_2 13 rfl) lk_3_53) (
  jm_gc (pu_ibin _) (sn_isub (jm_dc dc_32_2 14 rfl)) (
  jm_gc (pu_istore _ _) (sn_istore (jm_dc dc_32_2 15 rfl)) (
  jm_gc (pu_aload _ _) (sn_aload (jm_dc dc_32_2 16 rfl)) (
  jm_gc (pu_ic _ _) (sn_iconst (jm_dc dc_32_2 17 rfl) (by decide)) (
  jm_gc (pu_aload _ _) (sn_aload (jm_dc dc_32_2 18 rfl)) (
  jm_gc (pu_iload _ _) (sn_iload (jm_dc dc_32_2 19 rfl)) (
  jm_gc (pu_iload _ _) (sn_iload (jm_dc dc_32_2 20 rfl)) (
  jm_gc (pu_iload _ _) (sn_iload (jm_dc dc_32_2 21 rfl)) (
  jm_gc (pu_callV _ _ _) (sn_callV (jm_dc dc_32_2 22 rfl) lk_3_56) (
  jm_gc (pu_aload _ _) (sn_aload_n (i := 0) (jm_dc dc_32_2 23 rfl)) (
  jm_gc (pu_getI _ _) (sn_getI (jm_dc dc_32_2 24 rfl) fl_3_60 (Or.inl rfl)) (
  jm_gn)))))))))))))))))))))))))
theorem dc_32_3 : ([(149, .if_icmp .gt 15, 3), (152, .iload 7, 2), (154, .iload 9, 2), (156, .iload 10, 2), (158, .invokestatic 63, 3), (161, .goto 6, 3), (164, .ldc2_w 37, 3), (167, .lreturn, 1)] : List (Nat × Instr × Nat)).all (fun e => decide (decode prog_5_method_4_code e.1 = .ok e.2)) = true := by decide +kernel
abbrev cl_32_3 : List (Nat × jm_O) := [(149, op_cgt 164), (152, op_iload 7 2), (154, op_iload 9 2), (156, op_iload 10 2), (158, op_callS 305 3), (161, op_goto 167), (164, op_lc (-1) 3), (167, op_lret)]
set_option maxRecDepth 100000 in
theorem gl_32_3 : jm_gl "FrescoWall$Fits" prog_5_method_4_code 11 (Option.some Jvm.ClassFile.FieldType.long) false cl_32_3 :=
  jm_gc (pu_cgt _) (sn_cgt (jm_dc dc_32_3 0 rfl) (by decide)) (
  jm_gc (pu_iload _ _) (sn_iload (jm_dc dc_32_3 1 rfl)) (
  jm_gc (pu_iload _ _) (sn_iload (jm_dc dc_32_3 2 rfl)) (
  jm_gc (pu_iload _ _) (sn_iload (jm_dc dc_32_3 3 rfl)) (
  jm_gc (pu_callS _ _) (sn_callS (jm_dc dc_32_3 4 rfl) lk_3_63) (
  jm_gc (pu_goto _) (sn_goto (jm_dc dc_32_3 5 rfl) (by decide)) (
  jm_gc (pu_lc _ _) (sn_ldc2 (jm_dc dc_32_3 6 rfl) (kc_tb 684 (by decide +kernel))) (
  jm_gc (pu_lret) (sn_lret (jm_dc dc_32_3 7 rfl) rfl) (
  jm_gn))))))))
theorem dc_33_0 : ([(0, .aload_n 0, 1), (1, .getfield 11, 3), (4, .iload_n 1, 1), (5, .aaload, 1), (6, .astore 6, 2), (8, .aload_n 0, 1), (9, .getfield 11, 3), (12, .iload_n 3, 1), (13, .aaload, 1), (14, .astore 7, 2), (16, .iconst 2, 1), (17, .aload_n 0, 1), (18, .getfield 17, 3), (21, .bipush 10, 2), (23, .aload 6, 2), (25, .getfield 67, 3), (28, .iload_n 2, 1), (29, .iaload, 1), (30, .imul, 1), (31, .aload 7, 2), (33, .getfield 67, 3), (36, .iload 4, 2), (38, .iaload, 1), (39, .iadd, 1), (40, .iaload, 1)] : List (Nat × Instr × Nat)).all (fun e => decide (decode prog_5_method_5_code e.1 = .ok e.2)) = true := by decide +kernel
abbrev cl_33_0 : List (Nat × jm_O) := [(0, op_aload 0 1), (1, op_getA 3 0), (4, op_iload 1 1), (5, op_aald), (6, op_astore 6 2), (8, op_aload 0 1), (9, op_getA 3 0), (12, op_iload 3 1), (13, op_aald), (14, op_astore 7 2), (16, op_ic 2 1), (17, op_aload 0 1), (18, op_getA 3 3), (21, op_ic 10 2), (23, op_aload 6 2), (25, op_getA 1 6), (28, op_iload 2 1), (29, op_iald 13), (30, op_ibin (fun x y => x * y)), (31, op_aload 7 2), (33, op_getA 1 6), (36, op_iload 4 2), (38, op_iald 13), (39, op_ibin (fun x y => x + y)), (40, op_iald 13)]
set_option maxRecDepth 100000 in
theorem gl_33_0 : jm_gl "FrescoWall$Fits" prog_5_method_5_code 9 (Option.some Jvm.ClassFile.FieldType.int) false cl_33_0 :=
  jm_gc (pu_aload _ _) (sn_aload_n (i := 0) (jm_dc dc_33_0 0 rfl)) (
  jm_gc (pu_getA _ _) (sn_getA (jm_dc dc_33_0 1 rfl) fl_3_11 rfl) (
  jm_gc (pu_iload _ _) (sn_iload_n (i := 1) (jm_dc dc_33_0 2 rfl)) (
  jm_gc (pu_aald) (sn_aald (jm_dc dc_33_0 3 rfl)) (
  jm_gc (pu_astore _ _) (sn_astore (jm_dc dc_33_0 4 rfl)) (
  jm_gc (pu_aload _ _) (sn_aload_n (i := 0) (jm_dc dc_33_0 5 rfl)) (
  jm_gc (pu_getA _ _) (sn_getA (jm_dc dc_33_0 6 rfl) fl_3_11 rfl) (
  jm_gc (pu_iload _ _) (sn_iload_n (i := 3) (jm_dc dc_33_0 7 rfl)) (
  jm_gc (pu_aald) (sn_aald (jm_dc dc_33_0 8 rfl)) (
  jm_gc (pu_astore _ _) (sn_astore (jm_dc dc_33_0 9 rfl)) (
  jm_gc (pu_ic _ _) (sn_iconst (jm_dc dc_33_0 10 rfl) (by decide)) (
  jm_gc (pu_aload _ _) (sn_aload_n (i := 0) (jm_dc dc_33_0 11 rfl)) (
  jm_gc (pu_getA _ _) (sn_getA (jm_dc dc_33_0 12 rfl) fl_3_17 rfl) (
  jm_gc (pu_ic _ _) (sn_bipush (jm_dc dc_33_0 13 rfl) (by decide)) (
  jm_gc (pu_aload _ _) (sn_aload (jm_dc dc_33_0 14 rfl)) (
  jm_gc (pu_getA _ _) (sn_getA (jm_dc dc_33_0 15 rfl) fl_3_67 rfl) (
  jm_gc (pu_iload _ _) (sn_iload_n (i := 2) (jm_dc dc_33_0 16 rfl)) (
  jm_gc (pu_iald _) (sn_iald (jm_dc dc_33_0 17 rfl)) (
  jm_gc (pu_ibin _) (sn_imul (jm_dc dc_33_0 18 rfl)) (
  jm_gc (pu_aload _ _) (sn_aload (jm_dc dc_33_0 19 rfl)) (
  jm_gc (pu_getA _ _) (sn_getA (jm_dc dc_33_0 20 rfl) fl_3_67 rfl) (
  jm_gc (pu_iload _ _) (sn_iload (jm_dc dc_33_0 21 rfl)) (
  jm_gc (pu_iald _) (sn_iald (jm_dc dc_33_0 22 rfl)) (
  jm_gc (pu_ibin _) (sn_iadd (jm_dc dc_33_0 23 rfl)) (
  jm_gc (pu_iald _) (sn_iald (jm_dc dc_33_0 24 rfl)) (
  jm_gn)))))))))))))))))))))))))
theorem dc_33_1 : ([(41, .imul, 1), (42, .istore 8, 2), (44, .iload 8, 2), (46, .iconst 0, 1), (47, .bipush 9, 2), (49, .aload 6, 2), (51, .getfield 70, 3), (54, .aload 7, 2), (56, .getfield 70, 3), (59, .isub, 1), (60, .invokestatic 73, 3), (63, .isub, 1), (64, .invokestatic 78, 3), (67, .iadd, 1), (68, .istore 8, 2), (70, .aload 6, 2), (72, .getfield 82, 3), (75, .ifCond .lt 34, 3), (78, .aload 7, 2), (80, .getfield 82, 3), (83, .ifCond .lt 26, 3), (86, .aload 6, 2), (88, .getfield 82, 3), (91, .aload 7, 2), (93, .getfield 82, 3)] : List (Nat × Instr × Nat)).all (fun e => decide (decode prog_5_method_5_code e.1 = .ok e.2)) = true := by decide +kernel
abbrev cl_33_1 : List (Nat × jm_O) := [(41, op_ibin (fun x y => x * y)), (42, op_istore 8 2), (44, op_iload 8 2), (46, op_ic 0 1), (47, op_ic 9 2), (49, op_aload 6 2), (51, op_getI 1 0), (54, op_aload 7 2), (56, op_getI 1 0), (59, op_ibin (fun x y => x - y)), (60, op_mabs), (63, op_ibin (fun x y => x - y)), (64, op_mmax), (67, op_ibin (fun x y => x + y)), (68, op_istore 8 2), (70, op_aload 6 2), (72, op_getI 1 1), (75, op_iflt 109), (78, op_aload 7 2), (80, op_getI 1 1), (83, op_iflt 109), (86, op_aload 6 2), (88, op_getI 1 1), (91, op_aload 7 2), (93, op_getI 1 1)]
set_option maxRecDepth 100000 in
theorem gl_33_1 : jm_gl "FrescoWall$Fits" prog_5_method_5_code 9 (Option.some Jvm.ClassFile.FieldType.int) false cl_33_1 :=
  jm_gc (pu_ibin _) (sn_imul (jm_dc dc_33_1 0 rfl)) (
  jm_gc (pu_istore _ _) (sn_istore (jm_dc dc_33_1 1 rfl)) (
  jm_gc (pu_iload _ _) (sn_iload (jm_dc dc_33_1 2 rfl)) (
  jm_gc (pu_ic _ _) (sn_iconst (jm_dc dc_33_1 3 rfl) (by decide)) (
  jm_gc (pu_ic _ _) (sn_bipush (jm_dc dc_33_1 4 rfl) (by decide)) (
  jm_gc (pu_aload _ _) (sn_aload (jm_dc dc_33_1 5 rfl)) (
  jm_gc (pu_getI _ _) (sn_getI (jm_dc dc_33_1 6 rfl) fl_3_70 (Or.inl rfl)) (
  jm_gc (pu_aload _ _) (sn_aload (jm_dc dc_33_1 7 rfl)) (
  jm_gc (pu_getI _ _) (sn_getI (jm_dc dc_33_1 8 rfl) fl_3_70 (Or.inl rfl)) (
  jm_gc (pu_ibin _) (sn_isub (jm_dc dc_33_1 9 rfl)) (
  jm_gc (pu_mabs) (sn_mabs (jm_dc dc_33_1 10 rfl) ⟨kc_tb 701 (by decide +kernel), kc_tb 702 (by decide +kernel), kc_tb 13 (by decide +kernel), kc_tb 703 (by decide +kernel)⟩) (
  jm_gc (pu_ibin _) (sn_isub (jm_dc dc_33_1 11 rfl)) (
  jm_gc (pu_mmax) (sn_mmax (jm_dc dc_33_1 12 rfl) ⟨kc_tb 704 (by decide +kernel), kc_tb 481 (by decide +kernel), kc_tb 13 (by decide +kernel), kc_tb 482 (by decide +kernel)⟩) (
  jm_gc (pu_ibin _) (sn_iadd (jm_dc dc_33_1 13 rfl)) (
  jm_gc (pu_istore _ _) (sn_istore (jm_dc dc_33_1 14 rfl)) (
  jm_gc (pu_aload _ _) (sn_aload (jm_dc dc_33_1 15 rfl)) (
  jm_gc (pu_getI _ _) (sn_getI (jm_dc dc_33_1 16 rfl) fl_3_82 (Or.inl rfl)) (
  jm_gc (pu_iflt _) (sn_iflt (jm_dc dc_33_1 17 rfl) (by decide)) (
  jm_gc (pu_aload _ _) (sn_aload (jm_dc dc_33_1 18 rfl)) (
  jm_gc (pu_getI _ _) (sn_getI (jm_dc dc_33_1 19 rfl) fl_3_82 (Or.inl rfl)) (
  jm_gc (pu_iflt _) (sn_iflt (jm_dc dc_33_1 20 rfl) (by decide)) (
  jm_gc (pu_aload _ _) (sn_aload (jm_dc dc_33_1 21 rfl)) (
  jm_gc (pu_getI _ _) (sn_getI (jm_dc dc_33_1 22 rfl) fl_3_82 (Or.inl rfl)) (
  jm_gc (pu_aload _ _) (sn_aload (jm_dc dc_33_1 23 rfl)) (
  jm_gc (pu_getI _ _) (sn_getI (jm_dc dc_33_1 24 rfl) fl_3_82 (Or.inl rfl)) (
  jm_gn)))))))))))))))))))))))))
theorem dc_33_2 : ([(96, .iconst 2, 1), (97, .iload 5, 2), (99, .imul, 1), (100, .iadd, 1), (101, .iconst 3, 1), (102, .iand, 1), (103, .if_icmp .ne 6, 3), (106, .iinc 8 5, 3), (109, .iload 8, 2), (111, .ireturn, 1)] : List (Nat × Instr × Nat)).all (fun e => decide (decode prog_5_method_5_code e.1 = .ok e.2)) = true := by decide +kernel
abbrev cl_33_2 : List (Nat × jm_O) := [(96, op_ic 2 1), (97, op_iload 5 2), (99, op_ibin (fun x y => x * y)), (100, op_ibin (fun x y => x + y)), (101, op_ic 3 1), (102, op_ibin (fun x y => x &&& y)), (103, op_cne 109), (106, op_iinc 8 5), (109, op_iload 8 2), (111, op_iret)]
set_option maxRecDepth 100000 in
theorem gl_33_2 : jm_gl "FrescoWall$Fits" prog_5_method_5_code 9 (Option.some Jvm.ClassFile.FieldType.int) false cl_33_2 :=
  jm_gc (pu_ic _ _) (sn_iconst (jm_dc dc_33_2 0 rfl) (by decide)) (
  jm_gc (pu_iload _ _) (sn_iload (jm_dc dc_33_2 1 rfl)) (
  jm_gc (pu_ibin _) (sn_imul (jm_dc dc_33_2 2 rfl)) (
  jm_gc (pu_ibin _) (sn_iadd (jm_dc dc_33_2 3 rfl)) (
  jm_gc (pu_ic _ _) (sn_iconst (jm_dc dc_33_2 4 rfl) (by decide)) (
  jm_gc (pu_ibin _) (sn_iand (jm_dc dc_33_2 5 rfl)) (
  jm_gc (pu_cne _) (sn_cne (jm_dc dc_33_2 6 rfl) (by decide)) (
  jm_gc (pu_iinc _ _) (sn_iinc (jm_dc dc_33_2 7 rfl) (by decide)) (
  jm_gc (pu_iload _ _) (sn_iload (jm_dc dc_33_2 8 rfl)) (
  jm_gc (pu_iret) (sn_iret (jm_dc dc_33_2 9 rfl) rfl) (
  jm_gn))))))))))
theorem dc_34_0 : ([(0, .iconst 0, 1), (1, .istore_n 3, 1), (2, .iconst 0, 1), (3, .istore 4, 2), (5, .iload 4, 2), (7, .aload_n 0, 1), (8, .getfield 24, 3), (11, .if_icmp .ge 82, 3), (14, .iconst 0, 1), (15, .istore 5, 2), (17, .iload 5, 2), (19, .aload_n 0, 1), (20, .getfield 11, 3), (23, .iload 4, 2), (25, .aaload, 1), (26, .getfield 85, 3), (29, .if_icmp .ge 58, 3), (32, .aload_n 0, 1), (33, .iload_n 1, 1), (34, .iload_n 2, 1), (35, .iload 4, 2), (37, .iload 5, 2), (39, .invokevirtual 88, 3), (42, .lstore 6, 2), (44, .lload 6, 2)] : List (Nat × Instr × Nat)).all (fun e => decide (decode prog_5_method_6_code e.1 = .ok e.2)) = true := by decide +kernel
abbrev cl_34_0 : List (Nat × jm_O) := [(0, op_ic 0 1), (1, op_istore 3 1), (2, op_ic 0 1), (3, op_istore 4 2), (5, op_iload 4 2), (7, op_aload 0 1), (8, op_getI 3 1), (11, op_cge 93), (14, op_ic 0 1), (15, op_istore 5 2), (17, op_iload 5 2), (19, op_aload 0 1), (20, op_getA 3 0), (23, op_iload 4 2), (25, op_aald), (26, op_getI 1 3), (29, op_cge 87), (32, op_aload 0 1), (33, op_iload 1 1), (34, op_iload 2 1), (35, op_iload 4 2), (37, op_iload 5 2), (39, op_callV 3 32 5), (42, op_lstore 6 2), (44, op_lload 6 2)]
set_option maxRecDepth 100000 in
theorem gl_34_0 : jm_gl "FrescoWall$Fits" prog_5_method_6_code 8 (Option.some Jvm.ClassFile.FieldType.int) false cl_34_0 :=
  jm_gc (pu_ic _ _) (sn_iconst (jm_dc dc_34_0 0 rfl) (by decide)) (
  jm_gc (pu_istore _ _) (sn_istore_n (i := 3) (jm_dc dc_34_0 1 rfl)) (
  jm_gc (pu_ic _ _) (sn_iconst (jm_dc dc_34_0 2 rfl) (by decide)) (
  jm_gc (pu_istore _ _) (sn_istore (jm_dc dc_34_0 3 rfl)) (
  jm_gc (pu_iload _ _) (sn_iload (jm_dc dc_34_0 4 rfl)) (
  jm_gc (pu_aload _ _) (sn_aload_n (i := 0) (jm_dc dc_34_0 5 rfl)) (
  jm_gc (pu_getI _ _) (sn_getI (jm_dc dc_34_0 6 rfl) fl_3_24 (Or.inl rfl)) (
  jm_gc (pu_cge _) (sn_cge (jm_dc dc_34_0 7 rfl) (by decide)) (
  jm_gc (pu_ic _ _) (sn_iconst (jm_dc dc_34_0 8 rfl) (by decide)) (
  jm_gc (pu_istore _ _) (sn_istore (jm_dc dc_34_0 9 rfl)) (
  jm_gc (pu_iload _ _) (sn_iload (jm_dc dc_34_0 10 rfl)) (
  jm_gc (pu_aload _ _) (sn_aload_n (i := 0) (jm_dc dc_34_0 11 rfl)) (
  jm_gc (pu_getA _ _) (sn_getA (jm_dc dc_34_0 12 rfl) fl_3_11 rfl) (
  jm_gc (pu_iload _ _) (sn_iload (jm_dc dc_34_0 13 rfl)) (
  jm_gc (pu_aald) (sn_aald (jm_dc dc_34_0 14 rfl)) (
  jm_gc (pu_getI _ _) (sn_getI (jm_dc dc_34_0 15 rfl) fl_3_85 (Or.inl rfl)) (
  jm_gc (pu_cge _) (sn_cge (jm_dc dc_34_0 16 rfl) (by decide)) (
  jm_gc (pu_aload _ _) (sn_aload_n (i := 0) (jm_dc dc_34_0 17 rfl)) (
  jm_gc (pu_iload _ _) (sn_iload_n (i := 1) (jm_dc dc_34_0 18 rfl)) (
  jm_gc (pu_iload _ _) (sn_iload_n (i := 2) (jm_dc dc_34_0 19 rfl)) (
  jm_gc (pu_iload _ _) (sn_iload (jm_dc dc_34_0 20 rfl)) (
  jm_gc (pu_iload _ _) (sn_iload (jm_dc dc_34_0 21 rfl)) (
  jm_gc (pu_callV _ _ _) (sn_callV (jm_dc dc_34_0 22 rfl) lk_3_88) (
  jm_gc (pu_lstore _ _) (sn_lstore (jm_dc dc_34_0 23 rfl)) (
  jm_gc (pu_lload _ _) (sn_lload (jm_dc dc_34_0 24 rfl)) (
  jm_gn)))))))))))))))))))))))))
theorem dc_34_1 : ([(46, .lconst 0, 1), (47, .lcmp, 1), (48, .ifCond .lt 33, 3), (51, .aload_n 0, 1), (52, .iload_n 3, 1), (53, .aload_n 0, 1), (54, .iload_n 1, 1), (55, .iload_n 2, 1), (56, .iload 4, 2), (58, .iload 5, 2), (60, .lload 6, 2), (62, .invokestatic 92, 3), (65, .invokevirtual 96, 3), (68, .iload 4, 2), (70, .iload 5, 2), (72, .invokestatic 100, 3), (75, .invokevirtual 103, 3), (78, .iinc 3 1, 3), (81, .iinc 5 1, 3), (84, .goto (-67), 3), (87, .iinc 4 1, 3), (90, .goto (-85), 3), (93, .iload_n 3, 1), (94, .ireturn, 1)] : List (Nat × Instr × Nat)).all (fun e => decide (decode prog_5_method_6_code e.1 = .ok e.2)) = true := by decide +kernel
abbrev cl_34_1 : List (Nat × jm_O) := [(46, op_lc 0 1), (47, op_lcmp), (48, op_iflt 81), (51, op_aload 0 1), (52, op_iload 3 1), (53, op_aload 0 1), (54, op_iload 1 1), (55, op_iload 2 1), (56, op_iload 4 2), (58, op_iload 5 2), (60, op_lload 6 2), (62, op_callS 306 1), (65, op_callV 3 33 6), (68, op_iload 4 2), (70, op_iload 5 2), (72, op_callS 35 3), (75, op_callV 3 36 3), (78, op_iinc 3 1), (81, op_iinc 5 1), (84, op_goto 17), (87, op_iinc 4 1), (90, op_goto 5), (93, op_iload 3 1), (94, op_iret)]
set_option maxRecDepth 100000 in
theorem gl_34_1 : jm_gl "FrescoWall$Fits" prog_5_method_6_code 8 (Option.some Jvm.ClassFile.FieldType.int) false cl_34_1 :=
  jm_gc (pu_lc _ _) (sn_lconst (jm_dc dc_34_1 0 rfl) (by decide)) (
  jm_gc (pu_lcmp) (sn_lcmp (jm_dc dc_34_1 1 rfl)) (
  jm_gc (pu_iflt _) (sn_iflt (jm_dc dc_34_1 2 rfl) (by decide)) (
  jm_gc (pu_aload _ _) (sn_aload_n (i := 0) (jm_dc dc_34_1 3 rfl)) (
  jm_gc (pu_iload _ _) (sn_iload_n (i := 3) (jm_dc dc_34_1 4 rfl)) (
  jm_gc (pu_aload _ _) (sn_aload_n (i := 0) (jm_dc dc_34_1 5 rfl)) (
  jm_gc (pu_iload _ _) (sn_iload_n (i := 1) (jm_dc dc_34_1 6 rfl)) (
  jm_gc (pu_iload _ _) (sn_iload_n (i := 2) (jm_dc dc_34_1 7 rfl)) (
  jm_gc (pu_iload _ _) (sn_iload (jm_dc dc_34_1 8 rfl)) (
  jm_gc (pu_iload _ _) (sn_iload (jm_dc dc_34_1 9 rfl)) (
  jm_gc (pu_lload _ _) (sn_lload (jm_dc dc_34_1 10 rfl)) (
  jm_gc (pu_callS _ _) (sn_callS (jm_dc dc_34_1 11 rfl) lk_3_92) (
  jm_gc (pu_callV _ _ _) (sn_callV (jm_dc dc_34_1 12 rfl) lk_3_96) (
  jm_gc (pu_iload _ _) (sn_iload (jm_dc dc_34_1 13 rfl)) (
  jm_gc (pu_iload _ _) (sn_iload (jm_dc dc_34_1 14 rfl)) (
  jm_gc (pu_callS _ _) (sn_callS (jm_dc dc_34_1 15 rfl) lk_3_100) (
  jm_gc (pu_callV _ _ _) (sn_callV (jm_dc dc_34_1 16 rfl) lk_3_103) (
  jm_gc (pu_iinc _ _) (sn_iinc (jm_dc dc_34_1 17 rfl) (by decide)) (
  jm_gc (pu_iinc _ _) (sn_iinc (jm_dc dc_34_1 18 rfl) (by decide)) (
  jm_gc (pu_goto _) (sn_goto (jm_dc dc_34_1 19 rfl) (by decide)) (
  jm_gc (pu_iinc _ _) (sn_iinc (jm_dc dc_34_1 20 rfl) (by decide)) (
  jm_gc (pu_goto _) (sn_goto (jm_dc dc_34_1 21 rfl) (by decide)) (
  jm_gc (pu_iload _ _) (sn_iload_n (i := 3) (jm_dc dc_34_1 22 rfl)) (
  jm_gc (pu_iret) (sn_iret (jm_dc dc_34_1 23 rfl) rfl) (
  jm_gn))))))))))))))))))))))))
theorem dc_35_0 : ([(0, .bipush 40, 2), (2, .iload_n 0, 1), (3, .isub, 1), (4, .sipush 1000, 3), (7, .imul, 1), (8, .bipush 10, 2), (10, .iload_n 1, 1), (11, .imul, 1), (12, .iadd, 1), (13, .iload_n 2, 1), (14, .iadd, 1), (15, .ireturn, 1)] : List (Nat × Instr × Nat)).all (fun e => decide (decode prog_5_method_7_code e.1 = .ok e.2)) = true := by decide +kernel
abbrev cl_35_0 : List (Nat × jm_O) := [(0, op_ic 40 2), (2, op_iload 0 1), (3, op_ibin (fun x y => x - y)), (4, op_ic 1000 3), (7, op_ibin (fun x y => x * y)), (8, op_ic 10 2), (10, op_iload 1 1), (11, op_ibin (fun x y => x * y)), (12, op_ibin (fun x y => x + y)), (13, op_iload 2 1), (14, op_ibin (fun x y => x + y)), (15, op_iret)]
set_option maxRecDepth 100000 in
theorem gl_35_0 : jm_gl "FrescoWall$Fits" prog_5_method_7_code 3 (Option.some Jvm.ClassFile.FieldType.int) false cl_35_0 :=
  jm_gc (pu_ic _ _) (sn_bipush (jm_dc dc_35_0 0 rfl) (by decide)) (
  jm_gc (pu_iload _ _) (sn_iload_n (i := 0) (jm_dc dc_35_0 1 rfl)) (
  jm_gc (pu_ibin _) (sn_isub (jm_dc dc_35_0 2 rfl)) (
  jm_gc (pu_ic _ _) (sn_sipush (jm_dc dc_35_0 3 rfl) (by decide)) (
  jm_gc (pu_ibin _) (sn_imul (jm_dc dc_35_0 4 rfl)) (
  jm_gc (pu_ic _ _) (sn_bipush (jm_dc dc_35_0 5 rfl) (by decide)) (
  jm_gc (pu_iload _ _) (sn_iload_n (i := 1) (jm_dc dc_35_0 6 rfl)) (
  jm_gc (pu_ibin _) (sn_imul (jm_dc dc_35_0 7 rfl)) (
  jm_gc (pu_ibin _) (sn_iadd (jm_dc dc_35_0 8 rfl)) (
  jm_gc (pu_iload _ _) (sn_iload_n (i := 2) (jm_dc dc_35_0 9 rfl)) (
  jm_gc (pu_ibin _) (sn_iadd (jm_dc dc_35_0 10 rfl)) (
  jm_gc (pu_iret) (sn_iret (jm_dc dc_35_0 11 rfl) rfl) (
  jm_gn))))))))))))
theorem dc_36_0 : ([(0, .iload_n 1, 1), (1, .istore_n 3, 1), (2, .iload_n 3, 1), (3, .ifCond .le 35, 3), (6, .aload_n 0, 1), (7, .getfield 21, 3), (10, .iload_n 3, 1), (11, .iconst 1, 1), (12, .isub, 1), (13, .iaload, 1), (14, .iload_n 2, 1), (15, .if_icmp .le 23, 3), (18, .aload_n 0, 1), (19, .getfield 21, 3), (22, .iload_n 3, 1), (23, .aload_n 0, 1), (24, .getfield 21, 3), (27, .iload_n 3, 1), (28, .iconst 1, 1), (29, .isub, 1), (30, .iaload, 1), (31, .iastore, 1), (32, .iinc 3 (-1), 3), (35, .goto (-33), 3), (38, .aload_n 0, 1)] : List (Nat × Instr × Nat)).all (fun e => decide (decode prog_5_method_8_code e.1 = .ok e.2)) = true := by decide +kernel
abbrev cl_36_0 : List (Nat × jm_O) := [(0, op_iload 1 1), (1, op_istore 3 1), (2, op_iload 3 1), (3, op_ifle 38), (6, op_aload 0 1), (7, op_getA 3 4), (10, op_iload 3 1), (11, op_ic 1 1), (12, op_ibin (fun x y => x - y)), (13, op_iald 13), (14, op_iload 2 1), (15, op_cle 38), (18, op_aload 0 1), (19, op_getA 3 4), (22, op_iload 3 1), (23, op_aload 0 1), (24, op_getA 3 4), (27, op_iload 3 1), (28, op_ic 1 1), (29, op_ibin (fun x y => x - y)), (30, op_iald 13), (31, op_iast), (32, op_iinc 3 (-1)), (35, op_goto 2), (38, op_aload 0 1)]
set_option maxRecDepth 100000 in
theorem gl_36_0 : jm_gl "FrescoWall$Fits" prog_5_method_8_code 4 (Option.none : Option Jvm.ClassFile.FieldType) false cl_36_0 :=
  jm_gc (pu_iload _ _) (sn_iload_n (i := 1) (jm_dc dc_36_0 0 rfl)) (
  jm_gc (pu_istore _ _) (sn_istore_n (i := 3) (jm_dc dc_36_0 1 rfl)) (
  jm_gc (pu_iload _ _) (sn_iload_n (i := 3) (jm_dc dc_36_0 2 rfl)) (
  jm_gc (pu_ifle _) (sn_ifle (jm_dc dc_36_0 3 rfl) (by decide)) (
  jm_gc (pu_aload _ _) (sn_aload_n (i := 0) (jm_dc dc_36_0 4 rfl)) (
  jm_gc (pu_getA _ _) (sn_getA (jm_dc dc_36_0 5 rfl) fl_3_21 rfl) (
  jm_gc (pu_iload _ _) (sn_iload_n (i := 3) (jm_dc dc_36_0 6 rfl)) (
  jm_gc (pu_ic _ _) (sn_iconst (jm_dc dc_36_0 7 rfl) (by decide)) (
  jm_gc (pu_ibin _) (sn_isub (jm_dc dc_36_0 8 rfl)) (
  jm_gc (pu_iald _) (sn_iald (jm_dc dc_36_0 9 rfl)) (
  jm_gc (pu_iload _ _) (sn_iload_n (i := 2) (jm_dc dc_36_0 10 rfl)) (
  jm_gc (pu_cle _) (sn_cle (jm_dc dc_36_0 11 rfl) (by decide)) (
  jm_gc (pu_aload _ _) (sn_aload_n (i := 0) (jm_dc dc_36_0 12 rfl)) (
  jm_gc (pu_getA _ _) (sn_getA (jm_dc dc_36_0 13 rfl) fl_3_21 rfl) (
  jm_gc (pu_iload _ _) (sn_iload_n (i := 3) (jm_dc dc_36_0 14 rfl)) (
  jm_gc (pu_aload _ _) (sn_aload_n (i := 0) (jm_dc dc_36_0 15 rfl)) (
  jm_gc (pu_getA _ _) (sn_getA (jm_dc dc_36_0 16 rfl) fl_3_21 rfl) (
  jm_gc (pu_iload _ _) (sn_iload_n (i := 3) (jm_dc dc_36_0 17 rfl)) (
  jm_gc (pu_ic _ _) (sn_iconst (jm_dc dc_36_0 18 rfl) (by decide)) (
  jm_gc (pu_ibin _) (sn_isub (jm_dc dc_36_0 19 rfl)) (
  jm_gc (pu_iald _) (sn_iald (jm_dc dc_36_0 20 rfl)) (
  jm_gc (pu_iast) (sn_iast (jm_dc dc_36_0 21 rfl)) (
  jm_gc (pu_iinc _ _) (sn_iinc (jm_dc dc_36_0 22 rfl) (by decide)) (
  jm_gc (pu_goto _) (sn_goto (jm_dc dc_36_0 23 rfl) (by decide)) (
  jm_gc (pu_aload _ _) (sn_aload_n (i := 0) (jm_dc dc_36_0 24 rfl)) (
  jm_gn)))))))))))))))))))))))))
theorem dc_36_1 : ([(39, .getfield 21, 3), (42, .iload_n 3, 1), (43, .iload_n 2, 1), (44, .iastore, 1), (45, .return_, 1)] : List (Nat × Instr × Nat)).all (fun e => decide (decode prog_5_method_8_code e.1 = .ok e.2)) = true := by decide +kernel
abbrev cl_36_1 : List (Nat × jm_O) := [(39, op_getA 3 4), (42, op_iload 3 1), (43, op_iload 2 1), (44, op_iast), (45, op_vret)]
set_option maxRecDepth 100000 in
theorem gl_36_1 : jm_gl "FrescoWall$Fits" prog_5_method_8_code 4 (Option.none : Option Jvm.ClassFile.FieldType) false cl_36_1 :=
  jm_gc (pu_getA _ _) (sn_getA (jm_dc dc_36_1 0 rfl) fl_3_21 rfl) (
  jm_gc (pu_iload _ _) (sn_iload_n (i := 3) (jm_dc dc_36_1 1 rfl)) (
  jm_gc (pu_iload _ _) (sn_iload_n (i := 2) (jm_dc dc_36_1 2 rfl)) (
  jm_gc (pu_iast) (sn_iast (jm_dc dc_36_1 3 rfl)) (
  jm_gc (pu_vret) (sn_vret (jm_dc dc_36_1 4 rfl) rfl) (
  jm_gn)))))
theorem dc_37_0 : ([(0, .aload_n 0, 1), (1, .getfield 11, 3), (4, .iload_n 1, 1), (5, .aaload, 1), (6, .iload_n 2, 1), (7, .aload_n 0, 1), (8, .getfield 11, 3), (11, .iload_n 3, 1), (12, .aaload, 1), (13, .iload 4, 2), (15, .invokevirtual 31, 3), (18, .istore 5, 2), (20, .aload_n 0, 1), (21, .iload_n 1, 1), (22, .iload_n 2, 1), (23, .iload_n 3, 1), (24, .iload 4, 2), (26, .iload 5, 2), (28, .invokevirtual 96, 3), (31, .iload_n 3, 1), (32, .iload 4, 2), (34, .invokestatic 100, 3), (37, .istore 6, 2), (39, .iload 6, 2), (41, .sipush 1000, 3)] : List (Nat × Instr × Nat)).all (fun e => decide (decode prog_5_method_9_code e.1 = .ok e.2)) = true := by decide +kernel
abbrev cl_37_0 : List (Nat × jm_O) := [(0, op_aload 0 1), (1, op_getA 3 0), (4, op_iload 1 1), (5, op_aald), (6, op_iload 2 1), (7, op_aload 0 1), (8, op_getA 3 0), (11, op_iload 3 1), (12, op_aald), (13, op_iload 4 2), (15, op_callV 1 18 4), (18, op_istore 5 2), (20, op_aload 0 1), (21, op_iload 1 1), (22, op_iload 2 1), (23, op_iload 3 1), (24, op_iload 4 2), (26, op_iload 5 2), (28, op_callV 3 33 6), (31, op_iload 3 1), (32, op_iload 4 2), (34, op_callS 35 3), (37, op_istore 6 2), (39, op_iload 6 2), (41, op_ic 1000 3)]
set_option maxRecDepth 100000 in
theorem gl_37_0 : jm_gl "FrescoWall$Fits" prog_5_method_9_code 13 (Option.some Jvm.ClassFile.FieldType.int) false cl_37_0 :=
  jm_gc (pu_aload _ _) (sn_aload_n (i := 0) (jm_dc dc_37_0 0 rfl)) (
  jm_gc (pu_getA _ _) (sn_getA (jm_dc dc_37_0 1 rfl) fl_3_11 rfl) (
  jm_gc (pu_iload _ _) (sn_iload_n (i := 1) (jm_dc dc_37_0 2 rfl)) (
  jm_gc (pu_aald) (sn_aald (jm_dc dc_37_0 3 rfl)) (
  jm_gc (pu_iload _ _) (sn_iload_n (i := 2) (jm_dc dc_37_0 4 rfl)) (
  jm_gc (pu_aload _ _) (sn_aload_n (i := 0) (jm_dc dc_37_0 5 rfl)) (
  jm_gc (pu_getA _ _) (sn_getA (jm_dc dc_37_0 6 rfl) fl_3_11 rfl) (
  jm_gc (pu_iload _ _) (sn_iload_n (i := 3) (jm_dc dc_37_0 7 rfl)) (
  jm_gc (pu_aald) (sn_aald (jm_dc dc_37_0 8 rfl)) (
  jm_gc (pu_iload _ _) (sn_iload (jm_dc dc_37_0 9 rfl)) (
  jm_gc (pu_callV _ _ _) (sn_callV (jm_dc dc_37_0 10 rfl) lk_3_31) (
  jm_gc (pu_istore _ _) (sn_istore (jm_dc dc_37_0 11 rfl)) (
  jm_gc (pu_aload _ _) (sn_aload_n (i := 0) (jm_dc dc_37_0 12 rfl)) (
  jm_gc (pu_iload _ _) (sn_iload_n (i := 1) (jm_dc dc_37_0 13 rfl)) (
  jm_gc (pu_iload _ _) (sn_iload_n (i := 2) (jm_dc dc_37_0 14 rfl)) (
  jm_gc (pu_iload _ _) (sn_iload_n (i := 3) (jm_dc dc_37_0 15 rfl)) (
  jm_gc (pu_iload _ _) (sn_iload (jm_dc dc_37_0 16 rfl)) (
  jm_gc (pu_iload _ _) (sn_iload (jm_dc dc_37_0 17 rfl)) (
  jm_gc (pu_callV _ _ _) (sn_callV (jm_dc dc_37_0 18 rfl) lk_3_96) (
  jm_gc (pu_iload _ _) (sn_iload_n (i := 3) (jm_dc dc_37_0 19 rfl)) (
  jm_gc (pu_iload _ _) (sn_iload (jm_dc dc_37_0 20 rfl)) (
  jm_gc (pu_callS _ _) (sn_callS (jm_dc dc_37_0 21 rfl) lk_3_100) (
  jm_gc (pu_istore _ _) (sn_istore (jm_dc dc_37_0 22 rfl)) (
  jm_gc (pu_iload _ _) (sn_iload (jm_dc dc_37_0 23 rfl)) (
  jm_gc (pu_ic _ _) (sn_sipush (jm_dc dc_37_0 24 rfl) (by decide)) (
  jm_gn)))))))))))))))))))))))))
theorem dc_37_1 : ([(44, .idiv, 1), (45, .sipush 1000, 3), (48, .imul, 1), (49, .sipush 1000, 3), (52, .iadd, 1), (53, .iconst 1, 1), (54, .isub, 1), (55, .istore 7, 2), (57, .iload 7, 2), (59, .iconst 1, 1), (60, .iadd, 1), (61, .istore 8, 2), (63, .iconst 0, 1), (64, .istore 9, 2), (66, .iload 9, 2), (68, .aload_n 0, 1), (69, .getfield 24, 3), (72, .if_icmp .ge 108, 3), (75, .iconst 0, 1), (76, .istore 10, 2), (78, .iload 10, 2), (80, .aload_n 0, 1), (81, .getfield 11, 3), (84, .iload 9, 2), (86, .aaload, 1)] : List (Nat × Instr × Nat)).all (fun e => decide (decode prog_5_method_9_code e.1 = .ok e.2)) = true := by decide +kernel
abbrev cl_37_1 : List (Nat × jm_O) := [(44, op_idz (fun x y => x / y)), (45, op_ic 1000 3), (48, op_ibin (fun x y => x * y)), (49, op_ic 1000 3), (52, op_ibin (fun x y => x + y)), (53, op_ic 1 1), (54, op_ibin (fun x y => x - y)), (55, op_istore 7 2), (57, op_iload 7 2), (59, op_ic 1 1), (60, op_ibin (fun x y => x + y)), (61, op_istore 8 2), (63, op_ic 0 1), (64, op_istore 9 2), (66, op_iload 9 2), (68, op_aload 0 1), (69, op_getI 3 1), (72, op_cge 180), (75, op_ic 0 1), (76, op_istore 10 2), (78, op_iload 10 2), (80, op_aload 0 1), (81, op_getA 3 0), (84, op_iload 9 2), (86, op_aald)]
set_option maxRecDepth 100000 in
theorem gl_37_1 : jm_gl "FrescoWall$Fits" prog_5_method_9_code 13 (Option.some Jvm.ClassFile.FieldType.int) false cl_37_1 :=
  jm_gc (pu_idz _) (sn_idiv (jm_dc dc_37_1 0 rfl)) (
  jm_gc (pu_ic _ _) (sn_sipush (jm_dc dc_37_1 1 rfl) (by decide)) (
  jm_gc (pu_ibin _) (sn_imul (jm_dc dc_37_1 2 rfl)) (
  jm_gc (pu_ic _ _) (sn_sipush (jm_dc dc_37_1 3 rfl) (by decide)) (
  jm_gc (pu_ibin _) (sn_iadd (jm_dc dc_37_1 4 rfl)) (
  jm_gc (pu_ic _ _) (sn_iconst (jm_dc dc_37_1 5 rfl) (by decide)) (
  jm_gc (pu_ibin _) (sn_isub (jm_dc dc_37_1 6 rfl)) (
  jm_gc (pu_istore _ _) (sn_istore (jm_dc dc_37_1 7 rfl)) (
  jm_gc (pu_iload _ _) (sn_iload (jm_dc dc_37_1 8 rfl)) (
  jm_gc (pu_ic _ _) (sn_iconst (jm_dc dc_37_1 9 rfl) (by decide)) (
  jm_gc (pu_ibin _) (sn_iadd (jm_dc dc_37_1 10 rfl)) (
  jm_gc (pu_istore _ _) (sn_istore (jm_dc dc_37_1 11 rfl)) (
  jm_gc (pu_ic _ _) (sn_iconst (jm_dc dc_37_1 12 rfl) (by decide)) (
  jm_gc (pu_istore _ _) (sn_istore (jm_dc dc_37_1 13 rfl)) (
  jm_gc (pu_iload _ _) (sn_iload (jm_dc dc_37_1 14 rfl)) (
  jm_gc (pu_aload _ _) (sn_aload_n (i := 0) (jm_dc dc_37_1 15 rfl)) (
  jm_gc (pu_getI _ _) (sn_getI (jm_dc dc_37_1 16 rfl) fl_3_24 (Or.inl rfl)) (
  jm_gc (pu_cge _) (sn_cge (jm_dc dc_37_1 17 rfl) (by decide)) (
  jm_gc (pu_ic _ _) (sn_iconst (jm_dc dc_37_1 18 rfl) (by decide)) (
  jm_gc (pu_istore _ _) (sn_istore (jm_dc dc_37_1 19 rfl)) (
  jm_gc (pu_iload _ _) (sn_iload (jm_dc dc_37_1 20 rfl)) (
  jm_gc (pu_aload _ _) (sn_aload_n (i := 0) (jm_dc dc_37_1 21 rfl)) (
  jm_gc (pu_getA _ _) (sn_getA (jm_dc dc_37_1 22 rfl) fl_3_11 rfl) (
  jm_gc (pu_iload _ _) (sn_iload (jm_dc dc_37_1 23 rfl)) (
  jm_gc (pu_aald) (sn_aald (jm_dc dc_37_1 24 rfl)) (
  jm_gn)))))))))))))))))))))))))
theorem dc_37_2 : ([(87, .getfield 85, 3), (90, .if_icmp .ge 84, 3), (93, .aload_n 0, 1), (94, .getfield 11, 3), (97, .iload_n 1, 1), (98, .aaload, 1), (99, .iload_n 2, 1), (100, .aload_n 0, 1), (101, .getfield 11, 3), (104, .iload 9, 2), (106, .aaload, 1), (107, .iload 10, 2), (109, .invokevirtual 31, 3), (112, .istore 11, 2), (114, .aload_n 0, 1), (115, .iload_n 1, 1), (116, .iload_n 2, 1), (117, .iload 9, 2), (119, .iload 10, 2), (121, .iload 11, 2), (123, .invokevirtual 96, 3), (126, .iload 9, 2), (128, .iload 10, 2), (130, .invokestatic 100, 3), (133, .istore 12, 2)] : List (Nat × Instr × Nat)).all (fun e => decide (decode prog_5_method_9_code e.1 = .ok e.2)) = true := by decide +kernel
abbrev cl_37_2 : List (Nat × jm_O) := [(87, op_getI 1 3), (90, op_cge 174), (93, op_aload 0 1), (94, op_getA 3 0), (97, op_iload 1 1), (98, op_aald), (99, op_iload 2 1), (100, op_aload 0 1), (101, op_getA 3 0), (104, op_iload 9 2), (106, op_aald), (107, op_iload 10 2), (109, op_callV 1 18 4), (112, op_istore 11 2), (114, op_aload 0 1), (115, op_iload 1 1), (116, op_iload 2 1), (117, op_iload 9 2), (119, op_iload 10 2), (121, op_iload 11 2), (123, op_callV 3 33 6), (126, op_iload 9 2), (128, op_iload 10 2), (130, op_callS 35 3), (133, op_istore 12 2)]
set_option maxRecDepth 100000 in
theorem gl_37_2 : jm_gl "FrescoWall$Fits" prog_5_method_9_code 13 (Option.some Jvm.ClassFile.FieldType.int) false cl_37_2 :=
  jm_gc (pu_getI _ _) (sn_getI (jm_dc dc_37_2 0 rfl) fl_3_85 (Or.inl rfl)) (
  jm_gc (pu_cge _) (sn_cge (jm_dc dc_37_2 1 rfl) (by decide)) (
  jm_gc (pu_aload _ _) (sn_aload_n (i := 0) (jm_dc dc_37_2 2 rfl)) (
  jm_gc (pu_getA _ _) (sn_getA (jm_dc dc_37_2 3 rfl) fl_3_11 rfl) (
  jm_gc (pu_iload _ _) (sn_iload_n (i := 1) (jm_dc dc_37_2 4 rfl)) (
  jm_gc (pu_aald) (sn_aald (jm_dc dc_37_2 5 rfl)) (
  jm_gc (pu_iload _ _) (sn_iload_n (i := 2) (jm_dc dc_37_2 6 rfl)) (
  jm_gc (pu_aload _ _) (sn_aload_n (i := 0) (jm_dc dc_37_2 7 rfl)) (
  jm_gc (pu_getA _ _) (sn_getA (jm_dc dc_37_2 8 rfl) fl_3_11 rfl) (
  jm_gc (pu_iload _ _) (sn_iload (jm_dc dc_37_2 9 rfl)) (
  jm_gc (pu_aald) (sn_aald (jm_dc dc_37_2 10 rfl)) (
  jm_gc (pu_iload _ _) (sn_iload (jm_dc dc_37_2 11 rfl)) (
  jm_gc (pu_callV _ _ _) (sn_callV (jm_dc dc_37_2 12 rfl) lk_3_31) (
  jm_gc (pu_istore _ _) (sn_istore (jm_dc dc_37_2 13 rfl)) (
  jm_gc (pu_aload _ _) (sn_aload_n (i := 0) (jm_dc dc_37_2 14 rfl)) (
  jm_gc (pu_iload _ _) (sn_iload_n (i := 1) (jm_dc dc_37_2 15 rfl)) (
  jm_gc (pu_iload _ _) (sn_iload_n (i := 2) (jm_dc dc_37_2 16 rfl)) (
  jm_gc (pu_iload _ _) (sn_iload (jm_dc dc_37_2 17 rfl)) (
  jm_gc (pu_iload _ _) (sn_iload (jm_dc dc_37_2 18 rfl)) (
  jm_gc (pu_iload _ _) (sn_iload (jm_dc dc_37_2 19 rfl)) (
  jm_gc (pu_callV _ _ _) (sn_callV (jm_dc dc_37_2 20 rfl) lk_3_96) (
  jm_gc (pu_iload _ _) (sn_iload (jm_dc dc_37_2 21 rfl)) (
  jm_gc (pu_iload _ _) (sn_iload (jm_dc dc_37_2 22 rfl)) (
  jm_gc (pu_callS _ _) (sn_callS (jm_dc dc_37_2 23 rfl) lk_3_100) (
  jm_gc (pu_istore _ _) (sn_istore (jm_dc dc_37_2 24 rfl)) (
  jm_gn)))))))))))))))))))))))))
theorem dc_37_3 : ([(135, .iload 12, 2), (137, .iload 6, 2), (139, .if_icmp .eq 29, 3), (142, .iload 12, 2), (144, .iload 8, 2), (146, .if_icmp .ge 22, 3), (149, .aload_n 0, 1), (150, .iload_n 1, 1), (151, .iload_n 2, 1), (152, .iload 9, 2), (154, .iload 10, 2), (156, .invokevirtual 88, 3), (159, .lconst 0, 1), (160, .lcmp, 1), (161, .ifCond .lt 7, 3), (164, .iload 12, 2), (166, .istore 8, 2), (168, .iinc 10 1, 3), (171, .goto (-93), 3), (174, .iinc 9 1, 3), (177, .goto (-111), 3), (180, .iload 8, 2), (182, .iload 7, 2), (184, .if_icmp .le 7, 3), (187, .iconst (-1), 1)] : List (Nat × Instr × Nat)).all (fun e => decide (decode prog_5_method_9_code e.1 = .ok e.2)) = true := by decide +kernel
abbrev cl_37_3 : List (Nat × jm_O) := [(135, op_iload 12 2), (137, op_iload 6 2), (139, op_ceq 168), (142, op_iload 12 2), (144, op_iload 8 2), (146, op_cge 168), (149, op_aload 0 1), (150, op_iload 1 1), (151, op_iload 2 1), (152, op_iload 9 2), (154, op_iload 10 2), (156, op_callV 3 32 5), (159, op_lc 0 1), (160, op_lcmp), (161, op_iflt 168), (164, op_iload 12 2), (166, op_istore 8 2), (168, op_iinc 10 1), (171, op_goto 78), (174, op_iinc 9 1), (177, op_goto 66), (180, op_iload 8 2), (182, op_iload 7 2), (184, op_cle 191), (187, op_ic (-1) 1)]
set_option maxRecDepth 100000 in
theorem gl_37_3 : jm_gl "FrescoWall$Fits" prog_5_method_9_code 13 (Option.some Jvm.ClassFile.FieldType.int) false cl_37_3 :=
  jm_gc (pu_iload _ _) (sn_iload (jm_dc dc_37_3 0 rfl)) (
  jm_gc (pu_iload _ _) (sn_iload (jm_dc dc_37_3 1 rfl)) (
  jm_gc (pu_ceq _) (sn_ceq (jm_dc dc_37_3 2 rfl) (by decide)) (
  jm_gc (pu_iload _ _) (sn_iload (jm_dc dc_37_3 3 rfl)) (
  jm_gc (pu_iload _ _) (sn_iload (jm_dc dc_37_3 4 rfl)) (
  jm_gc (pu_cge _) (sn_cge (jm_dc dc_37_3 5 rfl) (by decide)) (
  jm_gc (pu_aload _ _) (sn_aload_n (i := 0) (jm_dc dc_37_3 6 rfl)) (
  jm_gc (pu_iload _ _) (sn_iload_n (i := 1) (jm_dc dc_37_3 7 rfl)) (
  jm_gc (pu_iload _ _) (sn_iload_n (i := 2) (jm_dc dc_37_3 8 rfl)) (
  jm_gc (pu_iload _ _) (sn_iload (jm_dc dc_37_3 9 rfl)) (
  jm_gc (pu_iload _ _) (sn_iload (jm_dc dc_37_3 10 rfl)) (
  jm_gc (pu_callV _ _ _) (sn_callV (jm_dc dc_37_3 11 rfl) lk_3_88) (
  jm_gc (pu_lc _ _) (sn_lconst (jm_dc dc_37_3 12 rfl) (by decide)) (
  jm_gc (pu_lcmp) (sn_lcmp (jm_dc dc_37_3 13 rfl)) (
  jm_gc (pu_iflt _) (sn_iflt (jm_dc dc_37_3 14 rfl) (by decide)) (
  jm_gc (pu_iload _ _) (sn_iload (jm_dc dc_37_3 15 rfl)) (
  jm_gc (pu_istore _ _) (sn_istore (jm_dc dc_37_3 16 rfl)) (
  jm_gc (pu_iinc _ _) (sn_iinc (jm_dc dc_37_3 17 rfl) (by decide)) (
  jm_gc (pu_goto _) (sn_goto (jm_dc dc_37_3 18 rfl) (by decide)) (
  jm_gc (pu_iinc _ _) (sn_iinc (jm_dc dc_37_3 19 rfl) (by decide)) (
  jm_gc (pu_goto _) (sn_goto (jm_dc dc_37_3 20 rfl) (by decide)) (
  jm_gc (pu_iload _ _) (sn_iload (jm_dc dc_37_3 21 rfl)) (
  jm_gc (pu_iload _ _) (sn_iload (jm_dc dc_37_3 22 rfl)) (
  jm_gc (pu_cle _) (sn_cle (jm_dc dc_37_3 23 rfl) (by decide)) (
  jm_gc (pu_ic _ _) (sn_iconst (jm_dc dc_37_3 24 rfl) (by decide)) (
  jm_gn)))))))))))))))))))))))))
theorem dc_37_4 : ([(188, .goto 9, 3), (191, .iload 8, 2), (193, .sipush 1000, 3), (196, .irem, 1), (197, .ireturn, 1)] : List (Nat × Instr × Nat)).all (fun e => decide (decode prog_5_method_9_code e.1 = .ok e.2)) = true := by decide +kernel
abbrev cl_37_4 : List (Nat × jm_O) := [(188, op_goto 197), (191, op_iload 8 2), (193, op_ic 1000 3), (196, op_idz (fun x y => x - x / y * y)), (197, op_iret)]
set_option maxRecDepth 100000 in
theorem gl_37_4 : jm_gl "FrescoWall$Fits" prog_5_method_9_code 13 (Option.some Jvm.ClassFile.FieldType.int) false cl_37_4 :=
  jm_gc (pu_goto _) (sn_goto (jm_dc dc_37_4 0 rfl) (by decide)) (
  jm_gc (pu_iload _ _) (sn_iload (jm_dc dc_37_4 1 rfl)) (
  jm_gc (pu_ic _ _) (sn_sipush (jm_dc dc_37_4 2 rfl) (by decide)) (
  jm_gc (pu_idz _) (sn_irem (jm_dc dc_37_4 3 rfl)) (
  jm_gc (pu_iret) (sn_iret (jm_dc dc_37_4 4 rfl) rfl) (
  jm_gn)))))
theorem dc_38_0 : ([(0, .aload_n 0, 1), (1, .iload_n 1, 1), (2, .iload_n 2, 1), (3, .iload_n 3, 1), (4, .iload 4, 2), (6, .invokevirtual 88, 3), (9, .lconst 0, 1), (10, .lcmp, 1), (11, .ifCond .lt 31, 3), (14, .aload_n 0, 1), (15, .iload_n 1, 1), (16, .iload_n 2, 1), (17, .iload_n 3, 1), (18, .iload 4, 2), (20, .invokevirtual 107, 3), (23, .ifCond .ge 19, 3), (26, .aload_n 0, 1), (27, .iload_n 3, 1), (28, .iload 4, 2), (30, .iload_n 1, 1), (31, .iload_n 2, 1), (32, .invokevirtual 107, 3), (35, .ifCond .ge 7, 3), (38, .iconst 1, 1), (39, .goto 4, 3)] : List (Nat × Instr × Nat)).all (fun e => decide (decode prog_5_method_10_code e.1 = .ok e.2)) = true := by decide +kernel
abbrev cl_38_0 : List (Nat × jm_O) := [(0, op_aload 0 1), (1, op_iload 1 1), (2, op_iload 2 1), (3, op_iload 3 1), (4, op_iload 4 2), (6, op_callV 3 32 5), (9, op_lc 0 1), (10, op_lcmp), (11, op_iflt 42), (14, op_aload 0 1), (15, op_iload 1 1), (16, op_iload 2 1), (17, op_iload 3 1), (18, op_iload 4 2), (20, op_callV 3 37 5), (23, op_ifge 42), (26, op_aload 0 1), (27, op_iload 3 1), (28, op_iload 4 2), (30, op_iload 1 1), (31, op_iload 2 1), (32, op_callV 3 37 5), (35, op_ifge 42), (38, op_ic 1 1), (39, op_goto 43)]
set_option maxRecDepth 100000 in
theorem gl_38_0 : jm_gl "FrescoWall$Fits" prog_5_method_10_code 5 (Option.some Jvm.ClassFile.FieldType.boolean) false cl_38_0 :=
  jm_gc (pu_aload _ _) (sn_aload_n (i := 0) (jm_dc dc_38_0 0 rfl)) (
  jm_gc (pu_iload _ _) (sn_iload_n (i := 1) (jm_dc dc_38_0 1 rfl)) (
  jm_gc (pu_iload _ _) (sn_iload_n (i := 2) (jm_dc dc_38_0 2 rfl)) (
  jm_gc (pu_iload _ _) (sn_iload_n (i := 3) (jm_dc dc_38_0 3 rfl)) (
  jm_gc (pu_iload _ _) (sn_iload (jm_dc dc_38_0 4 rfl)) (
  jm_gc (pu_callV _ _ _) (sn_callV (jm_dc dc_38_0 5 rfl) lk_3_88) (
  jm_gc (pu_lc _ _) (sn_lconst (jm_dc dc_38_0 6 rfl) (by decide)) (
  jm_gc (pu_lcmp) (sn_lcmp (jm_dc dc_38_0 7 rfl)) (
  jm_gc (pu_iflt _) (sn_iflt (jm_dc dc_38_0 8 rfl) (by decide)) (
  jm_gc (pu_aload _ _) (sn_aload_n (i := 0) (jm_dc dc_38_0 9 rfl)) (
  jm_gc (pu_iload _ _) (sn_iload_n (i := 1) (jm_dc dc_38_0 10 rfl)) (
  jm_gc (pu_iload _ _) (sn_iload_n (i := 2) (jm_dc dc_38_0 11 rfl)) (
  jm_gc (pu_iload _ _) (sn_iload_n (i := 3) (jm_dc dc_38_0 12 rfl)) (
  jm_gc (pu_iload _ _) (sn_iload (jm_dc dc_38_0 13 rfl)) (
  jm_gc (pu_callV _ _ _) (sn_callV (jm_dc dc_38_0 14 rfl) lk_3_107) (
  jm_gc (pu_ifge _) (sn_ifge (jm_dc dc_38_0 15 rfl) (by decide)) (
  jm_gc (pu_aload _ _) (sn_aload_n (i := 0) (jm_dc dc_38_0 16 rfl)) (
  jm_gc (pu_iload _ _) (sn_iload_n (i := 3) (jm_dc dc_38_0 17 rfl)) (
  jm_gc (pu_iload _ _) (sn_iload (jm_dc dc_38_0 18 rfl)) (
  jm_gc (pu_iload _ _) (sn_iload_n (i := 1) (jm_dc dc_38_0 19 rfl)) (
  jm_gc (pu_iload _ _) (sn_iload_n (i := 2) (jm_dc dc_38_0 20 rfl)) (
  jm_gc (pu_callV _ _ _) (sn_callV (jm_dc dc_38_0 21 rfl) lk_3_107) (
  jm_gc (pu_ifge _) (sn_ifge (jm_dc dc_38_0 22 rfl) (by decide)) (
  jm_gc (pu_ic _ _) (sn_iconst (jm_dc dc_38_0 23 rfl) (by decide)) (
  jm_gc (pu_goto _) (sn_goto (jm_dc dc_38_0 24 rfl) (by decide)) (
  jm_gn)))))))))))))))))))))))))
theorem dc_38_1 : ([(42, .iconst 0, 1), (43, .ireturn, 1)] : List (Nat × Instr × Nat)).all (fun e => decide (decode prog_5_method_10_code e.1 = .ok e.2)) = true := by decide +kernel
abbrev cl_38_1 : List (Nat × jm_O) := [(42, op_ic 0 1), (43, op_zret)]
set_option maxRecDepth 100000 in
theorem gl_38_1 : jm_gl "FrescoWall$Fits" prog_5_method_10_code 5 (Option.some Jvm.ClassFile.FieldType.boolean) false cl_38_1 :=
  jm_gc (pu_ic _ _) (sn_iconst (jm_dc dc_38_1 0 rfl) (by decide)) (
  jm_gc (pu_zret) (sn_zret (jm_dc dc_38_1 1 rfl) rfl) (
  jm_gn))
theorem dc_39_0 : ([(0, .lload 5, 2), (2, .invokestatic 111, 3), (5, .lload_n 2, 1), (6, .invokestatic 111, 3), (9, .isub, 1), (10, .istore 7, 2), (12, .lload 5, 2), (14, .invokestatic 114, 3), (17, .lload_n 2, 1), (18, .invokestatic 114, 3), (21, .isub, 1), (22, .istore 8, 2), (24, .aload_n 0, 1), (25, .getfield 11, 3), (28, .iload_n 1, 1), (29, .aaload, 1), (30, .lload_n 2, 1), (31, .invokestatic 92, 3), (34, .aload_n 0, 1), (35, .getfield 11, 3), (38, .iload 4, 2), (40, .aaload, 1), (41, .lload 5, 2), (43, .invokestatic 92, 3), (46, .iload 7, 2)] : List (Nat × Instr × Nat)).all (fun e => decide (decode prog_5_method_11_code e.1 = .ok e.2)) = true := by decide +kernel
abbrev cl_39_0 : List (Nat × jm_O) := [(0, op_lload 5 2), (2, op_callS 307 1), (5, op_lload 2 1), (6, op_callS 307 1), (9, op_ibin (fun x y => x - y)), (10, op_istore 7 2), (12, op_lload 5 2), (14, op_callS 308 1), (17, op_lload 2 1), (18, op_callS 308 1), (21, op_ibin (fun x y => x - y)), (22, op_istore 8 2), (24, op_aload 0 1), (25, op_getA 3 0), (28, op_iload 1 1), (29, op_aald), (30, op_lload 2 1), (31, op_callS 306 1), (34, op_aload 0 1), (35, op_getA 3 0), (38, op_iload 4 2), (40, op_aald), (41, op_lload 5 2), (43, op_callS 306 1), (46, op_iload 7 2)]
set_option maxRecDepth 100000 in
theorem gl_39_0 : jm_gl "FrescoWall$Fits" prog_5_method_11_code 9 (Option.some Jvm.ClassFile.FieldType.boolean) false cl_39_0 :=
  jm_gc (pu_lload _ _) (sn_lload (jm_dc dc_39_0 0 rfl)) (
  jm_gc (pu_callS _ _) (sn_callS (jm_dc dc_39_0 1 rfl) lk_3_111) (
  jm_gc (pu_lload _ _) (sn_lload_n (i := 2) (jm_dc dc_39_0 2 rfl)) (
  jm_gc (pu_callS _ _) (sn_callS (jm_dc dc_39_0 3 rfl) lk_3_111) (
  jm_gc (pu_ibin _) (sn_isub (jm_dc dc_39_0 4 rfl)) (
  jm_gc (pu_istore _ _) (sn_istore (jm_dc dc_39_0 5 rfl)) (
  jm_gc (pu_lload _ _) (sn_lload (jm_dc dc_39_0 6 rfl)) (
  jm_gc (pu_callS _ _) (sn_callS (jm_dc dc_39_0 7 rfl) lk_3_114) (
  jm_gc (pu_lload _ _) (sn_lload_n (i := 2) (jm_dc dc_39_0 8 rfl)) (
  jm_gc (pu_callS _ _) (sn_callS (jm_dc dc_39_0 9 rfl) lk_3_114) (
  jm_gc (pu_ibin _) (sn_isub (jm_dc dc_39_0 10 rfl)) (
  jm_gc (pu_istore _ _) (sn_istore (jm_dc dc_39_0 11 rfl)) (
  jm_gc (pu_aload _ _) (sn_aload_n (i := 0) (jm_dc dc_39_0 12 rfl)) (
  jm_gc (pu_getA _ _) (sn_getA (jm_dc dc_39_0 13 rfl) fl_3_11 rfl) (
  jm_gc (pu_iload _ _) (sn_iload_n (i := 1) (jm_dc dc_39_0 14 rfl)) (
  jm_gc (pu_aald) (sn_aald (jm_dc dc_39_0 15 rfl)) (
  jm_gc (pu_lload _ _) (sn_lload_n (i := 2) (jm_dc dc_39_0 16 rfl)) (
  jm_gc (pu_callS _ _) (sn_callS (jm_dc dc_39_0 17 rfl) lk_3_92) (
  jm_gc (pu_aload _ _) (sn_aload_n (i := 0) (jm_dc dc_39_0 18 rfl)) (
  jm_gc (pu_getA _ _) (sn_getA (jm_dc dc_39_0 19 rfl) fl_3_11 rfl) (
  jm_gc (pu_iload _ _) (sn_iload (jm_dc dc_39_0 20 rfl)) (
  jm_gc (pu_aald) (sn_aald (jm_dc dc_39_0 21 rfl)) (
  jm_gc (pu_lload _ _) (sn_lload (jm_dc dc_39_0 22 rfl)) (
  jm_gc (pu_callS _ _) (sn_callS (jm_dc dc_39_0 23 rfl) lk_3_92) (
  jm_gc (pu_iload _ _) (sn_iload (jm_dc dc_39_0 24 rfl)) (
  jm_gn)))))))))))))))))))))))))
theorem dc_39_1 : ([(48, .iload 8, 2), (50, .invokevirtual 56, 3), (53, .aload_n 0, 1), (54, .getfield 60, 3), (57, .if_icmp .le 7, 3), (60, .iconst 1, 1), (61, .goto 4, 3), (64, .iconst 0, 1), (65, .ireturn, 1)] : List (Nat × Instr × Nat)).all (fun e => decide (decode prog_5_method_11_code e.1 = .ok e.2)) = true := by decide +kernel
abbrev cl_39_1 : List (Nat × jm_O) := [(48, op_iload 8 2), (50, op_callV 1 16 6), (53, op_aload 0 1), (54, op_getI 3 2), (57, op_cle 64), (60, op_ic 1 1), (61, op_goto 65), (64, op_ic 0 1), (65, op_zret)]
set_option maxRecDepth 100000 in
theorem gl_39_1 : jm_gl "FrescoWall$Fits" prog_5_method_11_code 9 (Option.some Jvm.ClassFile.FieldType.boolean) false cl_39_1 :=
  jm_gc (pu_iload _ _) (sn_iload (jm_dc dc_39_1 0 rfl)) (
  jm_gc (pu_callV _ _ _) (sn_callV (jm_dc dc_39_1 1 rfl) lk_3_56) (
  jm_gc (pu_aload _ _) (sn_aload_n (i := 0) (jm_dc dc_39_1 2 rfl)) (
  jm_gc (pu_getI _ _) (sn_getI (jm_dc dc_39_1 3 rfl) fl_3_60 (Or.inl rfl)) (
  jm_gc (pu_cle _) (sn_cle (jm_dc dc_39_1 4 rfl) (by decide)) (
  jm_gc (pu_ic _ _) (sn_iconst (jm_dc dc_39_1 5 rfl) (by decide)) (
  jm_gc (pu_goto _) (sn_goto (jm_dc dc_39_1 6 rfl) (by decide)) (
  jm_gc (pu_ic _ _) (sn_iconst (jm_dc dc_39_1 7 rfl) (by decide)) (
  jm_gc (pu_zret) (sn_zret (jm_dc dc_39_1 8 rfl) rfl) (
  jm_gn)))))))))
theorem dc_77_0 : ([(0, .aload_n 0, 1), (1, .invokespecial 3, 3), (4, .aload_n 0, 1), (5, .bipush 8, 2), (7, .newarray .int, 2), (9, .putfield 9, 3), (12, .aload_n 0, 1), (13, .bipush 8, 2), (15, .newarray .int, 2), (17, .putfield 15, 3), (20, .aload_n 0, 1), (21, .bipush 8, 2), (23, .newarray .int, 2), (25, .putfield 18, 3), (28, .aload_n 0, 1), (29, .iconst 5, 1), (30, .newarray .int, 2), (32, .putfield 21, 3), (35, .aload_n 0, 1), (36, .iconst 5, 1), (37, .newarray .int, 2), (39, .putfield 24, 3), (42, .aload_n 0, 1), (43, .iconst 5, 1), (44, .newarray .int, 2)] : List (Nat × Instr × Nat)).all (fun e => decide (decode prog_10_method_1_code e.1 = .ok e.2)) = true := by decide +kernel
abbrev cl_77_0 : List (Nat × jm_O) := [(0, op_aload 0 1), (1, op_objInit), (4, op_aload 0 1), (5, op_ic 8 2), (7, op_newa 13 2), (9, op_putA 7 4), (12, op_aload 0 1), (13, op_ic 8 2), (15, op_newa 13 2), (17, op_putA 7 5), (20, op_aload 0 1), (21, op_ic 8 2), (23, op_newa 13 2), (25, op_putA 7 6), (28, op_aload 0 1), (29, op_ic 5 1), (30, op_newa 13 2), (32, op_putA 7 8), (35, op_aload 0 1), (36, op_ic 5 1), (37, op_newa 13 2), (39, op_putA 7 9), (42, op_aload 0 1), (43, op_ic 5 1), (44, op_newa 13 2)]
set_option maxRecDepth 100000 in
theorem gl_77_0 : jm_gl "FrescoWall$Sketch" prog_10_method_1_code 2 (Option.none : Option Jvm.ClassFile.FieldType) true cl_77_0 :=
  jm_gc (pu_aload _ _) (sn_aload_n (i := 0) (jm_dc dc_77_0 0 rfl)) (
  jm_gc (pu_objInit) (sn_objInit (jm_dc dc_77_0 1 rfl) ⟨kc_tb 48 (by decide +kernel), kc_tb 23 (by decide +kernel), kc_tb 24 (by decide +kernel)⟩) (
  jm_gc (pu_aload _ _) (sn_aload_n (i := 0) (jm_dc dc_77_0 2 rfl)) (
  jm_gc (pu_ic _ _) (sn_bipush (jm_dc dc_77_0 3 rfl) (by decide)) (
  jm_gc (pu_newa _ _) (sn_newI (jm_dc dc_77_0 4 rfl) (kc_tb 91 (by decide +kernel))) (
  jm_gc (pu_putA _ _) (sn_putAF (jm_dc dc_77_0 5 rfl) flw_7_9 rfl rfl) (
  jm_gc (pu_aload _ _) (sn_aload_n (i := 0) (jm_dc dc_77_0 6 rfl)) (
  jm_gc (pu_ic _ _) (sn_bipush (jm_dc dc_77_0 7 rfl) (by decide)) (
  jm_gc (pu_newa _ _) (sn_newI (jm_dc dc_77_0 8 rfl) (kc_tb 91 (by decide +kernel))) (
  jm_gc (pu_putA _ _) (sn_putAF (jm_dc dc_77_0 9 rfl) flw_7_15 rfl rfl) (
  jm_gc (pu_aload _ _) (sn_aload_n (i := 0) (jm_dc dc_77_0 10 rfl)) (
  jm_gc (pu_ic _ _) (sn_bipush (jm_dc dc_77_0 11 rfl) (by decide)) (
  jm_gc (pu_newa _ _) (sn_newI (jm_dc dc_77_0 12 rfl) (kc_tb 91 (by decide +kernel))) (
  jm_gc (pu_putA _ _) (sn_putAF (jm_dc dc_77_0 13 rfl) flw_7_18 rfl rfl) (
  jm_gc (pu_aload _ _) (sn_aload_n (i := 0) (jm_dc dc_77_0 14 rfl)) (
  jm_gc (pu_ic _ _) (sn_iconst (jm_dc dc_77_0 15 rfl) (by decide)) (
  jm_gc (pu_newa _ _) (sn_newI (jm_dc dc_77_0 16 rfl) (kc_tb 91 (by decide +kernel))) (
  jm_gc (pu_putA _ _) (sn_putAF (jm_dc dc_77_0 17 rfl) flw_7_21 rfl rfl) (
  jm_gc (pu_aload _ _) (sn_aload_n (i := 0) (jm_dc dc_77_0 18 rfl)) (
  jm_gc (pu_ic _ _) (sn_iconst (jm_dc dc_77_0 19 rfl) (by decide)) (
  jm_gc (pu_newa _ _) (sn_newI (jm_dc dc_77_0 20 rfl) (kc_tb 91 (by decide +kernel))) (
  jm_gc (pu_putA _ _) (sn_putAF (jm_dc dc_77_0 21 rfl) flw_7_24 rfl rfl) (
  jm_gc (pu_aload _ _) (sn_aload_n (i := 0) (jm_dc dc_77_0 22 rfl)) (
  jm_gc (pu_ic _ _) (sn_iconst (jm_dc dc_77_0 23 rfl) (by decide)) (
  jm_gc (pu_newa _ _) (sn_newI (jm_dc dc_77_0 24 rfl) (kc_tb 91 (by decide +kernel))) (
  jm_gn)))))))))))))))))))))))))
theorem dc_77_1 : ([(46, .putfield 27, 3), (49, .aload_n 0, 1), (50, .aload_n 1, 1), (51, .putfield 30, 3), (54, .return_, 1)] : List (Nat × Instr × Nat)).all (fun e => decide (decode prog_10_method_1_code e.1 = .ok e.2)) = true := by decide +kernel
abbrev cl_77_1 : List (Nat × jm_O) := [(46, op_putA 7 10), (49, op_aload 0 1), (50, op_aload 1 1), (51, op_putA 7 0), (54, op_vret)]
set_option maxRecDepth 100000 in
theorem gl_77_1 : jm_gl "FrescoWall$Sketch" prog_10_method_1_code 2 (Option.none : Option Jvm.ClassFile.FieldType) true cl_77_1 :=
  jm_gc (pu_putA _ _) (sn_putAF (jm_dc dc_77_1 0 rfl) flw_7_27 rfl rfl) (
  jm_gc (pu_aload _ _) (sn_aload_n (i := 0) (jm_dc dc_77_1 1 rfl)) (
  jm_gc (pu_aload _ _) (sn_aload_n (i := 1) (jm_dc dc_77_1 2 rfl)) (
  jm_gc (pu_putA _ _) (sn_putAF (jm_dc dc_77_1 3 rfl) flw_7_30 rfl rfl) (
  jm_gc (pu_vret) (sn_vret (jm_dc dc_77_1 4 rfl) rfl) (
  jm_gn)))))
theorem dc_78_0 : ([(0, .aload_n 0, 1), (1, .iconst 0, 1), (2, .putfield 34, 3), (5, .aload_n 0, 1), (6, .iconst 0, 1), (7, .putfield 38, 3), (10, .aload_n 0, 1), (11, .iconst 0, 1), (12, .putfield 41, 3), (15, .aload_n 0, 1), (16, .getfield 38, 3), (19, .bipush 8, 2), (21, .if_icmp .ge 62, 3), (24, .aload_n 0, 1), (25, .getfield 38, 3), (28, .ifCond .eq 12, 3), (31, .aload_n 0, 1), (32, .bipush 59, 2), (34, .invokevirtual 44, 3), (37, .ifCond .eq 46, 3), (40, .aload_n 0, 1), (41, .bipush 58, 2), (43, .aload_n 0, 1), (44, .getfield 9, 3), (47, .aload_n 0, 1)] : List (Nat × Instr × Nat)).all (fun e => decide (decode prog_10_method_2_code e.1 = .ok e.2)) = true := by decide +kernel
abbrev cl_78_0 : List (Nat × jm_O) := [(0, op_aload 0 1), (1, op_ic 0 1), (2, op_putI 7 1), (5, op_aload 0 1), (6, op_ic 0 1), (7, op_putI 7 3), (10, op_aload 0 1), (11, op_ic 0 1), (12, op_putI 7 7), (15, op_aload 0 1), (16, op_getI 7 3), (19, op_ic 8 2), (21, op_cge 83), (24, op_aload 0 1), (25, op_getI 7 3), (28, op_ifeq 40), (31, op_aload 0 1), (32, op_ic 59 2), (34, op_callV 7 79 2), (37, op_ifeq 83), (40, op_aload 0 1), (41, op_ic 58 2), (43, op_aload 0 1), (44, op_getA 7 4), (47, op_aload 0 1)]
set_option maxRecDepth 100000 in
theorem gl_78_0 : jm_gl "FrescoWall$Sketch" prog_10_method_2_code 1 (Option.some Jvm.ClassFile.FieldType.int) false cl_78_0 :=
  jm_gc (pu_aload _ _) (sn_aload_n (i := 0) (jm_dc dc_78_0 0 rfl)) (
  jm_gc (pu_ic _ _) (sn_iconst (jm_dc dc_78_0 1 rfl) (by decide)) (
  jm_gc (pu_putI _ _) (sn_putI (jm_dc dc_78_0 2 rfl) flw_7_34 rfl) (
  jm_gc (pu_aload _ _) (sn_aload_n (i := 0) (jm_dc dc_78_0 3 rfl)) (
  jm_gc (pu_ic _ _) (sn_iconst (jm_dc dc_78_0 4 rfl) (by decide)) (
  jm_gc (pu_putI _ _) (sn_putI (jm_dc dc_78_0 5 rfl) flw_7_38 rfl) (
  jm_gc (pu_aload _ _) (sn_aload_n (i := 0) (jm_dc dc_78_0 6 rfl)) (
  jm_gc (pu_ic _ _) (sn_iconst (jm_dc dc_78_0 7 rfl) (by decide)) (
  jm_gc (pu_putI _ _) (sn_putI (jm_dc dc_78_0 8 rfl) flw_7_41 rfl) (
  jm_gc (pu_aload _ _) (sn_aload_n (i := 0) (jm_dc dc_78_0 9 rfl)) (
  jm_gc (pu_getI _ _) (sn_getI (jm_dc dc_78_0 10 rfl) fl_7_38 (Or.inl rfl)) (
  jm_gc (pu_ic _ _) (sn_bipush (jm_dc dc_78_0 11 rfl) (by decide)) (
  jm_gc (pu_cge _) (sn_cge (jm_dc dc_78_0 12 rfl) (by decide)) (
  jm_gc (pu_aload _ _) (sn_aload_n (i := 0) (jm_dc dc_78_0 13 rfl)) (
  jm_gc (pu_getI _ _) (sn_getI (jm_dc dc_78_0 14 rfl) fl_7_38 (Or.inl rfl)) (
  jm_gc (pu_ifeq _) (sn_ifeq (jm_dc dc_78_0 15 rfl) (by decide)) (
  jm_gc (pu_aload _ _) (sn_aload_n (i := 0) (jm_dc dc_78_0 16 rfl)) (
  jm_gc (pu_ic _ _) (sn_bipush (jm_dc dc_78_0 17 rfl) (by decide)) (
  jm_gc (pu_callV _ _ _) (sn_callV (jm_dc dc_78_0 18 rfl) lk_7_44) (
  jm_gc (pu_ifeq _) (sn_ifeq (jm_dc dc_78_0 19 rfl) (by decide)) (
  jm_gc (pu_aload _ _) (sn_aload_n (i := 0) (jm_dc dc_78_0 20 rfl)) (
  jm_gc (pu_ic _ _) (sn_bipush (jm_dc dc_78_0 21 rfl) (by decide)) (
  jm_gc (pu_aload _ _) (sn_aload_n (i := 0) (jm_dc dc_78_0 22 rfl)) (
  jm_gc (pu_getA _ _) (sn_getA (jm_dc dc_78_0 23 rfl) fl_7_9 rfl) (
  jm_gc (pu_aload _ _) (sn_aload_n (i := 0) (jm_dc dc_78_0 24 rfl)) (
  jm_gn)))))))))))))))))))))))))
theorem dc_78_1 : ([(48, .getfield 15, 3), (51, .aload_n 0, 1), (52, .getfield 18, 3), (55, .aload_n 0, 1), (56, .getfield 38, 3), (59, .invokevirtual 48, 3), (62, .ifCond .ne 8, 3), (65, .aload_n 0, 1), (66, .getfield 34, 3), (69, .ireturn, 1), (70, .aload_n 0, 1), (71, .dup, 1), (72, .getfield 38, 3), (75, .iconst 1, 1), (76, .iadd, 1), (77, .putfield 38, 3), (80, .goto (-65), 3), (83, .aload_n 0, 1), (84, .getfield 38, 3), (87, .iconst 3, 1), (88, .if_icmp .ge 8, 3), (91, .aload_n 0, 1), (92, .getfield 34, 3), (95, .ireturn, 1), (96, .aload_n 0, 1)] : List (Nat × Instr × Nat)).all (fun e => decide (decode prog_10_method_2_code e.1 = .ok e.2)) = true := by decide +kernel
abbrev cl_78_1 : List (Nat × jm_O) := [(48, op_getA 7 5), (51, op_aload 0 1), (52, op_getA 7 6), (55, op_aload 0 1), (56, op_getI 7 3), (59, op_callV 7 80 6), (62, op_ifne 70), (65, op_aload 0 1), (66, op_getI 7 1), (69, op_iret), (70, op_aload 0 1), (71, op_dup), (72, op_getI 7 3), (75, op_ic 1 1), (76, op_ibin (fun x y => x + y)), (77, op_putI 7 3), (80, op_goto 15), (83, op_aload 0 1), (84, op_getI 7 3), (87, op_ic 3 1), (88, op_cge 96), (91, op_aload 0 1), (92, op_getI 7 1), (95, op_iret), (96, op_aload 0 1)]
set_option maxRecDepth 100000 in
theorem gl_78_1 : jm_gl "FrescoWall$Sketch" prog_10_method_2_code 1 (Option.some Jvm.ClassFile.FieldType.int) false cl_78_1 :=
  jm_gc (pu_getA _ _) (sn_getA (jm_dc dc_78_1 0 rfl) fl_7_15 rfl) (
  jm_gc (pu_aload _ _) (sn_aload_n (i := 0) (jm_dc dc_78_1 1 rfl)) (
  jm_gc (pu_getA _ _) (sn_getA (jm_dc dc_78_1 2 rfl) fl_7_18 rfl) (
  jm_gc (pu_aload _ _) (sn_aload_n (i := 0) (jm_dc dc_78_1 3 rfl)) (
  jm_gc (pu_getI _ _) (sn_getI (jm_dc dc_78_1 4 rfl) fl_7_38 (Or.inl rfl)) (
  jm_gc (pu_callV _ _ _) (sn_callV (jm_dc dc_78_1 5 rfl) lk_7_48) (
  jm_gc (pu_ifne _) (sn_ifne (jm_dc dc_78_1 6 rfl) (by decide)) (
  jm_gc (pu_aload _ _) (sn_aload_n (i := 0) (jm_dc dc_78_1 7 rfl)) (
  jm_gc (pu_getI _ _) (sn_getI (jm_dc dc_78_1 8 rfl) fl_7_34 (Or.inl rfl)) (
  jm_gc (pu_iret) (sn_iret (jm_dc dc_78_1 9 rfl) rfl) (
  jm_gc (pu_aload _ _) (sn_aload_n (i := 0) (jm_dc dc_78_1 10 rfl)) (
  jm_gc (pu_dup) (sn_dup (jm_dc dc_78_1 11 rfl)) (
  jm_gc (pu_getI _ _) (sn_getI (jm_dc dc_78_1 12 rfl) fl_7_38 (Or.inl rfl)) (
  jm_gc (pu_ic _ _) (sn_iconst (jm_dc dc_78_1 13 rfl) (by decide)) (
  jm_gc (pu_ibin _) (sn_iadd (jm_dc dc_78_1 14 rfl)) (
  jm_gc (pu_putI _ _) (sn_putI (jm_dc dc_78_1 15 rfl) flw_7_38 rfl) (
  jm_gc (pu_goto _) (sn_goto (jm_dc dc_78_1 16 rfl) (by decide)) (
  jm_gc (pu_aload _ _) (sn_aload_n (i := 0) (jm_dc dc_78_1 17 rfl)) (
  jm_gc (pu_getI _ _) (sn_getI (jm_dc dc_78_1 18 rfl) fl_7_38 (Or.inl rfl)) (
  jm_gc (pu_ic _ _) (sn_iconst (jm_dc dc_78_1 19 rfl) (by decide)) (
  jm_gc (pu_cge _) (sn_cge (jm_dc dc_78_1 20 rfl) (by decide)) (
  jm_gc (pu_aload _ _) (sn_aload_n (i := 0) (jm_dc dc_78_1 21 rfl)) (
  jm_gc (pu_getI _ _) (sn_getI (jm_dc dc_78_1 22 rfl) fl_7_34 (Or.inl rfl)) (
  jm_gc (pu_iret) (sn_iret (jm_dc dc_78_1 23 rfl) rfl) (
  jm_gc (pu_aload _ _) (sn_aload_n (i := 0) (jm_dc dc_78_1 24 rfl)) (
  jm_gn)))))))))))))))))))))))))
theorem dc_78_2 : ([(97, .getfield 41, 3), (100, .iconst 5, 1), (101, .if_icmp .ge 55, 3), (104, .aload_n 0, 1), (105, .bipush 124, 2), (107, .invokevirtual 44, 3), (110, .ifCond .eq 46, 3), (113, .aload_n 0, 1), (114, .bipush 61, 2), (116, .aload_n 0, 1), (117, .getfield 21, 3), (120, .aload_n 0, 1), (121, .getfield 24, 3), (124, .aload_n 0, 1), (125, .getfield 27, 3), (128, .aload_n 0, 1), (129, .getfield 41, 3), (132, .invokevirtual 48, 3), (135, .ifCond .ne 8, 3), (138, .aload_n 0, 1), (139, .getfield 34, 3), (142, .ireturn, 1), (143, .aload_n 0, 1), (144, .dup, 1), (145, .getfield 41, 3)] : List (Nat × Instr × Nat)).all (fun e => decide (decode prog_10_method_2_code e.1 = .ok e.2)) = true := by decide +kernel
abbrev cl_78_2 : List (Nat × jm_O) := [(97, op_getI 7 7), (100, op_ic 5 1), (101, op_cge 156), (104, op_aload 0 1), (105, op_ic 124 2), (107, op_callV 7 79 2), (110, op_ifeq 156), (113, op_aload 0 1), (114, op_ic 61 2), (116, op_aload 0 1), (117, op_getA 7 8), (120, op_aload 0 1), (121, op_getA 7 9), (124, op_aload 0 1), (125, op_getA 7 10), (128, op_aload 0 1), (129, op_getI 7 7), (132, op_callV 7 80 6), (135, op_ifne 143), (138, op_aload 0 1), (139, op_getI 7 1), (142, op_iret), (143, op_aload 0 1), (144, op_dup), (145, op_getI 7 7)]
set_option maxRecDepth 100000 in
theorem gl_78_2 : jm_gl "FrescoWall$Sketch" prog_10_method_2_code 1 (Option.some Jvm.ClassFile.FieldType.int) false cl_78_2 :=
  jm_gc (pu_getI _ _) (sn_getI (jm_dc dc_78_2 0 rfl) fl_7_41 (Or.inl rfl)) (
  jm_gc (pu_ic _ _) (sn_iconst (jm_dc dc_78_2 1 rfl) (by decide)) (
  jm_gc (pu_cge _) (sn_cge (jm_dc dc_78_2 2 rfl) (by decide)) (
  jm_gc (pu_aload _ _) (sn_aload_n (i := 0) (jm_dc dc_78_2 3 rfl)) (
  jm_gc (pu_ic _ _) (sn_bipush (jm_dc dc_78_2 4 rfl) (by decide)) (
  jm_gc (pu_callV _ _ _) (sn_callV (jm_dc dc_78_2 5 rfl) lk_7_44) (
  jm_gc (pu_ifeq _) (sn_ifeq (jm_dc dc_78_2 6 rfl) (by decide)) (
  jm_gc (pu_aload _ _) (sn_aload_n (i := 0) (jm_dc dc_78_2 7 rfl)) (
  jm_gc (pu_ic _ _) (sn_bipush (jm_dc dc_78_2 8 rfl) (by decide)) (
  jm_gc (pu_aload _ _) (sn_aload_n (i := 0) (jm_dc dc_78_2 9 rfl)) (
  jm_gc (pu_getA _ _) (sn_getA (jm_dc dc_78_2 10 rfl) fl_7_21 rfl) (
  jm_gc (pu_aload _ _) (sn_aload_n (i := 0) (jm_dc dc_78_2 11 rfl)) (
  jm_gc (pu_getA _ _) (sn_getA (jm_dc dc_78_2 12 rfl) fl_7_24 rfl) (
  jm_gc (pu_aload _ _) (sn_aload_n (i := 0) (jm_dc dc_78_2 13 rfl)) (
  jm_gc (pu_getA _ _) (sn_getA (jm_dc dc_78_2 14 rfl) fl_7_27 rfl) (
  jm_gc (pu_aload _ _) (sn_aload_n (i := 0) (jm_dc dc_78_2 15 rfl)) (
  jm_gc (pu_getI _ _) (sn_getI (jm_dc dc_78_2 16 rfl) fl_7_41 (Or.inl rfl)) (
  jm_gc (pu_callV _ _ _) (sn_callV (jm_dc dc_78_2 17 rfl) lk_7_48) (
  jm_gc (pu_ifne _) (sn_ifne (jm_dc dc_78_2 18 rfl) (by decide)) (
  jm_gc (pu_aload _ _) (sn_aload_n (i := 0) (jm_dc dc_78_2 19 rfl)) (
  jm_gc (pu_getI _ _) (sn_getI (jm_dc dc_78_2 20 rfl) fl_7_34 (Or.inl rfl)) (
  jm_gc (pu_iret) (sn_iret (jm_dc dc_78_2 21 rfl) rfl) (
  jm_gc (pu_aload _ _) (sn_aload_n (i := 0) (jm_dc dc_78_2 22 rfl)) (
  jm_gc (pu_dup) (sn_dup (jm_dc dc_78_2 23 rfl)) (
  jm_gc (pu_getI _ _) (sn_getI (jm_dc dc_78_2 24 rfl) fl_7_41 (Or.inl rfl)) (
  jm_gn)))))))))))))))))))))))))
theorem dc_78_3 : ([(148, .iconst 1, 1), (149, .iadd, 1), (150, .putfield 41, 3), (153, .goto (-57), 3), (156, .aload_n 0, 1), (157, .getfield 34, 3), (160, .aload_n 0, 1), (161, .getfield 30, 3), (164, .getfield 52, 3), (167, .if_icmp .ne 7, 3), (170, .iconst (-1), 1), (171, .goto 7, 3), (174, .aload_n 0, 1), (175, .getfield 34, 3), (178, .ireturn, 1)] : List (Nat × Instr × Nat)).all (fun e => decide (decode prog_10_method_2_code e.1 = .ok e.2)) = true := by decide +kernel
abbrev cl_78_3 : List (Nat × jm_O) := [(148, op_ic 1 1), (149, op_ibin (fun x y => x + y)), (150, op_putI 7 7), (153, op_goto 96), (156, op_aload 0 1), (157, op_getI 7 1), (160, op_aload 0 1), (161, op_getA 7 0), (164, op_getI 8 0), (167, op_cne 174), (170, op_ic (-1) 1), (171, op_goto 178), (174, op_aload 0 1), (175, op_getI 7 1), (178, op_iret)]
set_option maxRecDepth 100000 in
theorem gl_78_3 : jm_gl "FrescoWall$Sketch" prog_10_method_2_code 1 (Option.some Jvm.ClassFile.FieldType.int) false cl_78_3 :=
  jm_gc (pu_ic _ _) (sn_iconst (jm_dc dc_78_3 0 rfl) (by decide)) (
  jm_gc (pu_ibin _) (sn_iadd (jm_dc dc_78_3 1 rfl)) (
  jm_gc (pu_putI _ _) (sn_putI (jm_dc dc_78_3 2 rfl) flw_7_41 rfl) (
  jm_gc (pu_goto _) (sn_goto (jm_dc dc_78_3 3 rfl) (by decide)) (
  jm_gc (pu_aload _ _) (sn_aload_n (i := 0) (jm_dc dc_78_3 4 rfl)) (
  jm_gc (pu_getI _ _) (sn_getI (jm_dc dc_78_3 5 rfl) fl_7_34 (Or.inl rfl)) (
  jm_gc (pu_aload _ _) (sn_aload_n (i := 0) (jm_dc dc_78_3 6 rfl)) (
  jm_gc (pu_getA _ _) (sn_getA (jm_dc dc_78_3 7 rfl) fl_7_30 rfl) (
  jm_gc (pu_getI _ _) (sn_getI (jm_dc dc_78_3 8 rfl) fl_7_52 (Or.inl rfl)) (
  jm_gc (pu_cne _) (sn_cne (jm_dc dc_78_3 9 rfl) (by decide)) (
  jm_gc (pu_ic _ _) (sn_iconst (jm_dc dc_78_3 10 rfl) (by decide)) (
  jm_gc (pu_goto _) (sn_goto (jm_dc dc_78_3 11 rfl) (by decide)) (
  jm_gc (pu_aload _ _) (sn_aload_n (i := 0) (jm_dc dc_78_3 12 rfl)) (
  jm_gc (pu_getI _ _) (sn_getI (jm_dc dc_78_3 13 rfl) fl_7_34 (Or.inl rfl)) (
  jm_gc (pu_iret) (sn_iret (jm_dc dc_78_3 14 rfl) rfl) (
  jm_gn)))))))))))))))
theorem dc_79_0 : ([(0, .aload_n 0, 1), (1, .getfield 30, 3), (4, .aload_n 0, 1), (5, .getfield 34, 3), (8, .invokevirtual 57, 3), (11, .iload_n 1, 1), (12, .if_icmp .eq 5, 3), (15, .iconst 0, 1), (16, .ireturn, 1), (17, .aload_n 0, 1), (18, .dup, 1), (19, .getfield 34, 3), (22, .iconst 1, 1), (23, .iadd, 1), (24, .putfield 34, 3), (27, .iconst 1, 1), (28, .ireturn, 1)] : List (Nat × Instr × Nat)).all (fun e => decide (decode prog_10_method_3_code e.1 = .ok e.2)) = true := by decide +kernel
abbrev cl_79_0 : List (Nat × jm_O) := [(0, op_aload 0 1), (1, op_getA 7 0), (4, op_aload 0 1), (5, op_getI 7 1), (8, op_callV 8 96 2), (11, op_iload 1 1), (12, op_ceq 17), (15, op_ic 0 1), (16, op_zret), (17, op_aload 0 1), (18, op_dup), (19, op_getI 7 1), (22, op_ic 1 1), (23, op_ibin (fun x y => x + y)), (24, op_putI 7 1), (27, op_ic 1 1), (28, op_zret)]
set_option maxRecDepth 100000 in
theorem gl_79_0 : jm_gl "FrescoWall$Sketch" prog_10_method_3_code 2 (Option.some Jvm.ClassFile.FieldType.boolean) false cl_79_0 :=
  jm_gc (pu_aload _ _) (sn_aload_n (i := 0) (jm_dc dc_79_0 0 rfl)) (
  jm_gc (pu_getA _ _) (sn_getA (jm_dc dc_79_0 1 rfl) fl_7_30 rfl) (
  jm_gc (pu_aload _ _) (sn_aload_n (i := 0) (jm_dc dc_79_0 2 rfl)) (
  jm_gc (pu_getI _ _) (sn_getI (jm_dc dc_79_0 3 rfl) fl_7_34 (Or.inl rfl)) (
  jm_gc (pu_callV _ _ _) (sn_callV (jm_dc dc_79_0 4 rfl) lk_7_57) (
  jm_gc (pu_iload _ _) (sn_iload_n (i := 1) (jm_dc dc_79_0 5 rfl)) (
  jm_gc (pu_ceq _) (sn_ceq (jm_dc dc_79_0 6 rfl) (by decide)) (
  jm_gc (pu_ic _ _) (sn_iconst (jm_dc dc_79_0 7 rfl) (by decide)) (
  jm_gc (pu_zret) (sn_zret (jm_dc dc_79_0 8 rfl) rfl) (
  jm_gc (pu_aload _ _) (sn_aload_n (i := 0) (jm_dc dc_79_0 9 rfl)) (
  jm_gc (pu_dup) (sn_dup (jm_dc dc_79_0 10 rfl)) (
  jm_gc (pu_getI _ _) (sn_getI (jm_dc dc_79_0 11 rfl) fl_7_34 (Or.inl rfl)) (
  jm_gc (pu_ic _ _) (sn_iconst (jm_dc dc_79_0 12 rfl) (by decide)) (
  jm_gc (pu_ibin _) (sn_iadd (jm_dc dc_79_0 13 rfl)) (
  jm_gc (pu_putI _ _) (sn_putI (jm_dc dc_79_0 14 rfl) flw_7_34 rfl) (
  jm_gc (pu_ic _ _) (sn_iconst (jm_dc dc_79_0 15 rfl) (by decide)) (
  jm_gc (pu_zret) (sn_zret (jm_dc dc_79_0 16 rfl) rfl) (
  jm_gn)))))))))))))))))
theorem dc_80_0 : ([(0, .aload_n 0, 1), (1, .invokevirtual 61, 3), (4, .ifCond .ne 5, 3), (7, .iconst 0, 1), (8, .ireturn, 1), (9, .aload_n 2, 1), (10, .iload 5, 2), (12, .aload_n 0, 1), (13, .getfield 65, 3), (16, .iastore, 1), (17, .aload_n 0, 1), (18, .bipush 44, 2), (20, .invokevirtual 44, 3), (23, .ifCond .eq 10, 3), (26, .aload_n 0, 1), (27, .invokevirtual 61, 3), (30, .ifCond .ne 5, 3), (33, .iconst 0, 1), (34, .ireturn, 1), (35, .aload_n 3, 1), (36, .iload 5, 2), (38, .aload_n 0, 1), (39, .getfield 65, 3), (42, .iastore, 1), (43, .aload_n 0, 1)] : List (Nat × Instr × Nat)).all (fun e => decide (decode prog_10_method_4_code e.1 = .ok e.2)) = true := by decide +kernel
abbrev cl_80_0 : List (Nat × jm_O) := [(0, op_aload 0 1), (1, op_callV 7 81 1), (4, op_ifne 9), (7, op_ic 0 1), (8, op_zret), (9, op_aload 2 1), (10, op_iload 5 2), (12, op_aload 0 1), (13, op_getI 7 2), (16, op_iast), (17, op_aload 0 1), (18, op_ic 44 2), (20, op_callV 7 79 2), (23, op_ifeq 33), (26, op_aload 0 1), (27, op_callV 7 81 1), (30, op_ifne 35), (33, op_ic 0 1), (34, op_zret), (35, op_aload 3 1), (36, op_iload 5 2), (38, op_aload 0 1), (39, op_getI 7 2), (42, op_iast), (43, op_aload 0 1)]
set_option maxRecDepth 100000 in
theorem gl_80_0 : jm_gl "FrescoWall$Sketch" prog_10_method_4_code 6 (Option.some Jvm.ClassFile.FieldType.boolean) false cl_80_0 :=
  jm_gc (pu_aload _ _) (sn_aload_n (i := 0) (jm_dc dc_80_0 0 rfl)) (
  jm_gc (pu_callV _ _ _) (sn_callV (jm_dc dc_80_0 1 rfl) lk_7_61) (
  jm_gc (pu_ifne _) (sn_ifne (jm_dc dc_80_0 2 rfl) (by decide)) (
  jm_gc (pu_ic _ _) (sn_iconst (jm_dc dc_80_0 3 rfl) (by decide)) (
  jm_gc (pu_zret) (sn_zret (jm_dc dc_80_0 4 rfl) rfl) (
  jm_gc (pu_aload _ _) (sn_aload_n (i := 2) (jm_dc dc_80_0 5 rfl)) (
  jm_gc (pu_iload _ _) (sn_iload (jm_dc dc_80_0 6 rfl)) (
  jm_gc (pu_aload _ _) (sn_aload_n (i := 0) (jm_dc dc_80_0 7 rfl)) (
  jm_gc (pu_getI _ _) (sn_getI (jm_dc dc_80_0 8 rfl) fl_7_65 (Or.inl rfl)) (
  jm_gc (pu_iast) (sn_iast (jm_dc dc_80_0 9 rfl)) (
  jm_gc (pu_aload _ _) (sn_aload_n (i := 0) (jm_dc dc_80_0 10 rfl)) (
  jm_gc (pu_ic _ _) (sn_bipush (jm_dc dc_80_0 11 rfl) (by decide)) (
  jm_gc (pu_callV _ _ _) (sn_callV (jm_dc dc_80_0 12 rfl) lk_7_44) (
  jm_gc (pu_ifeq _) (sn_ifeq (jm_dc dc_80_0 13 rfl) (by decide)) (
  jm_gc (pu_aload _ _) (sn_aload_n (i := 0) (jm_dc dc_80_0 14 rfl)) (
  jm_gc (pu_callV _ _ _) (sn_callV (jm_dc dc_80_0 15 rfl) lk_7_61) (
  jm_gc (pu_ifne _) (sn_ifne (jm_dc dc_80_0 16 rfl) (by decide)) (
  jm_gc (pu_ic _ _) (sn_iconst (jm_dc dc_80_0 17 rfl) (by decide)) (
  jm_gc (pu_zret) (sn_zret (jm_dc dc_80_0 18 rfl) rfl) (
  jm_gc (pu_aload _ _) (sn_aload_n (i := 3) (jm_dc dc_80_0 19 rfl)) (
  jm_gc (pu_iload _ _) (sn_iload (jm_dc dc_80_0 20 rfl)) (
  jm_gc (pu_aload _ _) (sn_aload_n (i := 0) (jm_dc dc_80_0 21 rfl)) (
  jm_gc (pu_getI _ _) (sn_getI (jm_dc dc_80_0 22 rfl) fl_7_65 (Or.inl rfl)) (
  jm_gc (pu_iast) (sn_iast (jm_dc dc_80_0 23 rfl)) (
  jm_gc (pu_aload _ _) (sn_aload_n (i := 0) (jm_dc dc_80_0 24 rfl)) (
  jm_gn)))))))))))))))))))))))))
theorem dc_80_1 : ([(44, .iload_n 1, 1), (45, .invokevirtual 44, 3), (48, .ifCond .eq 17, 3), (51, .aload_n 0, 1), (52, .getfield 30, 3), (55, .aload_n 0, 1), (56, .getfield 34, 3), (59, .invokevirtual 68, 3), (62, .ifCond .ge 5, 3), (65, .iconst 0, 1), (66, .ireturn, 1), (67, .aload 4, 2), (69, .iload 5, 2), (71, .aload_n 0, 1), (72, .getfield 30, 3), (75, .aload_n 0, 1), (76, .getfield 34, 3), (79, .invokevirtual 68, 3), (82, .iastore, 1), (83, .aload_n 0, 1), (84, .dup, 1), (85, .getfield 34, 3), (88, .iconst 1, 1), (89, .iadd, 1), (90, .putfield 34, 3)] : List (Nat × Instr × Nat)).all (fun e => decide (decode prog_10_method_4_code e.1 = .ok e.2)) = true := by decide +kernel
abbrev cl_80_1 : List (Nat × jm_O) := [(44, op_iload 1 1), (45, op_callV 7 79 2), (48, op_ifeq 65), (51, op_aload 0 1), (52, op_getA 7 0), (55, op_aload 0 1), (56, op_getI 7 1), (59, op_callV 8 97 2), (62, op_ifge 67), (65, op_ic 0 1), (66, op_zret), (67, op_aload 4 2), (69, op_iload 5 2), (71, op_aload 0 1), (72, op_getA 7 0), (75, op_aload 0 1), (76, op_getI 7 1), (79, op_callV 8 97 2), (82, op_iast), (83, op_aload 0 1), (84, op_dup), (85, op_getI 7 1), (88, op_ic 1 1), (89, op_ibin (fun x y => x + y)), (90, op_putI 7 1)]
set_option maxRecDepth 100000 in
theorem gl_80_1 : jm_gl "FrescoWall$Sketch" prog_10_method_4_code 6 (Option.some Jvm.ClassFile.FieldType.boolean) false cl_80_1 :=
  jm_gc (pu_iload _ _) (sn_iload_n (i := 1) (jm_dc dc_80_1 0 rfl)) (
  jm_gc (pu_callV _ _ _) (sn_callV (jm_dc dc_80_1 1 rfl) lk_7_44) (
  jm_gc (pu_ifeq _) (sn_ifeq (jm_dc dc_80_1 2 rfl) (by decide)) (
  jm_gc (pu_aload _ _) (sn_aload_n (i := 0) (jm_dc dc_80_1 3 rfl)) (
  jm_gc (pu_getA _ _) (sn_getA (jm_dc dc_80_1 4 rfl) fl_7_30 rfl) (
  jm_gc (pu_aload _ _) (sn_aload_n (i := 0) (jm_dc dc_80_1 5 rfl)) (
  jm_gc (pu_getI _ _) (sn_getI (jm_dc dc_80_1 6 rfl) fl_7_34 (Or.inl rfl)) (
  jm_gc (pu_callV _ _ _) (sn_callV (jm_dc dc_80_1 7 rfl) lk_7_68) (
  jm_gc (pu_ifge _) (sn_ifge (jm_dc dc_80_1 8 rfl) (by decide)) (
  jm_gc (pu_ic _ _) (sn_iconst (jm_dc dc_80_1 9 rfl) (by decide)) (
  jm_gc (pu_zret) (sn_zret (jm_dc dc_80_1 10 rfl) rfl) (
  jm_gc (pu_aload _ _) (sn_aload (jm_dc dc_80_1 11 rfl)) (
  jm_gc (pu_iload _ _) (sn_iload (jm_dc dc_80_1 12 rfl)) (
  jm_gc (pu_aload _ _) (sn_aload_n (i := 0) (jm_dc dc_80_1 13 rfl)) (
  jm_gc (pu_getA _ _) (sn_getA (jm_dc dc_80_1 14 rfl) fl_7_30 rfl) (
  jm_gc (pu_aload _ _) (sn_aload_n (i := 0) (jm_dc dc_80_1 15 rfl)) (
  jm_gc (pu_getI _ _) (sn_getI (jm_dc dc_80_1 16 rfl) fl_7_34 (Or.inl rfl)) (
  jm_gc (pu_callV _ _ _) (sn_callV (jm_dc dc_80_1 17 rfl) lk_7_68) (
  jm_gc (pu_iast) (sn_iast (jm_dc dc_80_1 18 rfl)) (
  jm_gc (pu_aload _ _) (sn_aload_n (i := 0) (jm_dc dc_80_1 19 rfl)) (
  jm_gc (pu_dup) (sn_dup (jm_dc dc_80_1 20 rfl)) (
  jm_gc (pu_getI _ _) (sn_getI (jm_dc dc_80_1 21 rfl) fl_7_34 (Or.inl rfl)) (
  jm_gc (pu_ic _ _) (sn_iconst (jm_dc dc_80_1 22 rfl) (by decide)) (
  jm_gc (pu_ibin _) (sn_iadd (jm_dc dc_80_1 23 rfl)) (
  jm_gc (pu_putI _ _) (sn_putI (jm_dc dc_80_1 24 rfl) flw_7_34 rfl) (
  jm_gn)))))))))))))))))))))))))
theorem dc_80_2 : ([(93, .iconst 1, 1), (94, .ireturn, 1)] : List (Nat × Instr × Nat)).all (fun e => decide (decode prog_10_method_4_code e.1 = .ok e.2)) = true := by decide +kernel
abbrev cl_80_2 : List (Nat × jm_O) := [(93, op_ic 1 1), (94, op_zret)]
set_option maxRecDepth 100000 in
theorem gl_80_2 : jm_gl "FrescoWall$Sketch" prog_10_method_4_code 6 (Option.some Jvm.ClassFile.FieldType.boolean) false cl_80_2 :=
  jm_gc (pu_ic _ _) (sn_iconst (jm_dc dc_80_2 0 rfl) (by decide)) (
  jm_gc (pu_zret) (sn_zret (jm_dc dc_80_2 1 rfl) rfl) (
  jm_gn))
theorem dc_81_0 : ([(0, .aload_n 0, 1), (1, .bipush 45, 2), (3, .invokevirtual 44, 3), (6, .istore_n 1, 1), (7, .aload_n 0, 1), (8, .getfield 30, 3), (11, .aload_n 0, 1), (12, .getfield 34, 3), (15, .invokevirtual 68, 3), (18, .istore_n 2, 1), (19, .iload_n 2, 1), (20, .ifCond .lt 11, 3), (23, .iload_n 1, 1), (24, .ifCond .eq 9, 3), (27, .iload_n 2, 1), (28, .ifCond .ne 5, 3), (31, .iconst 0, 1), (32, .ireturn, 1), (33, .aload_n 0, 1), (34, .dup, 1), (35, .getfield 34, 3), (38, .iconst 1, 1), (39, .iadd, 1), (40, .putfield 34, 3), (43, .iload_n 2, 1)] : List (Nat × Instr × Nat)).all (fun e => decide (decode prog_10_method_5_code e.1 = .ok e.2)) = true := by decide +kernel
abbrev cl_81_0 : List (Nat × jm_O) := [(0, op_aload 0 1), (1, op_ic 45 2), (3, op_callV 7 79 2), (6, op_istore 1 1), (7, op_aload 0 1), (8, op_getA 7 0), (11, op_aload 0 1), (12, op_getI 7 1), (15, op_callV 8 97 2), (18, op_istore 2 1), (19, op_iload 2 1), (20, op_iflt 31), (23, op_iload 1 1), (24, op_ifeq 33), (27, op_iload 2 1), (28, op_ifne 33), (31, op_ic 0 1), (32, op_zret), (33, op_aload 0 1), (34, op_dup), (35, op_getI 7 1), (38, op_ic 1 1), (39, op_ibin (fun x y => x + y)), (40, op_putI 7 1), (43, op_iload 2 1)]
set_option maxRecDepth 100000 in
theorem gl_81_0 : jm_gl "FrescoWall$Sketch" prog_10_method_5_code 3 (Option.some Jvm.ClassFile.FieldType.boolean) false cl_81_0 :=
  jm_gc (pu_aload _ _) (sn_aload_n (i := 0) (jm_dc dc_81_0 0 rfl)) (
  jm_gc (pu_ic _ _) (sn_bipush (jm_dc dc_81_0 1 rfl) (by decide)) (
  jm_gc (pu_callV _ _ _) (sn_callV (jm_dc dc_81_0 2 rfl) lk_7_44) (
  jm_gc (pu_istore _ _) (sn_istore_n (i := 1) (jm_dc dc_81_0 3 rfl)) (
  jm_gc (pu_aload _ _) (sn_aload_n (i := 0) (jm_dc dc_81_0 4 rfl)) (
  jm_gc (pu_getA _ _) (sn_getA (jm_dc dc_81_0 5 rfl) fl_7_30 rfl) (
  jm_gc (pu_aload _ _) (sn_aload_n (i := 0) (jm_dc dc_81_0 6 rfl)) (
  jm_gc (pu_getI _ _) (sn_getI (jm_dc dc_81_0 7 rfl) fl_7_34 (Or.inl rfl)) (
  jm_gc (pu_callV _ _ _) (sn_callV (jm_dc dc_81_0 8 rfl) lk_7_68) (
  jm_gc (pu_istore _ _) (sn_istore_n (i := 2) (jm_dc dc_81_0 9 rfl)) (
  jm_gc (pu_iload _ _) (sn_iload_n (i := 2) (jm_dc dc_81_0 10 rfl)) (
  jm_gc (pu_iflt _) (sn_iflt (jm_dc dc_81_0 11 rfl) (by decide)) (
  jm_gc (pu_iload _ _) (sn_iload_n (i := 1) (jm_dc dc_81_0 12 rfl)) (
  jm_gc (pu_ifeq _) (sn_ifeq (jm_dc dc_81_0 13 rfl) (by decide)) (
  jm_gc (pu_iload _ _) (sn_iload_n (i := 2) (jm_dc dc_81_0 14 rfl)) (
  jm_gc (pu_ifne _) (sn_ifne (jm_dc dc_81_0 15 rfl) (by decide)) (
  jm_gc (pu_ic _ _) (sn_iconst (jm_dc dc_81_0 16 rfl) (by decide)) (
  jm_gc (pu_zret) (sn_zret (jm_dc dc_81_0 17 rfl) rfl) (
  jm_gc (pu_aload _ _) (sn_aload_n (i := 0) (jm_dc dc_81_0 18 rfl)) (
  jm_gc (pu_dup) (sn_dup (jm_dc dc_81_0 19 rfl)) (
  jm_gc (pu_getI _ _) (sn_getI (jm_dc dc_81_0 20 rfl) fl_7_34 (Or.inl rfl)) (
  jm_gc (pu_ic _ _) (sn_iconst (jm_dc dc_81_0 21 rfl) (by decide)) (
  jm_gc (pu_ibin _) (sn_iadd (jm_dc dc_81_0 22 rfl)) (
  jm_gc (pu_putI _ _) (sn_putI (jm_dc dc_81_0 23 rfl) flw_7_34 rfl) (
  jm_gc (pu_iload _ _) (sn_iload_n (i := 2) (jm_dc dc_81_0 24 rfl)) (
  jm_gn)))))))))))))))))))))))))
theorem dc_81_1 : ([(44, .ifCond .le 52, 3), (47, .aload_n 0, 1), (48, .getfield 30, 3), (51, .aload_n 0, 1), (52, .getfield 34, 3), (55, .invokevirtual 68, 3), (58, .ifCond .lt 38, 3), (61, .bipush 10, 2), (63, .iload_n 2, 1), (64, .imul, 1), (65, .aload_n 0, 1), (66, .getfield 30, 3), (69, .aload_n 0, 1), (70, .getfield 34, 3), (73, .invokevirtual 68, 3), (76, .iadd, 1), (77, .istore_n 2, 1), (78, .iload_n 2, 1), (79, .bipush 20, 2), (81, .if_icmp .le 5, 3), (84, .iconst 0, 1), (85, .ireturn, 1), (86, .aload_n 0, 1), (87, .dup, 1), (88, .getfield 34, 3)] : List (Nat × Instr × Nat)).all (fun e => decide (decode prog_10_method_5_code e.1 = .ok e.2)) = true := by decide +kernel
abbrev cl_81_1 : List (Nat × jm_O) := [(44, op_ifle 96), (47, op_aload 0 1), (48, op_getA 7 0), (51, op_aload 0 1), (52, op_getI 7 1), (55, op_callV 8 97 2), (58, op_iflt 96), (61, op_ic 10 2), (63, op_iload 2 1), (64, op_ibin (fun x y => x * y)), (65, op_aload 0 1), (66, op_getA 7 0), (69, op_aload 0 1), (70, op_getI 7 1), (73, op_callV 8 97 2), (76, op_ibin (fun x y => x + y)), (77, op_istore 2 1), (78, op_iload 2 1), (79, op_ic 20 2), (81, op_cle 86), (84, op_ic 0 1), (85, op_zret), (86, op_aload 0 1), (87, op_dup), (88, op_getI 7 1)]
set_option maxRecDepth 100000 in
theorem gl_81_1 : jm_gl "FrescoWall$Sketch" prog_10_method_5_code 3 (Option.some Jvm.ClassFile.FieldType.boolean) false cl_81_1 :=
  jm_gc (pu_ifle _) (sn_ifle (jm_dc dc_81_1 0 rfl) (by decide)) (
  jm_gc (pu_aload _ _) (sn_aload_n (i := 0) (jm_dc dc_81_1 1 rfl)) (
  jm_gc (pu_getA _ _) (sn_getA (jm_dc dc_81_1 2 rfl) fl_7_30 rfl) (
  jm_gc (pu_aload _ _) (sn_aload_n (i := 0) (jm_dc dc_81_1 3 rfl)) (
  jm_gc (pu_getI _ _) (sn_getI (jm_dc dc_81_1 4 rfl) fl_7_34 (Or.inl rfl)) (
  jm_gc (pu_callV _ _ _) (sn_callV (jm_dc dc_81_1 5 rfl) lk_7_68) (
  jm_gc (pu_iflt _) (sn_iflt (jm_dc dc_81_1 6 rfl) (by decide)) (
  jm_gc (pu_ic _ _) (sn_bipush (jm_dc dc_81_1 7 rfl) (by decide)) (
  jm_gc (pu_iload _ _) (sn_iload_n (i := 2) (jm_dc dc_81_1 8 rfl)) (
  jm_gc (pu_ibin _) (sn_imul (jm_dc dc_81_1 9 rfl)) (
  jm_gc (pu_aload _ _) (sn_aload_n (i := 0) (jm_dc dc_81_1 10 rfl)) (
  jm_gc (pu_getA _ _) (sn_getA (jm_dc dc_81_1 11 rfl) fl_7_30 rfl) (
  jm_gc (pu_aload _ _) (sn_aload_n (i := 0) (jm_dc dc_81_1 12 rfl)) (
  jm_gc (pu_getI _ _) (sn_getI (jm_dc dc_81_1 13 rfl) fl_7_34 (Or.inl rfl)) (
  jm_gc (pu_callV _ _ _) (sn_callV (jm_dc dc_81_1 14 rfl) lk_7_68) (
  jm_gc (pu_ibin _) (sn_iadd (jm_dc dc_81_1 15 rfl)) (
  jm_gc (pu_istore _ _) (sn_istore_n (i := 2) (jm_dc dc_81_1 16 rfl)) (
  jm_gc (pu_iload _ _) (sn_iload_n (i := 2) (jm_dc dc_81_1 17 rfl)) (
  jm_gc (pu_ic _ _) (sn_bipush (jm_dc dc_81_1 18 rfl) (by decide)) (
  jm_gc (pu_cle _) (sn_cle (jm_dc dc_81_1 19 rfl) (by decide)) (
  jm_gc (pu_ic _ _) (sn_iconst (jm_dc dc_81_1 20 rfl) (by decide)) (
  jm_gc (pu_zret) (sn_zret (jm_dc dc_81_1 21 rfl) rfl) (
  jm_gc (pu_aload _ _) (sn_aload_n (i := 0) (jm_dc dc_81_1 22 rfl)) (
  jm_gc (pu_dup) (sn_dup (jm_dc dc_81_1 23 rfl)) (
  jm_gc (pu_getI _ _) (sn_getI (jm_dc dc_81_1 24 rfl) fl_7_34 (Or.inl rfl)) (
  jm_gn)))))))))))))))))))))))))
theorem dc_81_2 : ([(91, .iconst 1, 1), (92, .iadd, 1), (93, .putfield 34, 3), (96, .aload_n 0, 1), (97, .iload_n 1, 1), (98, .ifCond .eq 8, 3), (101, .iload_n 2, 1), (102, .ineg, 1), (103, .goto 4, 3), (106, .iload_n 2, 1), (107, .putfield 65, 3), (110, .iconst 1, 1), (111, .ireturn, 1)] : List (Nat × Instr × Nat)).all (fun e => decide (decode prog_10_method_5_code e.1 = .ok e.2)) = true := by decide +kernel
abbrev cl_81_2 : List (Nat × jm_O) := [(91, op_ic 1 1), (92, op_ibin (fun x y => x + y)), (93, op_putI 7 1), (96, op_aload 0 1), (97, op_iload 1 1), (98, op_ifeq 106), (101, op_iload 2 1), (102, op_iun (fun x => -x)), (103, op_goto 107), (106, op_iload 2 1), (107, op_putI 7 2), (110, op_ic 1 1), (111, op_zret)]
set_option maxRecDepth 100000 in
theorem gl_81_2 : jm_gl "FrescoWall$Sketch" prog_10_method_5_code 3 (Option.some Jvm.ClassFile.FieldType.boolean) false cl_81_2 :=
  jm_gc (pu_ic _ _) (sn_iconst (jm_dc dc_81_2 0 rfl) (by decide)) (
  jm_gc (pu_ibin _) (sn_iadd (jm_dc dc_81_2 1 rfl)) (
  jm_gc (pu_putI _ _) (sn_putI (jm_dc dc_81_2 2 rfl) flw_7_34 rfl) (
  jm_gc (pu_aload _ _) (sn_aload_n (i := 0) (jm_dc dc_81_2 3 rfl)) (
  jm_gc (pu_iload _ _) (sn_iload_n (i := 1) (jm_dc dc_81_2 4 rfl)) (
  jm_gc (pu_ifeq _) (sn_ifeq (jm_dc dc_81_2 5 rfl) (by decide)) (
  jm_gc (pu_iload _ _) (sn_iload_n (i := 2) (jm_dc dc_81_2 6 rfl)) (
  jm_gc (pu_iun _) (sn_ineg (jm_dc dc_81_2 7 rfl)) (
  jm_gc (pu_goto _) (sn_goto (jm_dc dc_81_2 8 rfl) (by decide)) (
  jm_gc (pu_iload _ _) (sn_iload_n (i := 2) (jm_dc dc_81_2 9 rfl)) (
  jm_gc (pu_putI _ _) (sn_putI (jm_dc dc_81_2 10 rfl) flw_7_65 rfl) (
  jm_gc (pu_ic _ _) (sn_iconst (jm_dc dc_81_2 11 rfl) (by decide)) (
  jm_gc (pu_zret) (sn_zret (jm_dc dc_81_2 12 rfl) rfl) (
  jm_gn)))))))))))))
theorem dc_82_0 : ([(0, .iconst 0, 1), (1, .istore_n 1, 1), (2, .iload_n 1, 1), (3, .aload_n 0, 1), (4, .getfield 38, 3), (7, .if_icmp .ge 47, 3), (10, .aload_n 0, 1), (11, .iload_n 1, 1), (12, .invokevirtual 71, 3), (15, .istore_n 2, 1), (16, .aload_n 0, 1), (17, .getfield 9, 3), (20, .iload_n 1, 1), (21, .iaload, 1), (22, .aload_n 0, 1), (23, .getfield 9, 3), (26, .iload_n 2, 1), (27, .iaload, 1), (28, .if_icmp .ne 20, 3), (31, .aload_n 0, 1), (32, .getfield 15, 3), (35, .iload_n 1, 1), (36, .iaload, 1), (37, .aload_n 0, 1), (38, .getfield 15, 3)] : List (Nat × Instr × Nat)).all (fun e => decide (decode prog_10_method_6_code e.1 = .ok e.2)) = true := by decide +kernel
abbrev cl_82_0 : List (Nat × jm_O) := [(0, op_ic 0 1), (1, op_istore 1 1), (2, op_iload 1 1), (3, op_aload 0 1), (4, op_getI 7 3), (7, op_cge 54), (10, op_aload 0 1), (11, op_iload 1 1), (12, op_callV 7 83 2), (15, op_istore 2 1), (16, op_aload 0 1), (17, op_getA 7 4), (20, op_iload 1 1), (21, op_iald 13), (22, op_aload 0 1), (23, op_getA 7 4), (26, op_iload 2 1), (27, op_iald 13), (28, op_cne 48), (31, op_aload 0 1), (32, op_getA 7 5), (35, op_iload 1 1), (36, op_iald 13), (37, op_aload 0 1), (38, op_getA 7 5)]
set_option maxRecDepth 100000 in
theorem gl_82_0 : jm_gl "FrescoWall$Sketch" prog_10_method_6_code 3 (Option.some Jvm.ClassFile.FieldType.boolean) false cl_82_0 :=
  jm_gc (pu_ic _ _) (sn_iconst (jm_dc dc_82_0 0 rfl) (by decide)) (
  jm_gc (pu_istore _ _) (sn_istore_n (i := 1) (jm_dc dc_82_0 1 rfl)) (
  jm_gc (pu_iload _ _) (sn_iload_n (i := 1) (jm_dc dc_82_0 2 rfl)) (
  jm_gc (pu_aload _ _) (sn_aload_n (i := 0) (jm_dc dc_82_0 3 rfl)) (
  jm_gc (pu_getI _ _) (sn_getI (jm_dc dc_82_0 4 rfl) fl_7_38 (Or.inl rfl)) (
  jm_gc (pu_cge _) (sn_cge (jm_dc dc_82_0 5 rfl) (by decide)) (
  jm_gc (pu_aload _ _) (sn_aload_n (i := 0) (jm_dc dc_82_0 6 rfl)) (
  jm_gc (pu_iload _ _) (sn_iload_n (i := 1) (jm_dc dc_82_0 7 rfl)) (
  jm_gc (pu_callV _ _ _) (sn_callV (jm_dc dc_82_0 8 rfl) lk_7_71) (
  jm_gc (pu_istore _ _) (sn_istore_n (i := 2) (jm_dc dc_82_0 9 rfl)) (
  jm_gc (pu_aload _ _) (sn_aload_n (i := 0) (jm_dc dc_82_0 10 rfl)) (
  jm_gc (pu_getA _ _) (sn_getA (jm_dc dc_82_0 11 rfl) fl_7_9 rfl) (
  jm_gc (pu_iload _ _) (sn_iload_n (i := 1) (jm_dc dc_82_0 12 rfl)) (
  jm_gc (pu_iald _) (sn_iald (jm_dc dc_82_0 13 rfl)) (
  jm_gc (pu_aload _ _) (sn_aload_n (i := 0) (jm_dc dc_82_0 14 rfl)) (
  jm_gc (pu_getA _ _) (sn_getA (jm_dc dc_82_0 15 rfl) fl_7_9 rfl) (
  jm_gc (pu_iload _ _) (sn_iload_n (i := 2) (jm_dc dc_82_0 16 rfl)) (
  jm_gc (pu_iald _) (sn_iald (jm_dc dc_82_0 17 rfl)) (
  jm_gc (pu_cne _) (sn_cne (jm_dc dc_82_0 18 rfl) (by decide)) (
  jm_gc (pu_aload _ _) (sn_aload_n (i := 0) (jm_dc dc_82_0 19 rfl)) (
  jm_gc (pu_getA _ _) (sn_getA (jm_dc dc_82_0 20 rfl) fl_7_15 rfl) (
  jm_gc (pu_iload _ _) (sn_iload_n (i := 1) (jm_dc dc_82_0 21 rfl)) (
  jm_gc (pu_iald _) (sn_iald (jm_dc dc_82_0 22 rfl)) (
  jm_gc (pu_aload _ _) (sn_aload_n (i := 0) (jm_dc dc_82_0 23 rfl)) (
  jm_gc (pu_getA _ _) (sn_getA (jm_dc dc_82_0 24 rfl) fl_7_15 rfl) (
  jm_gn)))))))))))))))))))))))))
theorem dc_82_1 : ([(41, .iload_n 2, 1), (42, .iaload, 1), (43, .if_icmp .ne 5, 3), (46, .iconst 0, 1), (47, .ireturn, 1), (48, .iinc 1 1, 3), (51, .goto (-49), 3), (54, .iconst 0, 1), (55, .istore_n 1, 1), (56, .iload_n 1, 1), (57, .aload_n 0, 1), (58, .getfield 38, 3), (61, .if_icmp .ge 38, 3), (64, .iload_n 1, 1), (65, .iconst 1, 1), (66, .iadd, 1), (67, .istore_n 2, 1), (68, .iload_n 2, 1), (69, .aload_n 0, 1), (70, .getfield 38, 3), (73, .if_icmp .ge 20, 3), (76, .aload_n 0, 1), (77, .iload_n 1, 1), (78, .iload_n 2, 1), (79, .invokevirtual 74, 3)] : List (Nat × Instr × Nat)).all (fun e => decide (decode prog_10_method_6_code e.1 = .ok e.2)) = true := by decide +kernel
abbrev cl_82_1 : List (Nat × jm_O) := [(41, op_iload 2 1), (42, op_iald 13), (43, op_cne 48), (46, op_ic 0 1), (47, op_zret), (48, op_iinc 1 1), (51, op_goto 2), (54, op_ic 0 1), (55, op_istore 1 1), (56, op_iload 1 1), (57, op_aload 0 1), (58, op_getI 7 3), (61, op_cge 99), (64, op_iload 1 1), (65, op_ic 1 1), (66, op_ibin (fun x y => x + y)), (67, op_istore 2 1), (68, op_iload 2 1), (69, op_aload 0 1), (70, op_getI 7 3), (73, op_cge 93), (76, op_aload 0 1), (77, op_iload 1 1), (78, op_iload 2 1), (79, op_callV 7 87 3)]
set_option maxRecDepth 100000 in
theorem gl_82_1 : jm_gl "FrescoWall$Sketch" prog_10_method_6_code 3 (Option.some Jvm.ClassFile.FieldType.boolean) false cl_82_1 :=
  jm_gc (pu_iload _ _) (sn_iload_n (i := 2) (jm_dc dc_82_1 0 rfl)) (
  jm_gc (pu_iald _) (sn_iald (jm_dc dc_82_1 1 rfl)) (
  jm_gc (pu_cne _) (sn_cne (jm_dc dc_82_1 2 rfl) (by decide)) (
  jm_gc (pu_ic _ _) (sn_iconst (jm_dc dc_82_1 3 rfl) (by decide)) (
  jm_gc (pu_zret) (sn_zret (jm_dc dc_82_1 4 rfl) rfl) (
  jm_gc (pu_iinc _ _) (sn_iinc (jm_dc dc_82_1 5 rfl) (by decide)) (
  jm_gc (pu_goto _) (sn_goto (jm_dc dc_82_1 6 rfl) (by decide)) (
  jm_gc (pu_ic _ _) (sn_iconst (jm_dc dc_82_1 7 rfl) (by decide)) (
  jm_gc (pu_istore _ _) (sn_istore_n (i := 1) (jm_dc dc_82_1 8 rfl)) (
  jm_gc (pu_iload _ _) (sn_iload_n (i := 1) (jm_dc dc_82_1 9 rfl)) (
  jm_gc (pu_aload _ _) (sn_aload_n (i := 0) (jm_dc dc_82_1 10 rfl)) (
  jm_gc (pu_getI _ _) (sn_getI (jm_dc dc_82_1 11 rfl) fl_7_38 (Or.inl rfl)) (
  jm_gc (pu_cge _) (sn_cge (jm_dc dc_82_1 12 rfl) (by decide)) (
  jm_gc (pu_iload _ _) (sn_iload_n (i := 1) (jm_dc dc_82_1 13 rfl)) (
  jm_gc (pu_ic _ _) (sn_iconst (jm_dc dc_82_1 14 rfl) (by decide)) (
  jm_gc (pu_ibin _) (sn_iadd (jm_dc dc_82_1 15 rfl)) (
  jm_gc (pu_istore _ _) (sn_istore_n (i := 2) (jm_dc dc_82_1 16 rfl)) (
  jm_gc (pu_iload _ _) (sn_iload_n (i := 2) (jm_dc dc_82_1 17 rfl)) (
  jm_gc (pu_aload _ _) (sn_aload_n (i := 0) (jm_dc dc_82_1 18 rfl)) (
  jm_gc (pu_getI _ _) (sn_getI (jm_dc dc_82_1 19 rfl) fl_7_38 (Or.inl rfl)) (
  jm_gc (pu_cge _) (sn_cge (jm_dc dc_82_1 20 rfl) (by decide)) (
  jm_gc (pu_aload _ _) (sn_aload_n (i := 0) (jm_dc dc_82_1 21 rfl)) (
  jm_gc (pu_iload _ _) (sn_iload_n (i := 1) (jm_dc dc_82_1 22 rfl)) (
  jm_gc (pu_iload _ _) (sn_iload_n (i := 2) (jm_dc dc_82_1 23 rfl)) (
  jm_gc (pu_callV _ _ _) (sn_callV (jm_dc dc_82_1 24 rfl) lk_7_74) (
  jm_gn)))))))))))))))))))))))))
theorem dc_82_2 : ([(82, .ifCond .eq 5, 3), (85, .iconst 0, 1), (86, .ireturn, 1), (87, .iinc 2 1, 3), (90, .goto (-22), 3), (93, .iinc 1 1, 3), (96, .goto (-40), 3), (99, .aload_n 0, 1), (100, .invokevirtual 78, 3), (103, .ifCond .le 7, 3), (106, .iconst 1, 1), (107, .goto 4, 3), (110, .iconst 0, 1), (111, .ireturn, 1)] : List (Nat × Instr × Nat)).all (fun e => decide (decode prog_10_method_6_code e.1 = .ok e.2)) = true := by decide +kernel
abbrev cl_82_2 : List (Nat × jm_O) := [(82, op_ifeq 87), (85, op_ic 0 1), (86, op_zret), (87, op_iinc 2 1), (90, op_goto 68), (93, op_iinc 1 1), (96, op_goto 56), (99, op_aload 0 1), (100, op_callV 7 84 1), (103, op_ifle 110), (106, op_ic 1 1), (107, op_goto 111), (110, op_ic 0 1), (111, op_zret)]
set_option maxRecDepth 100000 in
theorem gl_82_2 : jm_gl "FrescoWall$Sketch" prog_10_method_6_code 3 (Option.some Jvm.ClassFile.FieldType.boolean) false cl_82_2 :=
  jm_gc (pu_ifeq _) (sn_ifeq (jm_dc dc_82_2 0 rfl) (by decide)) (
  jm_gc (pu_ic _ _) (sn_iconst (jm_dc dc_82_2 1 rfl) (by decide)) (
  jm_gc (pu_zret) (sn_zret (jm_dc dc_82_2 2 rfl) rfl) (
  jm_gc (pu_iinc _ _) (sn_iinc (jm_dc dc_82_2 3 rfl) (by decide)) (
  jm_gc (pu_goto _) (sn_goto (jm_dc dc_82_2 4 rfl) (by decide)) (
  jm_gc (pu_iinc _ _) (sn_iinc (jm_dc dc_82_2 5 rfl) (by decide)) (
  jm_gc (pu_goto _) (sn_goto (jm_dc dc_82_2 6 rfl) (by decide)) (
  jm_gc (pu_aload _ _) (sn_aload_n (i := 0) (jm_dc dc_82_2 7 rfl)) (
  jm_gc (pu_callV _ _ _) (sn_callV (jm_dc dc_82_2 8 rfl) lk_7_78) (
  jm_gc (pu_ifle _) (sn_ifle (jm_dc dc_82_2 9 rfl) (by decide)) (
  jm_gc (pu_ic _ _) (sn_iconst (jm_dc dc_82_2 10 rfl) (by decide)) (
  jm_gc (pu_goto _) (sn_goto (jm_dc dc_82_2 11 rfl) (by decide)) (
  jm_gc (pu_ic _ _) (sn_iconst (jm_dc dc_82_2 12 rfl) (by decide)) (
  jm_gc (pu_zret) (sn_zret (jm_dc dc_82_2 13 rfl) rfl) (
  jm_gn))))))))))))))
theorem dc_83_0 : ([(0, .iload_n 1, 1), (1, .iconst 1, 1), (2, .iadd, 1), (3, .aload_n 0, 1), (4, .getfield 38, 3), (7, .if_icmp .ge 9, 3), (10, .iload_n 1, 1), (11, .iconst 1, 1), (12, .iadd, 1), (13, .goto 4, 3), (16, .iconst 0, 1), (17, .ireturn, 1)] : List (Nat × Instr × Nat)).all (fun e => decide (decode prog_10_method_7_code e.1 = .ok e.2)) = true := by decide +kernel
abbrev cl_83_0 : List (Nat × jm_O) := [(0, op_iload 1 1), (1, op_ic 1 1), (2, op_ibin (fun x y => x + y)), (3, op_aload 0 1), (4, op_getI 7 3), (7, op_cge 16), (10, op_iload 1 1), (11, op_ic 1 1), (12, op_ibin (fun x y => x + y)), (13, op_goto 17), (16, op_ic 0 1), (17, op_iret)]
set_option maxRecDepth 100000 in
theorem gl_83_0 : jm_gl "FrescoWall$Sketch" prog_10_method_7_code 2 (Option.some Jvm.ClassFile.FieldType.int) false cl_83_0 :=
  jm_gc (pu_iload _ _) (sn_iload_n (i := 1) (jm_dc dc_83_0 0 rfl)) (
  jm_gc (pu_ic _ _) (sn_iconst (jm_dc dc_83_0 1 rfl) (by decide)) (
  jm_gc (pu_ibin _) (sn_iadd (jm_dc dc_83_0 2 rfl)) (
  jm_gc (pu_aload _ _) (sn_aload_n (i := 0) (jm_dc dc_83_0 3 rfl)) (
  jm_gc (pu_getI _ _) (sn_getI (jm_dc dc_83_0 4 rfl) fl_7_38 (Or.inl rfl)) (
  jm_gc (pu_cge _) (sn_cge (jm_dc dc_83_0 5 rfl) (by decide)) (
  jm_gc (pu_iload _ _) (sn_iload_n (i := 1) (jm_dc dc_83_0 6 rfl)) (
  jm_gc (pu_ic _ _) (sn_iconst (jm_dc dc_83_0 7 rfl) (by decide)) (
  jm_gc (pu_ibin _) (sn_iadd (jm_dc dc_83_0 8 rfl)) (
  jm_gc (pu_goto _) (sn_goto (jm_dc dc_83_0 9 rfl) (by decide)) (
  jm_gc (pu_ic _ _) (sn_iconst (jm_dc dc_83_0 10 rfl) (by decide)) (
  jm_gc (pu_iret) (sn_iret (jm_dc dc_83_0 11 rfl) rfl) (
  jm_gn))))))))))))
theorem dc_84_0 : ([(0, .iconst 0, 1), (1, .istore_n 1, 1), (2, .iconst 0, 1), (3, .istore_n 2, 1), (4, .iload_n 2, 1), (5, .aload_n 0, 1), (6, .getfield 38, 3), (9, .if_icmp .ge 45, 3), (12, .aload_n 0, 1), (13, .iload_n 2, 1), (14, .invokevirtual 71, 3), (17, .istore_n 3, 1), (18, .iload_n 1, 1), (19, .aload_n 0, 1), (20, .getfield 9, 3), (23, .iload_n 2, 1), (24, .iaload, 1), (25, .aload_n 0, 1), (26, .getfield 15, 3), (29, .iload_n 3, 1), (30, .iaload, 1), (31, .imul, 1), (32, .aload_n 0, 1), (33, .getfield 9, 3), (36, .iload_n 3, 1)] : List (Nat × Instr × Nat)).all (fun e => decide (decode prog_10_method_8_code e.1 = .ok e.2)) = true := by decide +kernel
abbrev cl_84_0 : List (Nat × jm_O) := [(0, op_ic 0 1), (1, op_istore 1 1), (2, op_ic 0 1), (3, op_istore 2 1), (4, op_iload 2 1), (5, op_aload 0 1), (6, op_getI 7 3), (9, op_cge 54), (12, op_aload 0 1), (13, op_iload 2 1), (14, op_callV 7 83 2), (17, op_istore 3 1), (18, op_iload 1 1), (19, op_aload 0 1), (20, op_getA 7 4), (23, op_iload 2 1), (24, op_iald 13), (25, op_aload 0 1), (26, op_getA 7 5), (29, op_iload 3 1), (30, op_iald 13), (31, op_ibin (fun x y => x * y)), (32, op_aload 0 1), (33, op_getA 7 4), (36, op_iload 3 1)]
set_option maxRecDepth 100000 in
theorem gl_84_0 : jm_gl "FrescoWall$Sketch" prog_10_method_8_code 4 (Option.some Jvm.ClassFile.FieldType.int) false cl_84_0 :=
  jm_gc (pu_ic _ _) (sn_iconst (jm_dc dc_84_0 0 rfl) (by decide)) (
  jm_gc (pu_istore _ _) (sn_istore_n (i := 1) (jm_dc dc_84_0 1 rfl)) (
  jm_gc (pu_ic _ _) (sn_iconst (jm_dc dc_84_0 2 rfl) (by decide)) (
  jm_gc (pu_istore _ _) (sn_istore_n (i := 2) (jm_dc dc_84_0 3 rfl)) (
  jm_gc (pu_iload _ _) (sn_iload_n (i := 2) (jm_dc dc_84_0 4 rfl)) (
  jm_gc (pu_aload _ _) (sn_aload_n (i := 0) (jm_dc dc_84_0 5 rfl)) (
  jm_gc (pu_getI _ _) (sn_getI (jm_dc dc_84_0 6 rfl) fl_7_38 (Or.inl rfl)) (
  jm_gc (pu_cge _) (sn_cge (jm_dc dc_84_0 7 rfl) (by decide)) (
  jm_gc (pu_aload _ _) (sn_aload_n (i := 0) (jm_dc dc_84_0 8 rfl)) (
  jm_gc (pu_iload _ _) (sn_iload_n (i := 2) (jm_dc dc_84_0 9 rfl)) (
  jm_gc (pu_callV _ _ _) (sn_callV (jm_dc dc_84_0 10 rfl) lk_7_71) (
  jm_gc (pu_istore _ _) (sn_istore_n (i := 3) (jm_dc dc_84_0 11 rfl)) (
  jm_gc (pu_iload _ _) (sn_iload_n (i := 1) (jm_dc dc_84_0 12 rfl)) (
  jm_gc (pu_aload _ _) (sn_aload_n (i := 0) (jm_dc dc_84_0 13 rfl)) (
  jm_gc (pu_getA _ _) (sn_getA (jm_dc dc_84_0 14 rfl) fl_7_9 rfl) (
  jm_gc (pu_iload _ _) (sn_iload_n (i := 2) (jm_dc dc_84_0 15 rfl)) (
  jm_gc (pu_iald _) (sn_iald (jm_dc dc_84_0 16 rfl)) (
  jm_gc (pu_aload _ _) (sn_aload_n (i := 0) (jm_dc dc_84_0 17 rfl)) (
  jm_gc (pu_getA _ _) (sn_getA (jm_dc dc_84_0 18 rfl) fl_7_15 rfl) (
  jm_gc (pu_iload _ _) (sn_iload_n (i := 3) (jm_dc dc_84_0 19 rfl)) (
  jm_gc (pu_iald _) (sn_iald (jm_dc dc_84_0 20 rfl)) (
  jm_gc (pu_ibin _) (sn_imul (jm_dc dc_84_0 21 rfl)) (
  jm_gc (pu_aload _ _) (sn_aload_n (i := 0) (jm_dc dc_84_0 22 rfl)) (
  jm_gc (pu_getA _ _) (sn_getA (jm_dc dc_84_0 23 rfl) fl_7_9 rfl) (
  jm_gc (pu_iload _ _) (sn_iload_n (i := 3) (jm_dc dc_84_0 24 rfl)) (
  jm_gn)))))))))))))))))))))))))
theorem dc_84_1 : ([(37, .iaload, 1), (38, .aload_n 0, 1), (39, .getfield 15, 3), (42, .iload_n 2, 1), (43, .iaload, 1), (44, .imul, 1), (45, .isub, 1), (46, .iadd, 1), (47, .istore_n 1, 1), (48, .iinc 2 1, 3), (51, .goto (-47), 3), (54, .iload_n 1, 1), (55, .ireturn, 1)] : List (Nat × Instr × Nat)).all (fun e => decide (decode prog_10_method_8_code e.1 = .ok e.2)) = true := by decide +kernel
abbrev cl_84_1 : List (Nat × jm_O) := [(37, op_iald 13), (38, op_aload 0 1), (39, op_getA 7 5), (42, op_iload 2 1), (43, op_iald 13), (44, op_ibin (fun x y => x * y)), (45, op_ibin (fun x y => x - y)), (46, op_ibin (fun x y => x + y)), (47, op_istore 1 1), (48, op_iinc 2 1), (51, op_goto 4), (54, op_iload 1 1), (55, op_iret)]
set_option maxRecDepth 100000 in
theorem gl_84_1 : jm_gl "FrescoWall$Sketch" prog_10_method_8_code 4 (Option.some Jvm.ClassFile.FieldType.int) false cl_84_1 :=
  jm_gc (pu_iald _) (sn_iald (jm_dc dc_84_1 0 rfl)) (
  jm_gc (pu_aload _ _) (sn_aload_n (i := 0) (jm_dc dc_84_1 1 rfl)) (
  jm_gc (pu_getA _ _) (sn_getA (jm_dc dc_84_1 2 rfl) fl_7_15 rfl) (
  jm_gc (pu_iload _ _) (sn_iload_n (i := 2) (jm_dc dc_84_1 3 rfl)) (
  jm_gc (pu_iald _) (sn_iald (jm_dc dc_84_1 4 rfl)) (
  jm_gc (pu_ibin _) (sn_imul (jm_dc dc_84_1 5 rfl)) (
  jm_gc (pu_ibin _) (sn_isub (jm_dc dc_84_1 6 rfl)) (
  jm_gc (pu_ibin _) (sn_iadd (jm_dc dc_84_1 7 rfl)) (
  jm_gc (pu_istore _ _) (sn_istore_n (i := 1) (jm_dc dc_84_1 8 rfl)) (
  jm_gc (pu_iinc _ _) (sn_iinc (jm_dc dc_84_1 9 rfl) (by decide)) (
  jm_gc (pu_goto _) (sn_goto (jm_dc dc_84_1 10 rfl) (by decide)) (
  jm_gc (pu_iload _ _) (sn_iload_n (i := 1) (jm_dc dc_84_1 11 rfl)) (
  jm_gc (pu_iret) (sn_iret (jm_dc dc_84_1 12 rfl) rfl) (
  jm_gn)))))))))))))
theorem dc_85_0 : ([(0, .aload_n 1, 1), (1, .iconst 0, 1), (2, .iaload, 1), (3, .istore_n 2, 1), (4, .iconst 1, 1), (5, .istore_n 3, 1), (6, .iload_n 3, 1), (7, .aload_n 0, 1), (8, .getfield 38, 3), (11, .if_icmp .ge 17, 3), (14, .iload_n 2, 1), (15, .aload_n 1, 1), (16, .iload_n 3, 1), (17, .iaload, 1), (18, .invokestatic 82, 3), (21, .istore_n 2, 1), (22, .iinc 3 1, 3), (25, .goto (-19), 3), (28, .iload_n 2, 1), (29, .ireturn, 1)] : List (Nat × Instr × Nat)).all (fun e => decide (decode prog_10_method_9_code e.1 = .ok e.2)) = true := by decide +kernel
abbrev cl_85_0 : List (Nat × jm_O) := [(0, op_aload 1 1), (1, op_ic 0 1), (2, op_iald 13), (3, op_istore 2 1), (4, op_ic 1 1), (5, op_istore 3 1), (6, op_iload 3 1), (7, op_aload 0 1), (8, op_getI 7 3), (11, op_cge 28), (14, op_iload 2 1), (15, op_aload 1 1), (16, op_iload 3 1), (17, op_iald 13), (18, op_mmin), (21, op_istore 2 1), (22, op_iinc 3 1), (25, op_goto 6), (28, op_iload 2 1), (29, op_iret)]
set_option maxRecDepth 100000 in
theorem gl_85_0 : jm_gl "FrescoWall$Sketch" prog_10_method_9_code 4 (Option.some Jvm.ClassFile.FieldType.int) false cl_85_0 :=
  jm_gc (pu_aload _ _) (sn_aload_n (i := 1) (jm_dc dc_85_0 0 rfl)) (
  jm_gc (pu_ic _ _) (sn_iconst (jm_dc dc_85_0 1 rfl) (by decide)) (
  jm_gc (pu_iald _) (sn_iald (jm_dc dc_85_0 2 rfl)) (
  jm_gc (pu_istore _ _) (sn_istore_n (i := 2) (jm_dc dc_85_0 3 rfl)) (
  jm_gc (pu_ic _ _) (sn_iconst (jm_dc dc_85_0 4 rfl) (by decide)) (
  jm_gc (pu_istore _ _) (sn_istore_n (i := 3) (jm_dc dc_85_0 5 rfl)) (
  jm_gc (pu_iload _ _) (sn_iload_n (i := 3) (jm_dc dc_85_0 6 rfl)) (
  jm_gc (pu_aload _ _) (sn_aload_n (i := 0) (jm_dc dc_85_0 7 rfl)) (
  jm_gc (pu_getI _ _) (sn_getI (jm_dc dc_85_0 8 rfl) fl_7_38 (Or.inl rfl)) (
  jm_gc (pu_cge _) (sn_cge (jm_dc dc_85_0 9 rfl) (by decide)) (
  jm_gc (pu_iload _ _) (sn_iload_n (i := 2) (jm_dc dc_85_0 10 rfl)) (
  jm_gc (pu_aload _ _) (sn_aload_n (i := 1) (jm_dc dc_85_0 11 rfl)) (
  jm_gc (pu_iload _ _) (sn_iload_n (i := 3) (jm_dc dc_85_0 12 rfl)) (
  jm_gc (pu_iald _) (sn_iald (jm_dc dc_85_0 13 rfl)) (
  jm_gc (pu_mmin) (sn_mmin (jm_dc dc_85_0 14 rfl) ⟨kc_tb 477 (by decide +kernel), kc_tb 478 (by decide +kernel), kc_tb 13 (by decide +kernel), kc_tb 479 (by decide +kernel)⟩) (
  jm_gc (pu_istore _ _) (sn_istore_n (i := 2) (jm_dc dc_85_0 15 rfl)) (
  jm_gc (pu_iinc _ _) (sn_iinc (jm_dc dc_85_0 16 rfl) (by decide)) (
  jm_gc (pu_goto _) (sn_goto (jm_dc dc_85_0 17 rfl) (by decide)) (
  jm_gc (pu_iload _ _) (sn_iload_n (i := 2) (jm_dc dc_85_0 18 rfl)) (
  jm_gc (pu_iret) (sn_iret (jm_dc dc_85_0 19 rfl) rfl) (
  jm_gn))))))))))))))))))))
theorem dc_86_0 : ([(0, .aload_n 1, 1), (1, .iconst 0, 1), (2, .iaload, 1), (3, .istore_n 2, 1), (4, .iconst 1, 1), (5, .istore_n 3, 1), (6, .iload_n 3, 1), (7, .aload_n 0, 1), (8, .getfield 38, 3), (11, .if_icmp .ge 17, 3), (14, .iload_n 2, 1), (15, .aload_n 1, 1), (16, .iload_n 3, 1), (17, .iaload, 1), (18, .invokestatic 88, 3), (21, .istore_n 2, 1), (22, .iinc 3 1, 3), (25, .goto (-19), 3), (28, .iload_n 2, 1), (29, .ireturn, 1)] : List (Nat × Instr × Nat)).all (fun e => decide (decode prog_10_method_10_code e.1 = .ok e.2)) = true := by decide +kernel
abbrev cl_86_0 : List (Nat × jm_O) := [(0, op_aload 1 1), (1, op_ic 0 1), (2, op_iald 13), (3, op_istore 2 1), (4, op_ic 1 1), (5, op_istore 3 1), (6, op_iload 3 1), (7, op_aload 0 1), (8, op_getI 7 3), (11, op_cge 28), (14, op_iload 2 1), (15, op_aload 1 1), (16, op_iload 3 1), (17, op_iald 13), (18, op_mmax), (21, op_istore 2 1), (22, op_iinc 3 1), (25, op_goto 6), (28, op_iload 2 1), (29, op_iret)]
set_option maxRecDepth 100000 in
theorem gl_86_0 : jm_gl "FrescoWall$Sketch" prog_10_method_10_code 4 (Option.some Jvm.ClassFile.FieldType.int) false cl_86_0 :=
  jm_gc (pu_aload _ _) (sn_aload_n (i := 1) (jm_dc dc_86_0 0 rfl)) (
  jm_gc (pu_ic _ _) (sn_iconst (jm_dc dc_86_0 1 rfl) (by decide)) (
  jm_gc (pu_iald _) (sn_iald (jm_dc dc_86_0 2 rfl)) (
  jm_gc (pu_istore _ _) (sn_istore_n (i := 2) (jm_dc dc_86_0 3 rfl)) (
  jm_gc (pu_ic _ _) (sn_iconst (jm_dc dc_86_0 4 rfl) (by decide)) (
  jm_gc (pu_istore _ _) (sn_istore_n (i := 3) (jm_dc dc_86_0 5 rfl)) (
  jm_gc (pu_iload _ _) (sn_iload_n (i := 3) (jm_dc dc_86_0 6 rfl)) (
  jm_gc (pu_aload _ _) (sn_aload_n (i := 0) (jm_dc dc_86_0 7 rfl)) (
  jm_gc (pu_getI _ _) (sn_getI (jm_dc dc_86_0 8 rfl) fl_7_38 (Or.inl rfl)) (
  jm_gc (pu_cge _) (sn_cge (jm_dc dc_86_0 9 rfl) (by decide)) (
  jm_gc (pu_iload _ _) (sn_iload_n (i := 2) (jm_dc dc_86_0 10 rfl)) (
  jm_gc (pu_aload _ _) (sn_aload_n (i := 1) (jm_dc dc_86_0 11 rfl)) (
  jm_gc (pu_iload _ _) (sn_iload_n (i := 3) (jm_dc dc_86_0 12 rfl)) (
  jm_gc (pu_iald _) (sn_iald (jm_dc dc_86_0 13 rfl)) (
  jm_gc (pu_mmax) (sn_mmax (jm_dc dc_86_0 14 rfl) ⟨kc_tb 480 (by decide +kernel), kc_tb 481 (by decide +kernel), kc_tb 13 (by decide +kernel), kc_tb 482 (by decide +kernel)⟩) (
  jm_gc (pu_istore _ _) (sn_istore_n (i := 2) (jm_dc dc_86_0 15 rfl)) (
  jm_gc (pu_iinc _ _) (sn_iinc (jm_dc dc_86_0 16 rfl) (by decide)) (
  jm_gc (pu_goto _) (sn_goto (jm_dc dc_86_0 17 rfl) (by decide)) (
  jm_gc (pu_iload _ _) (sn_iload_n (i := 2) (jm_dc dc_86_0 18 rfl)) (
  jm_gc (pu_iret) (sn_iret (jm_dc dc_86_0 19 rfl) rfl) (
  jm_gn))))))))))))))))))))
theorem dc_87_0 : ([(0, .aload_n 0, 1), (1, .iload_n 1, 1), (2, .invokevirtual 71, 3), (5, .iload_n 2, 1), (6, .if_icmp .ne 10, 3), (9, .aload_n 0, 1), (10, .iload_n 1, 1), (11, .iload_n 2, 1), (12, .invokevirtual 91, 3), (15, .ireturn, 1), (16, .aload_n 0, 1), (17, .iload_n 2, 1), (18, .invokevirtual 71, 3), (21, .iload_n 1, 1), (22, .if_icmp .ne 12, 3), (25, .aload_n 0, 1), (26, .iload_n 2, 1), (27, .iload_n 1, 1), (28, .invokevirtual 91, 3), (31, .goto 9, 3), (34, .aload_n 0, 1), (35, .iload_n 1, 1), (36, .iload_n 2, 1), (37, .invokevirtual 94, 3), (40, .ireturn, 1)] : List (Nat × Instr × Nat)).all (fun e => decide (decode prog_10_method_11_code e.1 = .ok e.2)) = true := by decide +kernel
abbrev cl_87_0 : List (Nat × jm_O) := [(0, op_aload 0 1), (1, op_iload 1 1), (2, op_callV 7 83 2), (5, op_iload 2 1), (6, op_cne 16), (9, op_aload 0 1), (10, op_iload 1 1), (11, op_iload 2 1), (12, op_callV 7 88 3), (15, op_zret), (16, op_aload 0 1), (17, op_iload 2 1), (18, op_callV 7 83 2), (21, op_iload 1 1), (22, op_cne 34), (25, op_aload 0 1), (26, op_iload 2 1), (27, op_iload 1 1), (28, op_callV 7 88 3), (31, op_goto 40), (34, op_aload 0 1), (35, op_iload 1 1), (36, op_iload 2 1), (37, op_callV 7 89 3), (40, op_zret)]
set_option maxRecDepth 100000 in
theorem gl_87_0 : jm_gl "FrescoWall$Sketch" prog_10_method_11_code 3 (Option.some Jvm.ClassFile.FieldType.boolean) false cl_87_0 :=
  jm_gc (pu_aload _ _) (sn_aload_n (i := 0) (jm_dc dc_87_0 0 rfl)) (
  jm_gc (pu_iload _ _) (sn_iload_n (i := 1) (jm_dc dc_87_0 1 rfl)) (
  jm_gc (pu_callV _ _ _) (sn_callV (jm_dc dc_87_0 2 rfl) lk_7_71) (
  jm_gc (pu_iload _ _) (sn_iload_n (i := 2) (jm_dc dc_87_0 3 rfl)) (
  jm_gc (pu_cne _) (sn_cne (jm_dc dc_87_0 4 rfl) (by decide)) (
  jm_gc (pu_aload _ _) (sn_aload_n (i := 0) (jm_dc dc_87_0 5 rfl)) (
  jm_gc (pu_iload _ _) (sn_iload_n (i := 1) (jm_dc dc_87_0 6 rfl)) (
  jm_gc (pu_iload _ _) (sn_iload_n (i := 2) (jm_dc dc_87_0 7 rfl)) (
  jm_gc (pu_callV _ _ _) (sn_callV (jm_dc dc_87_0 8 rfl) lk_7_91) (
  jm_gc (pu_zret) (sn_zret (jm_dc dc_87_0 9 rfl) rfl) (
  jm_gc (pu_aload _ _) (sn_aload_n (i := 0) (jm_dc dc_87_0 10 rfl)) (
  jm_gc (pu_iload _ _) (sn_iload_n (i := 2) (jm_dc dc_87_0 11 rfl)) (
  jm_gc (pu_callV _ _ _) (sn_callV (jm_dc dc_87_0 12 rfl) lk_7_71) (
  jm_gc (pu_iload _ _) (sn_iload_n (i := 1) (jm_dc dc_87_0 13 rfl)) (
  jm_gc (pu_cne _) (sn_cne (jm_dc dc_87_0 14 rfl) (by decide)) (
  jm_gc (pu_aload _ _) (sn_aload_n (i := 0) (jm_dc dc_87_0 15 rfl)) (
  jm_gc (pu_iload _ _) (sn_iload_n (i := 2) (jm_dc dc_87_0 16 rfl)) (
  jm_gc (pu_iload _ _) (sn_iload_n (i := 1) (jm_dc dc_87_0 17 rfl)) (
  jm_gc (pu_callV _ _ _) (sn_callV (jm_dc dc_87_0 18 rfl) lk_7_91) (
  jm_gc (pu_goto _) (sn_goto (jm_dc dc_87_0 19 rfl) (by decide)) (
  jm_gc (pu_aload _ _) (sn_aload_n (i := 0) (jm_dc dc_87_0 20 rfl)) (
  jm_gc (pu_iload _ _) (sn_iload_n (i := 1) (jm_dc dc_87_0 21 rfl)) (
  jm_gc (pu_iload _ _) (sn_iload_n (i := 2) (jm_dc dc_87_0 22 rfl)) (
  jm_gc (pu_callV _ _ _) (sn_callV (jm_dc dc_87_0 23 rfl) lk_7_94) (
  jm_gc (pu_zret) (sn_zret (jm_dc dc_87_0 24 rfl) rfl) (
  jm_gn)))))))))))))))))))))))))
theorem dc_88_0 : ([(0, .aload_n 0, 1), (1, .getfield 9, 3), (4, .aload_n 0, 1), (5, .iload_n 1, 1), (6, .invokevirtual 71, 3), (9, .iaload, 1), (10, .aload_n 0, 1), (11, .getfield 9, 3), (14, .iload_n 1, 1), (15, .iaload, 1), (16, .isub, 1), (17, .istore_n 3, 1), (18, .aload_n 0, 1), (19, .getfield 15, 3), (22, .aload_n 0, 1), (23, .iload_n 1, 1), (24, .invokevirtual 71, 3), (27, .iaload, 1), (28, .aload_n 0, 1), (29, .getfield 15, 3), (32, .iload_n 1, 1), (33, .iaload, 1), (34, .isub, 1), (35, .istore 4, 2), (37, .aload_n 0, 1)] : List (Nat × Instr × Nat)).all (fun e => decide (decode prog_10_method_12_code e.1 = .ok e.2)) = true := by decide +kernel
abbrev cl_88_0 : List (Nat × jm_O) := [(0, op_aload 0 1), (1, op_getA 7 4), (4, op_aload 0 1), (5, op_iload 1 1), (6, op_callV 7 83 2), (9, op_iald 13), (10, op_aload 0 1), (11, op_getA 7 4), (14, op_iload 1 1), (15, op_iald 13), (16, op_ibin (fun x y => x - y)), (17, op_istore 3 1), (18, op_aload 0 1), (19, op_getA 7 5), (22, op_aload 0 1), (23, op_iload 1 1), (24, op_callV 7 83 2), (27, op_iald 13), (28, op_aload 0 1), (29, op_getA 7 5), (32, op_iload 1 1), (33, op_iald 13), (34, op_ibin (fun x y => x - y)), (35, op_istore 4 2), (37, op_aload 0 1)]
set_option maxRecDepth 100000 in
theorem gl_88_0 : jm_gl "FrescoWall$Sketch" prog_10_method_12_code 7 (Option.some Jvm.ClassFile.FieldType.boolean) false cl_88_0 :=
  jm_gc (pu_aload _ _) (sn_aload_n (i := 0) (jm_dc dc_88_0 0 rfl)) (
  jm_gc (pu_getA _ _) (sn_getA (jm_dc dc_88_0 1 rfl) fl_7_9 rfl) (
  jm_gc (pu_aload _ _) (sn_aload_n (i := 0) (jm_dc dc_88_0 2 rfl)) (
  jm_gc (pu_iload _ _) (sn_iload_n (i := 1) (jm_dc dc_88_0 3 rfl)) (
  jm_gc (pu_callV _ _ _) (sn_callV (jm_dc dc_88_0 4 rfl) lk_7_71) (
  jm_gc (pu_iald _) (sn_iald (jm_dc dc_88_0 5 rfl)) (
  jm_gc (pu_aload _ _) (sn_aload_n (i := 0) (jm_dc dc_88_0 6 rfl)) (
  jm_gc (pu_getA _ _) (sn_getA (jm_dc dc_88_0 7 rfl) fl_7_9 rfl) (
  jm_gc (pu_iload _ _) (sn_iload_n (i := 1) (jm_dc dc_88_0 8 rfl)) (
  jm_gc (pu_iald _) (sn_iald (jm_dc dc_88_0 9 rfl)) (
  jm_gc (pu_ibin _) (sn_isub (jm_dc dc_88_0 10 rfl)) (
  jm_gc (pu_istore _ _) (sn_istore_n (i := 3) (jm_dc dc_88_0 11 rfl)) (
  jm_gc (pu_aload _ _) (sn_aload_n (i := 0) (jm_dc dc_88_0 12 rfl)) (
  jm_gc (pu_getA _ _) (sn_getA (jm_dc dc_88_0 13 rfl) fl_7_15 rfl) (
  jm_gc (pu_aload _ _) (sn_aload_n (i := 0) (jm_dc dc_88_0 14 rfl)) (
  jm_gc (pu_iload _ _) (sn_iload_n (i := 1) (jm_dc dc_88_0 15 rfl)) (
  jm_gc (pu_callV _ _ _) (sn_callV (jm_dc dc_88_0 16 rfl) lk_7_71) (
  jm_gc (pu_iald _) (sn_iald (jm_dc dc_88_0 17 rfl)) (
  jm_gc (pu_aload _ _) (sn_aload_n (i := 0) (jm_dc dc_88_0 18 rfl)) (
  jm_gc (pu_getA _ _) (sn_getA (jm_dc dc_88_0 19 rfl) fl_7_15 rfl) (
  jm_gc (pu_iload _ _) (sn_iload_n (i := 1) (jm_dc dc_88_0 20 rfl)) (
  jm_gc (pu_iald _) (sn_iald (jm_dc dc_88_0 21 rfl)) (
  jm_gc (pu_ibin _) (sn_isub (jm_dc dc_88_0 22 rfl)) (
  jm_gc (pu_istore _ _) (sn_istore (jm_dc dc_88_0 23 rfl)) (
  jm_gc (pu_aload _ _) (sn_aload_n (i := 0) (jm_dc dc_88_0 24 rfl)) (
  jm_gn)))))))))))))))))))))))))
theorem dc_88_1 : ([(38, .getfield 9, 3), (41, .aload_n 0, 1), (42, .iload_n 2, 1), (43, .invokevirtual 71, 3), (46, .iaload, 1), (47, .aload_n 0, 1), (48, .getfield 9, 3), (51, .iload_n 2, 1), (52, .iaload, 1), (53, .isub, 1), (54, .istore 5, 2), (56, .aload_n 0, 1), (57, .getfield 15, 3), (60, .aload_n 0, 1), (61, .iload_n 2, 1), (62, .invokevirtual 71, 3), (65, .iaload, 1), (66, .aload_n 0, 1), (67, .getfield 15, 3), (70, .iload_n 2, 1), (71, .iaload, 1), (72, .isub, 1), (73, .istore 6, 2), (75, .iload_n 3, 1), (76, .iload 6, 2)] : List (Nat × Instr × Nat)).all (fun e => decide (decode prog_10_method_12_code e.1 = .ok e.2)) = true := by decide +kernel
abbrev cl_88_1 : List (Nat × jm_O) := [(38, op_getA 7 4), (41, op_aload 0 1), (42, op_iload 2 1), (43, op_callV 7 83 2), (46, op_iald 13), (47, op_aload 0 1), (48, op_getA 7 4), (51, op_iload 2 1), (52, op_iald 13), (53, op_ibin (fun x y => x - y)), (54, op_istore 5 2), (56, op_aload 0 1), (57, op_getA 7 5), (60, op_aload 0 1), (61, op_iload 2 1), (62, op_callV 7 83 2), (65, op_iald 13), (66, op_aload 0 1), (67, op_getA 7 5), (70, op_iload 2 1), (71, op_iald 13), (72, op_ibin (fun x y => x - y)), (73, op_istore 6 2), (75, op_iload 3 1), (76, op_iload 6 2)]
set_option maxRecDepth 100000 in
theorem gl_88_1 : jm_gl "FrescoWall$Sketch" prog_10_method_12_code 7 (Option.some Jvm.ClassFile.FieldType.boolean) false cl_88_1 :=
  jm_gc (pu_getA _ _) (sn_getA (jm_dc dc_88_1 0 rfl) fl_7_9 rfl) (
  jm_gc (pu_aload _ _) (sn_aload_n (i := 0) (jm_dc dc_88_1 1 rfl)) (
  jm_gc (pu_iload _ _) (sn_iload_n (i := 2) (jm_dc dc_88_1 2 rfl)) (
  jm_gc (pu_callV _ _ _) (sn_callV (jm_dc dc_88_1 3 rfl) lk_7_71) (
  jm_gc (pu_iald _) (sn_iald (jm_dc dc_88_1 4 rfl)) (
  jm_gc (pu_aload _ _) (sn_aload_n (i := 0) (jm_dc dc_88_1 5 rfl)) (
  jm_gc (pu_getA _ _) (sn_getA (jm_dc dc_88_1 6 rfl) fl_7_9 rfl) (
  jm_gc (pu_iload _ _) (sn_iload_n (i := 2) (jm_dc dc_88_1 7 rfl)) (
  jm_gc (pu_iald _) (sn_iald (jm_dc dc_88_1 8 rfl)) (
  jm_gc (pu_ibin _) (sn_isub (jm_dc dc_88_1 9 rfl)) (
  jm_gc (pu_istore _ _) (sn_istore (jm_dc dc_88_1 10 rfl)) (
  jm_gc (pu_aload _ _) (sn_aload_n (i := 0) (jm_dc dc_88_1 11 rfl)) (
  jm_gc (pu_getA _ _) (sn_getA (jm_dc dc_88_1 12 rfl) fl_7_15 rfl) (
  jm_gc (pu_aload _ _) (sn_aload_n (i := 0) (jm_dc dc_88_1 13 rfl)) (
  jm_gc (pu_iload _ _) (sn_iload_n (i := 2) (jm_dc dc_88_1 14 rfl)) (
  jm_gc (pu_callV _ _ _) (sn_callV (jm_dc dc_88_1 15 rfl) lk_7_71) (
  jm_gc (pu_iald _) (sn_iald (jm_dc dc_88_1 16 rfl)) (
  jm_gc (pu_aload _ _) (sn_aload_n (i := 0) (jm_dc dc_88_1 17 rfl)) (
  jm_gc (pu_getA _ _) (sn_getA (jm_dc dc_88_1 18 rfl) fl_7_15 rfl) (
  jm_gc (pu_iload _ _) (sn_iload_n (i := 2) (jm_dc dc_88_1 19 rfl)) (
  jm_gc (pu_iald _) (sn_iald (jm_dc dc_88_1 20 rfl)) (
  jm_gc (pu_ibin _) (sn_isub (jm_dc dc_88_1 21 rfl)) (
  jm_gc (pu_istore _ _) (sn_istore (jm_dc dc_88_1 22 rfl)) (
  jm_gc (pu_iload _ _) (sn_iload_n (i := 3) (jm_dc dc_88_1 23 rfl)) (
  jm_gc (pu_iload _ _) (sn_iload (jm_dc dc_88_1 24 rfl)) (
  jm_gn)))))))))))))))))))))))))
theorem dc_88_2 : ([(78, .imul, 1), (79, .iload 4, 2), (81, .iload 5, 2), (83, .imul, 1), (84, .isub, 1), (85, .ifCond .ne 20, 3), (88, .iload_n 3, 1), (89, .iload 5, 2), (91, .imul, 1), (92, .iload 4, 2), (94, .iload 6, 2), (96, .imul, 1), (97, .iadd, 1), (98, .ifCond .ge 7, 3), (101, .iconst 1, 1), (102, .goto 4, 3), (105, .iconst 0, 1), (106, .ireturn, 1)] : List (Nat × Instr × Nat)).all (fun e => decide (decode prog_10_method_12_code e.1 = .ok e.2)) = true := by decide +kernel
abbrev cl_88_2 : List (Nat × jm_O) := [(78, op_ibin (fun x y => x * y)), (79, op_iload 4 2), (81, op_iload 5 2), (83, op_ibin (fun x y => x * y)), (84, op_ibin (fun x y => x - y)), (85, op_ifne 105), (88, op_iload 3 1), (89, op_iload 5 2), (91, op_ibin (fun x y => x * y)), (92, op_iload 4 2), (94, op_iload 6 2), (96, op_ibin (fun x y => x * y)), (97, op_ibin (fun x y => x + y)), (98, op_ifge 105), (101, op_ic 1 1), (102, op_goto 106), (105, op_ic 0 1), (106, op_zret)]
set_option maxRecDepth 100000 in
theorem gl_88_2 : jm_gl "FrescoWall$Sketch" prog_10_method_12_code 7 (Option.some Jvm.ClassFile.FieldType.boolean) false cl_88_2 :=
  jm_gc (pu_ibin _) (sn_imul (jm_dc dc_88_2 0 rfl)) (
  jm_gc (pu_iload _ _) (sn_iload (jm_dc dc_88_2 1 rfl)) (
  jm_gc (pu_iload _ _) (sn_iload (jm_dc dc_88_2 2 rfl)) (
  jm_gc (pu_ibin _) (sn_imul (jm_dc dc_88_2 3 rfl)) (
  jm_gc (pu_ibin _) (sn_isub (jm_dc dc_88_2 4 rfl)) (
  jm_gc (pu_ifne _) (sn_ifne (jm_dc dc_88_2 5 rfl) (by decide)) (
  jm_gc (pu_iload _ _) (sn_iload_n (i := 3) (jm_dc dc_88_2 6 rfl)) (
  jm_gc (pu_iload _ _) (sn_iload (jm_dc dc_88_2 7 rfl)) (
  jm_gc (pu_ibin _) (sn_imul (jm_dc dc_88_2 8 rfl)) (
  jm_gc (pu_iload _ _) (sn_iload (jm_dc dc_88_2 9 rfl)) (
  jm_gc (pu_iload _ _) (sn_iload (jm_dc dc_88_2 10 rfl)) (
  jm_gc (pu_ibin _) (sn_imul (jm_dc dc_88_2 11 rfl)) (
  jm_gc (pu_ibin _) (sn_iadd (jm_dc dc_88_2 12 rfl)) (
  jm_gc (pu_ifge _) (sn_ifge (jm_dc dc_88_2 13 rfl) (by decide)) (
  jm_gc (pu_ic _ _) (sn_iconst (jm_dc dc_88_2 14 rfl) (by decide)) (
  jm_gc (pu_goto _) (sn_goto (jm_dc dc_88_2 15 rfl) (by decide)) (
  jm_gc (pu_ic _ _) (sn_iconst (jm_dc dc_88_2 16 rfl) (by decide)) (
  jm_gc (pu_zret) (sn_zret (jm_dc dc_88_2 17 rfl) rfl) (
  jm_gn))))))))))))))))))
theorem dc_89_0 : ([(0, .aload_n 0, 1), (1, .iload_n 1, 1), (2, .iload_n 2, 1), (3, .invokevirtual 97, 3), (6, .istore_n 3, 1), (7, .aload_n 0, 1), (8, .iload_n 1, 1), (9, .aload_n 0, 1), (10, .iload_n 2, 1), (11, .invokevirtual 71, 3), (14, .invokevirtual 97, 3), (17, .istore 4, 2), (19, .aload_n 0, 1), (20, .iload_n 2, 1), (21, .iload_n 1, 1), (22, .invokevirtual 97, 3), (25, .istore 5, 2), (27, .aload_n 0, 1), (28, .iload_n 2, 1), (29, .aload_n 0, 1), (30, .iload_n 1, 1), (31, .invokevirtual 71, 3), (34, .invokevirtual 97, 3), (37, .istore 6, 2), (39, .iload_n 3, 1)] : List (Nat × Instr × Nat)).all (fun e => decide (decode prog_10_method_13_code e.1 = .ok e.2)) = true := by decide +kernel
abbrev cl_89_0 : List (Nat × jm_O) := [(0, op_aload 0 1), (1, op_iload 1 1), (2, op_iload 2 1), (3, op_callV 7 90 3), (6, op_istore 3 1), (7, op_aload 0 1), (8, op_iload 1 1), (9, op_aload 0 1), (10, op_iload 2 1), (11, op_callV 7 83 2), (14, op_callV 7 90 3), (17, op_istore 4 2), (19, op_aload 0 1), (20, op_iload 2 1), (21, op_iload 1 1), (22, op_callV 7 90 3), (25, op_istore 5 2), (27, op_aload 0 1), (28, op_iload 2 1), (29, op_aload 0 1), (30, op_iload 1 1), (31, op_callV 7 83 2), (34, op_callV 7 90 3), (37, op_istore 6 2), (39, op_iload 3 1)]
set_option maxRecDepth 100000 in
theorem gl_89_0 : jm_gl "FrescoWall$Sketch" prog_10_method_13_code 7 (Option.some Jvm.ClassFile.FieldType.boolean) false cl_89_0 :=
  jm_gc (pu_aload _ _) (sn_aload_n (i := 0) (jm_dc dc_89_0 0 rfl)) (
  jm_gc (pu_iload _ _) (sn_iload_n (i := 1) (jm_dc dc_89_0 1 rfl)) (
  jm_gc (pu_iload _ _) (sn_iload_n (i := 2) (jm_dc dc_89_0 2 rfl)) (
  jm_gc (pu_callV _ _ _) (sn_callV (jm_dc dc_89_0 3 rfl) lk_7_97) (
  jm_gc (pu_istore _ _) (sn_istore_n (i := 3) (jm_dc dc_89_0 4 rfl)) (
  jm_gc (pu_aload _ _) (sn_aload_n (i := 0) (jm_dc dc_89_0 5 rfl)) (
  jm_gc (pu_iload _ _) (sn_iload_n (i := 1) (jm_dc dc_89_0 6 rfl)) (
  jm_gc (pu_aload _ _) (sn_aload_n (i := 0) (jm_dc dc_89_0 7 rfl)) (
  jm_gc (pu_iload _ _) (sn_iload_n (i := 2) (jm_dc dc_89_0 8 rfl)) (
  jm_gc (pu_callV _ _ _) (sn_callV (jm_dc dc_89_0 9 rfl) lk_7_71) (
  jm_gc (pu_callV _ _ _) (sn_callV (jm_dc dc_89_0 10 rfl) lk_7_97) (
  jm_gc (pu_istore _ _) (sn_istore (jm_dc dc_89_0 11 rfl)) (
  jm_gc (pu_aload _ _) (sn_aload_n (i := 0) (jm_dc dc_89_0 12 rfl)) (
  jm_gc (pu_iload _ _) (sn_iload_n (i := 2) (jm_dc dc_89_0 13 rfl)) (
  jm_gc (pu_iload _ _) (sn_iload_n (i := 1) (jm_dc dc_89_0 14 rfl)) (
  jm_gc (pu_callV _ _ _) (sn_callV (jm_dc dc_89_0 15 rfl) lk_7_97) (
  jm_gc (pu_istore _ _) (sn_istore (jm_dc dc_89_0 16 rfl)) (
  jm_gc (pu_aload _ _) (sn_aload_n (i := 0) (jm_dc dc_89_0 17 rfl)) (
  jm_gc (pu_iload _ _) (sn_iload_n (i := 2) (jm_dc dc_89_0 18 rfl)) (
  jm_gc (pu_aload _ _) (sn_aload_n (i := 0) (jm_dc dc_89_0 19 rfl)) (
  jm_gc (pu_iload _ _) (sn_iload_n (i := 1) (jm_dc dc_89_0 20 rfl)) (
  jm_gc (pu_callV _ _ _) (sn_callV (jm_dc dc_89_0 21 rfl) lk_7_71) (
  jm_gc (pu_callV _ _ _) (sn_callV (jm_dc dc_89_0 22 rfl) lk_7_97) (
  jm_gc (pu_istore _ _) (sn_istore (jm_dc dc_89_0 23 rfl)) (
  jm_gc (pu_iload _ _) (sn_iload_n (i := 3) (jm_dc dc_89_0 24 rfl)) (
  jm_gn)))))))))))))))))))))))))
theorem dc_89_1 : ([(40, .iload 4, 2), (42, .imul, 1), (43, .ifCond .ge 13, 3), (46, .iload 5, 2), (48, .iload 6, 2), (50, .imul, 1), (51, .ifCond .ge 5, 3), (54, .iconst 1, 1), (55, .ireturn, 1), (56, .iload_n 3, 1), (57, .ifCond .ne 12, 3), (60, .aload_n 0, 1), (61, .iload_n 1, 1), (62, .iload_n 2, 1), (63, .invokevirtual 100, 3), (66, .ifCond .ne 53, 3), (69, .iload 4, 2), (71, .ifCond .ne 16, 3), (74, .aload_n 0, 1), (75, .iload_n 1, 1), (76, .aload_n 0, 1), (77, .iload_n 2, 1), (78, .invokevirtual 71, 3), (81, .invokevirtual 100, 3), (84, .ifCond .ne 35, 3)] : List (Nat × Instr × Nat)).all (fun e => decide (decode prog_10_method_13_code e.1 = .ok e.2)) = true := by decide +kernel
abbrev cl_89_1 : List (Nat × jm_O) := [(40, op_iload 4 2), (42, op_ibin (fun x y => x * y)), (43, op_ifge 56), (46, op_iload 5 2), (48, op_iload 6 2), (50, op_ibin (fun x y => x * y)), (51, op_ifge 56), (54, op_ic 1 1), (55, op_zret), (56, op_iload 3 1), (57, op_ifne 69), (60, op_aload 0 1), (61, op_iload 1 1), (62, op_iload 2 1), (63, op_callV 7 91 3), (66, op_ifne 119), (69, op_iload 4 2), (71, op_ifne 87), (74, op_aload 0 1), (75, op_iload 1 1), (76, op_aload 0 1), (77, op_iload 2 1), (78, op_callV 7 83 2), (81, op_callV 7 91 3), (84, op_ifne 119)]
set_option maxRecDepth 100000 in
theorem gl_89_1 : jm_gl "FrescoWall$Sketch" prog_10_method_13_code 7 (Option.some Jvm.ClassFile.FieldType.boolean) false cl_89_1 :=
  jm_gc (pu_iload _ _) (sn_iload (jm_dc dc_89_1 0 rfl)) (
  jm_gc (pu_ibin _) (sn_imul (jm_dc dc_89_1 1 rfl)) (
  jm_gc (pu_ifge _) (sn_ifge (jm_dc dc_89_1 2 rfl) (by decide)) (
  jm_gc (pu_iload _ _) (sn_iload (jm_dc dc_89_1 3 rfl)) (
  jm_gc (pu_iload _ _) (sn_iload (jm_dc dc_89_1 4 rfl)) (
  jm_gc (pu_ibin _) (sn_imul (jm_dc dc_89_1 5 rfl)) (
  jm_gc (pu_ifge _) (sn_ifge (jm_dc dc_89_1 6 rfl) (by decide)) (
  jm_gc (pu_ic _ _) (sn_iconst (jm_dc dc_89_1 7 rfl) (by decide)) (
  jm_gc (pu_zret) (sn_zret (jm_dc dc_89_1 8 rfl) rfl) (
  jm_gc (pu_iload _ _) (sn_iload_n (i := 3) (jm_dc dc_89_1 9 rfl)) (
  jm_gc (pu_ifne _) (sn_ifne (jm_dc dc_89_1 10 rfl) (by decide)) (
  jm_gc (pu_aload _ _) (sn_aload_n (i := 0) (jm_dc dc_89_1 11 rfl)) (
  jm_gc (pu_iload _ _) (sn_iload_n (i := 1) (jm_dc dc_89_1 12 rfl)) (
  jm_gc (pu_iload _ _) (sn_iload_n (i := 2) (jm_dc dc_89_1 13 rfl)) (
  jm_gc (pu_callV _ _ _) (sn_callV (jm_dc dc_89_1 14 rfl) lk_7_100) (
  jm_gc (pu_ifne _) (sn_ifne (jm_dc dc_89_1 15 rfl) (by decide)) (
  jm_gc (pu_iload _ _) (sn_iload (jm_dc dc_89_1 16 rfl)) (
  jm_gc (pu_ifne _) (sn_ifne (jm_dc dc_89_1 17 rfl) (by decide)) (
  jm_gc (pu_aload _ _) (sn_aload_n (i := 0) (jm_dc dc_89_1 18 rfl)) (
  jm_gc (pu_iload _ _) (sn_iload_n (i := 1) (jm_dc dc_89_1 19 rfl)) (
  jm_gc (pu_aload _ _) (sn_aload_n (i := 0) (jm_dc dc_89_1 20 rfl)) (
  jm_gc (pu_iload _ _) (sn_iload_n (i := 2) (jm_dc dc_89_1 21 rfl)) (
  jm_gc (pu_callV _ _ _) (sn_callV (jm_dc dc_89_1 22 rfl) lk_7_71) (
  jm_gc (pu_callV _ _ _) (sn_callV (jm_dc dc_89_1 23 rfl) lk_7_100) (
  jm_gc (pu_ifne _) (sn_ifne (jm_dc dc_89_1 24 rfl) (by decide)) (
  jm_gn)))))))))))))))))))))))))
theorem dc_89_2 : ([(87, .iload 5, 2), (89, .ifCond .ne 12, 3), (92, .aload_n 0, 1), (93, .iload_n 2, 1), (94, .iload_n 1, 1), (95, .invokevirtual 100, 3), (98, .ifCond .ne 21, 3), (101, .iload 6, 2), (103, .ifCond .ne 20, 3), (106, .aload_n 0, 1), (107, .iload_n 2, 1), (108, .aload_n 0, 1), (109, .iload_n 1, 1), (110, .invokevirtual 71, 3), (113, .invokevirtual 100, 3), (116, .ifCond .eq 7, 3), (119, .iconst 1, 1), (120, .goto 4, 3), (123, .iconst 0, 1), (124, .ireturn, 1)] : List (Nat × Instr × Nat)).all (fun e => decide (decode prog_10_method_13_code e.1 = .ok e.2)) = true := by decide +kernel
abbrev cl_89_2 : List (Nat × jm_O) := [(87, op_iload 5 2), (89, op_ifne 101), (92, op_aload 0 1), (93, op_iload 2 1), (94, op_iload 1 1), (95, op_callV 7 91 3), (98, op_ifne 119), (101, op_iload 6 2), (103, op_ifne 123), (106, op_aload 0 1), (107, op_iload 2 1), (108, op_aload 0 1), (109, op_iload 1 1), (110, op_callV 7 83 2), (113, op_callV 7 91 3), (116, op_ifeq 123), (119, op_ic 1 1), (120, op_goto 124), (123, op_ic 0 1), (124, op_zret)]
set_option maxRecDepth 100000 in
theorem gl_89_2 : jm_gl "FrescoWall$Sketch" prog_10_method_13_code 7 (Option.some Jvm.ClassFile.FieldType.boolean) false cl_89_2 :=
  jm_gc (pu_iload _ _) (sn_iload (jm_dc dc_89_2 0 rfl)) (
  jm_gc (pu_ifne _) (sn_ifne (jm_dc dc_89_2 1 rfl) (by decide)) (
  jm_gc (pu_aload _ _) (sn_aload_n (i := 0) (jm_dc dc_89_2 2 rfl)) (
  jm_gc (pu_iload _ _) (sn_iload_n (i := 2) (jm_dc dc_89_2 3 rfl)) (
  jm_gc (pu_iload _ _) (sn_iload_n (i := 1) (jm_dc dc_89_2 4 rfl)) (
  jm_gc (pu_callV _ _ _) (sn_callV (jm_dc dc_89_2 5 rfl) lk_7_100) (
  jm_gc (pu_ifne _) (sn_ifne (jm_dc dc_89_2 6 rfl) (by decide)) (
  jm_gc (pu_iload _ _) (sn_iload (jm_dc dc_89_2 7 rfl)) (
  jm_gc (pu_ifne _) (sn_ifne (jm_dc dc_89_2 8 rfl) (by decide)) (
  jm_gc (pu_aload _ _) (sn_aload_n (i := 0) (jm_dc dc_89_2 9 rfl)) (
  jm_gc (pu_iload _ _) (sn_iload_n (i := 2) (jm_dc dc_89_2 10 rfl)) (
  jm_gc (pu_aload _ _) (sn_aload_n (i := 0) (jm_dc dc_89_2 11 rfl)) (
  jm_gc (pu_iload _ _) (sn_iload_n (i := 1) (jm_dc dc_89_2 12 rfl)) (
  jm_gc (pu_callV _ _ _) (sn_callV (jm_dc dc_89_2 13 rfl) lk_7_71) (
  jm_gc (pu_callV _ _ _) (sn_callV (jm_dc dc_89_2 14 rfl) lk_7_100) (
  jm_gc (pu_ifeq _) (sn_ifeq (jm_dc dc_89_2 15 rfl) (by decide)) (
  jm_gc (pu_ic _ _) (sn_iconst (jm_dc dc_89_2 16 rfl) (by decide)) (
  jm_gc (pu_goto _) (sn_goto (jm_dc dc_89_2 17 rfl) (by decide)) (
  jm_gc (pu_ic _ _) (sn_iconst (jm_dc dc_89_2 18 rfl) (by decide)) (
  jm_gc (pu_zret) (sn_zret (jm_dc dc_89_2 19 rfl) rfl) (
  jm_gn))))))))))))))))))))
theorem dc_90_0 : ([(0, .aload_n 0, 1), (1, .iload_n 1, 1), (2, .invokevirtual 71, 3), (5, .istore_n 3, 1), (6, .aload_n 0, 1), (7, .getfield 9, 3), (10, .iload_n 3, 1), (11, .iaload, 1), (12, .aload_n 0, 1), (13, .getfield 9, 3), (16, .iload_n 1, 1), (17, .iaload, 1), (18, .isub, 1), (19, .aload_n 0, 1), (20, .getfield 15, 3), (23, .iload_n 2, 1), (24, .iaload, 1), (25, .aload_n 0, 1), (26, .getfield 15, 3), (29, .iload_n 1, 1), (30, .iaload, 1), (31, .isub, 1), (32, .imul, 1), (33, .aload_n 0, 1), (34, .getfield 15, 3)] : List (Nat × Instr × Nat)).all (fun e => decide (decode prog_10_method_14_code e.1 = .ok e.2)) = true := by decide +kernel
abbrev cl_90_0 : List (Nat × jm_O) := [(0, op_aload 0 1), (1, op_iload 1 1), (2, op_callV 7 83 2), (5, op_istore 3 1), (6, op_aload 0 1), (7, op_getA 7 4), (10, op_iload 3 1), (11, op_iald 13), (12, op_aload 0 1), (13, op_getA 7 4), (16, op_iload 1 1), (17, op_iald 13), (18, op_ibin (fun x y => x - y)), (19, op_aload 0 1), (20, op_getA 7 5), (23, op_iload 2 1), (24, op_iald 13), (25, op_aload 0 1), (26, op_getA 7 5), (29, op_iload 1 1), (30, op_iald 13), (31, op_ibin (fun x y => x - y)), (32, op_ibin (fun x y => x * y)), (33, op_aload 0 1), (34, op_getA 7 5)]
set_option maxRecDepth 100000 in
theorem gl_90_0 : jm_gl "FrescoWall$Sketch" prog_10_method_14_code 5 (Option.some Jvm.ClassFile.FieldType.int) false cl_90_0 :=
  jm_gc (pu_aload _ _) (sn_aload_n (i := 0) (jm_dc dc_90_0 0 rfl)) (
  jm_gc (pu_iload _ _) (sn_iload_n (i := 1) (jm_dc dc_90_0 1 rfl)) (
  jm_gc (pu_callV _ _ _) (sn_callV (jm_dc dc_90_0 2 rfl) lk_7_71) (
  jm_gc (pu_istore _ _) (sn_istore_n (i := 3) (jm_dc dc_90_0 3 rfl)) (
  jm_gc (pu_aload _ _) (sn_aload_n (i := 0) (jm_dc dc_90_0 4 rfl)) (
  jm_gc (pu_getA _ _) (sn_getA (jm_dc dc_90_0 5 rfl) fl_7_9 rfl) (
  jm_gc (pu_iload _ _) (sn_iload_n (i := 3) (jm_dc dc_90_0 6 rfl)) (
  jm_gc (pu_iald _) (sn_iald (jm_dc dc_90_0 7 rfl)) (
  jm_gc (pu_aload _ _) (sn_aload_n (i := 0) (jm_dc dc_90_0 8 rfl)) (
  jm_gc (pu_getA _ _) (sn_getA (jm_dc dc_90_0 9 rfl) fl_7_9 rfl) (
  jm_gc (pu_iload _ _) (sn_iload_n (i := 1) (jm_dc dc_90_0 10 rfl)) (
  jm_gc (pu_iald _) (sn_iald (jm_dc dc_90_0 11 rfl)) (
  jm_gc (pu_ibin _) (sn_isub (jm_dc dc_90_0 12 rfl)) (
  jm_gc (pu_aload _ _) (sn_aload_n (i := 0) (jm_dc dc_90_0 13 rfl)) (
  jm_gc (pu_getA _ _) (sn_getA (jm_dc dc_90_0 14 rfl) fl_7_15 rfl) (
  jm_gc (pu_iload _ _) (sn_iload_n (i := 2) (jm_dc dc_90_0 15 rfl)) (
  jm_gc (pu_iald _) (sn_iald (jm_dc dc_90_0 16 rfl)) (
  jm_gc (pu_aload _ _) (sn_aload_n (i := 0) (jm_dc dc_90_0 17 rfl)) (
  jm_gc (pu_getA _ _) (sn_getA (jm_dc dc_90_0 18 rfl) fl_7_15 rfl) (
  jm_gc (pu_iload _ _) (sn_iload_n (i := 1) (jm_dc dc_90_0 19 rfl)) (
  jm_gc (pu_iald _) (sn_iald (jm_dc dc_90_0 20 rfl)) (
  jm_gc (pu_ibin _) (sn_isub (jm_dc dc_90_0 21 rfl)) (
  jm_gc (pu_ibin _) (sn_imul (jm_dc dc_90_0 22 rfl)) (
  jm_gc (pu_aload _ _) (sn_aload_n (i := 0) (jm_dc dc_90_0 23 rfl)) (
  jm_gc (pu_getA _ _) (sn_getA (jm_dc dc_90_0 24 rfl) fl_7_15 rfl) (
  jm_gn)))))))))))))))))))))))))
theorem dc_90_1 : ([(37, .iload_n 3, 1), (38, .iaload, 1), (39, .aload_n 0, 1), (40, .getfield 15, 3), (43, .iload_n 1, 1), (44, .iaload, 1), (45, .isub, 1), (46, .aload_n 0, 1), (47, .getfield 9, 3), (50, .iload_n 2, 1), (51, .iaload, 1), (52, .aload_n 0, 1), (53, .getfield 9, 3), (56, .iload_n 1, 1), (57, .iaload, 1), (58, .isub, 1), (59, .imul, 1), (60, .isub, 1), (61, .istore 4, 2), (63, .iload 4, 2), (65, .iconst 0, 1), (66, .invokestatic 103, 3), (69, .ireturn, 1)] : List (Nat × Instr × Nat)).all (fun e => decide (decode prog_10_method_14_code e.1 = .ok e.2)) = true := by decide +kernel
abbrev cl_90_1 : List (Nat × jm_O) := [(37, op_iload 3 1), (38, op_iald 13), (39, op_aload 0 1), (40, op_getA 7 5), (43, op_iload 1 1), (44, op_iald 13), (45, op_ibin (fun x y => x - y)), (46, op_aload 0 1), (47, op_getA 7 4), (50, op_iload 2 1), (51, op_iald 13), (52, op_aload 0 1), (53, op_getA 7 4), (56, op_iload 1 1), (57, op_iald 13), (58, op_ibin (fun x y => x - y)), (59, op_ibin (fun x y => x * y)), (60, op_ibin (fun x y => x - y)), (61, op_istore 4 2), (63, op_iload 4 2), (65, op_ic 0 1), (66, op_callS 318 2), (69, op_iret)]
set_option maxRecDepth 100000 in
theorem gl_90_1 : jm_gl "FrescoWall$Sketch" prog_10_method_14_code 5 (Option.some Jvm.ClassFile.FieldType.int) false cl_90_1 :=
  jm_gc (pu_iload _ _) (sn_iload_n (i := 3) (jm_dc dc_90_1 0 rfl)) (
  jm_gc (pu_iald _) (sn_iald (jm_dc dc_90_1 1 rfl)) (
  jm_gc (pu_aload _ _) (sn_aload_n (i := 0) (jm_dc dc_90_1 2 rfl)) (
  jm_gc (pu_getA _ _) (sn_getA (jm_dc dc_90_1 3 rfl) fl_7_15 rfl) (
  jm_gc (pu_iload _ _) (sn_iload_n (i := 1) (jm_dc dc_90_1 4 rfl)) (
  jm_gc (pu_iald _) (sn_iald (jm_dc dc_90_1 5 rfl)) (
  jm_gc (pu_ibin _) (sn_isub (jm_dc dc_90_1 6 rfl)) (
  jm_gc (pu_aload _ _) (sn_aload_n (i := 0) (jm_dc dc_90_1 7 rfl)) (
  jm_gc (pu_getA _ _) (sn_getA (jm_dc dc_90_1 8 rfl) fl_7_9 rfl) (
  jm_gc (pu_iload _ _) (sn_iload_n (i := 2) (jm_dc dc_90_1 9 rfl)) (
  jm_gc (pu_iald _) (sn_iald (jm_dc dc_90_1 10 rfl)) (
  jm_gc (pu_aload _ _) (sn_aload_n (i := 0) (jm_dc dc_90_1 11 rfl)) (
  jm_gc (pu_getA _ _) (sn_getA (jm_dc dc_90_1 12 rfl) fl_7_9 rfl) (
  jm_gc (pu_iload _ _) (sn_iload_n (i := 1) (jm_dc dc_90_1 13 rfl)) (
  jm_gc (pu_iald _) (sn_iald (jm_dc dc_90_1 14 rfl)) (
  jm_gc (pu_ibin _) (sn_isub (jm_dc dc_90_1 15 rfl)) (
  jm_gc (pu_ibin _) (sn_imul (jm_dc dc_90_1 16 rfl)) (
  jm_gc (pu_ibin _) (sn_isub (jm_dc dc_90_1 17 rfl)) (
  jm_gc (pu_istore _ _) (sn_istore (jm_dc dc_90_1 18 rfl)) (
  jm_gc (pu_iload _ _) (sn_iload (jm_dc dc_90_1 19 rfl)) (
  jm_gc (pu_ic _ _) (sn_iconst (jm_dc dc_90_1 20 rfl) (by decide)) (
  jm_gc (pu_callS _ _) (sn_callS (jm_dc dc_90_1 21 rfl) lk_7_103) (
  jm_gc (pu_iret) (sn_iret (jm_dc dc_90_1 22 rfl) rfl) (
  jm_gn)))))))))))))))))))))))
theorem dc_91_0 : ([(0, .aload_n 0, 1), (1, .iload_n 1, 1), (2, .invokevirtual 71, 3), (5, .istore_n 3, 1), (6, .aload_n 0, 1), (7, .getfield 9, 3), (10, .iload_n 1, 1), (11, .iaload, 1), (12, .aload_n 0, 1), (13, .getfield 9, 3), (16, .iload_n 3, 1), (17, .iaload, 1), (18, .invokestatic 82, 3), (21, .aload_n 0, 1), (22, .getfield 9, 3), (25, .iload_n 2, 1), (26, .iaload, 1), (27, .if_icmp .gt 79, 3), (30, .aload_n 0, 1), (31, .getfield 9, 3), (34, .iload_n 2, 1), (35, .iaload, 1), (36, .aload_n 0, 1), (37, .getfield 9, 3), (40, .iload_n 1, 1)] : List (Nat × Instr × Nat)).all (fun e => decide (decode prog_10_method_15_code e.1 = .ok e.2)) = true := by decide +kernel
abbrev cl_91_0 : List (Nat × jm_O) := [(0, op_aload 0 1), (1, op_iload 1 1), (2, op_callV 7 83 2), (5, op_istore 3 1), (6, op_aload 0 1), (7, op_getA 7 4), (10, op_iload 1 1), (11, op_iald 13), (12, op_aload 0 1), (13, op_getA 7 4), (16, op_iload 3 1), (17, op_iald 13), (18, op_mmin), (21, op_aload 0 1), (22, op_getA 7 4), (25, op_iload 2 1), (26, op_iald 13), (27, op_cgt 106), (30, op_aload 0 1), (31, op_getA 7 4), (34, op_iload 2 1), (35, op_iald 13), (36, op_aload 0 1), (37, op_getA 7 4), (40, op_iload 1 1)]
set_option maxRecDepth 100000 in
theorem gl_91_0 : jm_gl "FrescoWall$Sketch" prog_10_method_15_code 4 (Option.some Jvm.ClassFile.FieldType.boolean) false cl_91_0 :=
  jm_gc (pu_aload _ _) (sn_aload_n (i := 0) (jm_dc dc_91_0 0 rfl)) (
  jm_gc (pu_iload _ _) (sn_iload_n (i := 1) (jm_dc dc_91_0 1 rfl)) (
  jm_gc (pu_callV _ _ _) (sn_callV (jm_dc dc_91_0 2 rfl) lk_7_71) (
  jm_gc (pu_istore _ _) (sn_istore_n (i := 3) (jm_dc dc_91_0 3 rfl)) (
  jm_gc (pu_aload _ _) (sn_aload_n (i := 0) (jm_dc dc_91_0 4 rfl)) (
  jm_gc (pu_getA _ _) (sn_getA (jm_dc dc_91_0 5 rfl) fl_7_9 rfl) (
  jm_gc (pu_iload _ _) (sn_iload_n (i := 1) (jm_dc dc_91_0 6 rfl)) (
  jm_gc (pu_iald _) (sn_iald (jm_dc dc_91_0 7 rfl)) (
  jm_gc (pu_aload _ _) (sn_aload_n (i := 0) (jm_dc dc_91_0 8 rfl)) (
  jm_gc (pu_getA _ _) (sn_getA (jm_dc dc_91_0 9 rfl) fl_7_9 rfl) (
  jm_gc (pu_iload _ _) (sn_iload_n (i := 3) (jm_dc dc_91_0 10 rfl)) (
  jm_gc (pu_iald _) (sn_iald (jm_dc dc_91_0 11 rfl)) (
  jm_gc (pu_mmin) (sn_mmin (jm_dc dc_91_0 12 rfl) ⟨kc_tb 477 (by decide +kernel), kc_tb 478 (by decide +kernel), kc_tb 13 (by decide +kernel), kc_tb 479 (by decide +kernel)⟩) (
  jm_gc (pu_aload _ _) (sn_aload_n (i := 0) (jm_dc dc_91_0 13 rfl)) (
  jm_gc (pu_getA _ _) (sn_getA (jm_dc dc_91_0 14 rfl) fl_7_9 rfl) (
  jm_gc (pu_iload _ _) (sn_iload_n (i := 2) (jm_dc dc_91_0 15 rfl)) (
  jm_gc (pu_iald _) (sn_iald (jm_dc dc_91_0 16 rfl)) (
  jm_gc (pu_cgt _) (sn_cgt (jm_dc dc_91_0 17 rfl) (by decide)) (
  jm_gc (pu_aload _ _) (sn_aload_n (i := 0) (jm_dc dc_91_0 18 rfl)) (
  jm_gc (pu_getA _ _) (sn_getA (jm_dc dc_91_0 19 rfl) fl_7_9 rfl) (
  jm_gc (pu_iload _ _) (sn_iload_n (i := 2) (jm_dc dc_91_0 20 rfl)) (
  jm_gc (pu_iald _) (sn_iald (jm_dc dc_91_0 21 rfl)) (
  jm_gc (pu_aload _ _) (sn_aload_n (i := 0) (jm_dc dc_91_0 22 rfl)) (
  jm_gc (pu_getA _ _) (sn_getA (jm_dc dc_91_0 23 rfl) fl_7_9 rfl) (
  jm_gc (pu_iload _ _) (sn_iload_n (i := 1) (jm_dc dc_91_0 24 rfl)) (
  jm_gn)))))))))))))))))))))))))
theorem dc_91_1 : ([(41, .iaload, 1), (42, .aload_n 0, 1), (43, .getfield 9, 3), (46, .iload_n 3, 1), (47, .iaload, 1), (48, .invokestatic 88, 3), (51, .if_icmp .gt 55, 3), (54, .aload_n 0, 1), (55, .getfield 15, 3), (58, .iload_n 1, 1), (59, .iaload, 1), (60, .aload_n 0, 1), (61, .getfield 15, 3), (64, .iload_n 3, 1), (65, .iaload, 1), (66, .invokestatic 82, 3), (69, .aload_n 0, 1), (70, .getfield 15, 3), (73, .iload_n 2, 1), (74, .iaload, 1), (75, .if_icmp .gt 31, 3), (78, .aload_n 0, 1), (79, .getfield 15, 3), (82, .iload_n 2, 1), (83, .iaload, 1)] : List (Nat × Instr × Nat)).all (fun e => decide (decode prog_10_method_15_code e.1 = .ok e.2)) = true := by decide +kernel
abbrev cl_91_1 : List (Nat × jm_O) := [(41, op_iald 13), (42, op_aload 0 1), (43, op_getA 7 4), (46, op_iload 3 1), (47, op_iald 13), (48, op_mmax), (51, op_cgt 106), (54, op_aload 0 1), (55, op_getA 7 5), (58, op_iload 1 1), (59, op_iald 13), (60, op_aload 0 1), (61, op_getA 7 5), (64, op_iload 3 1), (65, op_iald 13), (66, op_mmin), (69, op_aload 0 1), (70, op_getA 7 5), (73, op_iload 2 1), (74, op_iald 13), (75, op_cgt 106), (78, op_aload 0 1), (79, op_getA 7 5), (82, op_iload 2 1), (83, op_iald 13)]
set_option maxRecDepth 100000 in
theorem gl_91_1 : jm_gl "FrescoWall$Sketch" prog_10_method_15_code 4 (Option.some Jvm.ClassFile.FieldType.boolean) false cl_91_1 :=
  jm_gc (pu_iald _) (sn_iald (jm_dc dc_91_1 0 rfl)) (
  jm_gc (pu_aload _ _) (sn_aload_n (i := 0) (jm_dc dc_91_1 1 rfl)) (
  jm_gc (pu_getA _ _) (sn_getA (jm_dc dc_91_1 2 rfl) fl_7_9 rfl) (
  jm_gc (pu_iload _ _) (sn_iload_n (i := 3) (jm_dc dc_91_1 3 rfl)) (
  jm_gc (pu_iald _) (sn_iald (jm_dc dc_91_1 4 rfl)) (
  jm_gc (pu_mmax) (sn_mmax (jm_dc dc_91_1 5 rfl) ⟨kc_tb 480 (by decide +kernel), kc_tb 481 (by decide +kernel), kc_tb 13 (by decide +kernel), kc_tb 482 (by decide +kernel)⟩) (
  jm_gc (pu_cgt _) (sn_cgt (jm_dc dc_91_1 6 rfl) (by decide)) (
  jm_gc (pu_aload _ _) (sn_aload_n (i := 0) (jm_dc dc_91_1 7 rfl)) (
  jm_gc (pu_getA _ _) (sn_getA (jm_dc dc_91_1 8 rfl) fl_7_15 rfl) (
  jm_gc (pu_iload _ _) (sn_iload_n (i := 1) (jm_dc dc_91_1 9 rfl)) (
  jm_gc (pu_iald _) (sn_iald (jm_dc dc_91_1 10 rfl)) (
  jm_gc (pu_aload _ _) (sn_aload_n (i := 0) (jm_dc dc_91_1 11 rfl)) (
  jm_gc (pu_getA _ _) (sn_getA (jm_dc dc_91_1 12 rfl) fl_7_15 rfl) (
  jm_gc (pu_iload _ _) (sn_iload_n (i := 3) (jm_dc dc_91_1 13 rfl)) (
  jm_gc (pu_iald _) (sn_iald (jm_dc dc_91_1 14 rfl)) (
  jm_gc (pu_mmin) (sn_mmin (jm_dc dc_91_1 15 rfl) ⟨kc_tb 477 (by decide +kernel), kc_tb 478 (by decide +kernel), kc_tb 13 (by decide +kernel), kc_tb 479 (by decide +kernel)⟩) (
  jm_gc (pu_aload _ _) (sn_aload_n (i := 0) (jm_dc dc_91_1 16 rfl)) (
  jm_gc (pu_getA _ _) (sn_getA (jm_dc dc_91_1 17 rfl) fl_7_15 rfl) (
  jm_gc (pu_iload _ _) (sn_iload_n (i := 2) (jm_dc dc_91_1 18 rfl)) (
  jm_gc (pu_iald _) (sn_iald (jm_dc dc_91_1 19 rfl)) (
  jm_gc (pu_cgt _) (sn_cgt (jm_dc dc_91_1 20 rfl) (by decide)) (
  jm_gc (pu_aload _ _) (sn_aload_n (i := 0) (jm_dc dc_91_1 21 rfl)) (
  jm_gc (pu_getA _ _) (sn_getA (jm_dc dc_91_1 22 rfl) fl_7_15 rfl) (
  jm_gc (pu_iload _ _) (sn_iload_n (i := 2) (jm_dc dc_91_1 23 rfl)) (
  jm_gc (pu_iald _) (sn_iald (jm_dc dc_91_1 24 rfl)) (
  jm_gn)))))))))))))))))))))))))
theorem dc_91_2 : ([(84, .aload_n 0, 1), (85, .getfield 15, 3), (88, .iload_n 1, 1), (89, .iaload, 1), (90, .aload_n 0, 1), (91, .getfield 15, 3), (94, .iload_n 3, 1), (95, .iaload, 1), (96, .invokestatic 88, 3), (99, .if_icmp .gt 7, 3), (102, .iconst 1, 1), (103, .goto 4, 3), (106, .iconst 0, 1), (107, .ireturn, 1)] : List (Nat × Instr × Nat)).all (fun e => decide (decode prog_10_method_15_code e.1 = .ok e.2)) = true := by decide +kernel
abbrev cl_91_2 : List (Nat × jm_O) := [(84, op_aload 0 1), (85, op_getA 7 5), (88, op_iload 1 1), (89, op_iald 13), (90, op_aload 0 1), (91, op_getA 7 5), (94, op_iload 3 1), (95, op_iald 13), (96, op_mmax), (99, op_cgt 106), (102, op_ic 1 1), (103, op_goto 107), (106, op_ic 0 1), (107, op_zret)]
set_option maxRecDepth 100000 in
theorem gl_91_2 : jm_gl "FrescoWall$Sketch" prog_10_method_15_code 4 (Option.some Jvm.ClassFile.FieldType.boolean) false cl_91_2 :=
  jm_gc (pu_aload _ _) (sn_aload_n (i := 0) (jm_dc dc_91_2 0 rfl)) (
  jm_gc (pu_getA _ _) (sn_getA (jm_dc dc_91_2 1 rfl) fl_7_15 rfl) (
  jm_gc (pu_iload _ _) (sn_iload_n (i := 1) (jm_dc dc_91_2 2 rfl)) (
  jm_gc (pu_iald _) (sn_iald (jm_dc dc_91_2 3 rfl)) (
  jm_gc (pu_aload _ _) (sn_aload_n (i := 0) (jm_dc dc_91_2 4 rfl)) (
  jm_gc (pu_getA _ _) (sn_getA (jm_dc dc_91_2 5 rfl) fl_7_15 rfl) (
  jm_gc (pu_iload _ _) (sn_iload_n (i := 3) (jm_dc dc_91_2 6 rfl)) (
  jm_gc (pu_iald _) (sn_iald (jm_dc dc_91_2 7 rfl)) (
  jm_gc (pu_mmax) (sn_mmax (jm_dc dc_91_2 8 rfl) ⟨kc_tb 480 (by decide +kernel), kc_tb 481 (by decide +kernel), kc_tb 13 (by decide +kernel), kc_tb 482 (by decide +kernel)⟩) (
  jm_gc (pu_cgt _) (sn_cgt (jm_dc dc_91_2 9 rfl) (by decide)) (
  jm_gc (pu_ic _ _) (sn_iconst (jm_dc dc_91_2 10 rfl) (by decide)) (
  jm_gc (pu_goto _) (sn_goto (jm_dc dc_91_2 11 rfl) (by decide)) (
  jm_gc (pu_ic _ _) (sn_iconst (jm_dc dc_91_2 12 rfl) (by decide)) (
  jm_gc (pu_zret) (sn_zret (jm_dc dc_91_2 13 rfl) rfl) (
  jm_gn))))))))))))))
theorem dc_92_0 : ([(0, .iconst 2, 1), (1, .iload_n 1, 1), (2, .imul, 1), (3, .iconst 1, 1), (4, .iadd, 1), (5, .istore_n 3, 1), (6, .iconst 2, 1), (7, .iload_n 2, 1), (8, .imul, 1), (9, .iconst 1, 1), (10, .iadd, 1), (11, .istore 4, 2), (13, .iconst 0, 1), (14, .istore 5, 2), (16, .iconst 0, 1), (17, .istore 6, 2), (19, .iload 6, 2), (21, .aload_n 0, 1), (22, .getfield 38, 3), (25, .if_icmp .ge 154, 3), (28, .aload_n 0, 1), (29, .iload 6, 2), (31, .invokevirtual 71, 3), (34, .istore 7, 2), (36, .iconst 2, 1)] : List (Nat × Instr × Nat)).all (fun e => decide (decode prog_10_method_16_code e.1 = .ok e.2)) = true := by decide +kernel
abbrev cl_92_0 : List (Nat × jm_O) := [(0, op_ic 2 1), (1, op_iload 1 1), (2, op_ibin (fun x y => x * y)), (3, op_ic 1 1), (4, op_ibin (fun x y => x + y)), (5, op_istore 3 1), (6, op_ic 2 1), (7, op_iload 2 1), (8, op_ibin (fun x y => x * y)), (9, op_ic 1 1), (10, op_ibin (fun x y => x + y)), (11, op_istore 4 2), (13, op_ic 0 1), (14, op_istore 5 2), (16, op_ic 0 1), (17, op_istore 6 2), (19, op_iload 6 2), (21, op_aload 0 1), (22, op_getI 7 3), (25, op_cge 179), (28, op_aload 0 1), (29, op_iload 6 2), (31, op_callV 7 83 2), (34, op_istore 7 2), (36, op_ic 2 1)]
set_option maxRecDepth 100000 in
theorem gl_92_0 : jm_gl "FrescoWall$Sketch" prog_10_method_16_code 10 (Option.some Jvm.ClassFile.FieldType.boolean) false cl_92_0 :=
  jm_gc (pu_ic _ _) (sn_iconst (jm_dc dc_92_0 0 rfl) (by decide)) (
  jm_gc (pu_iload _ _) (sn_iload_n (i := 1) (jm_dc dc_92_0 1 rfl)) (
  jm_gc (pu_ibin _) (sn_imul (jm_dc dc_92_0 2 rfl)) (
  jm_gc (pu_ic _ _) (sn_iconst (jm_dc dc_92_0 3 rfl) (by decide)) (
  jm_gc (pu_ibin _) (sn_iadd (jm_dc dc_92_0 4 rfl)) (
  jm_gc (pu_istore _ _) (sn_istore_n (i := 3) (jm_dc dc_92_0 5 rfl)) (
  jm_gc (pu_ic _ _) (sn_iconst (jm_dc dc_92_0 6 rfl) (by decide)) (
  jm_gc (pu_iload _ _) (sn_iload_n (i := 2) (jm_dc dc_92_0 7 rfl)) (
  jm_gc (pu_ibin _) (sn_imul (jm_dc dc_92_0 8 rfl)) (
  jm_gc (pu_ic _ _) (sn_iconst (jm_dc dc_92_0 9 rfl) (by decide)) (
  jm_gc (pu_ibin _) (sn_iadd (jm_dc dc_92_0 10 rfl)) (
  jm_gc (pu_istore _ _) (sn_istore (jm_dc dc_92_0 11 rfl)) (
  jm_gc (pu_ic _ _) (sn_iconst (jm_dc dc_92_0 12 rfl) (by decide)) (
  jm_gc (pu_istore _ _) (sn_istore (jm_dc dc_92_0 13 rfl)) (
  jm_gc (pu_ic _ _) (sn_iconst (jm_dc dc_92_0 14 rfl) (by decide)) (
  jm_gc (pu_istore _ _) (sn_istore (jm_dc dc_92_0 15 rfl)) (
  jm_gc (pu_iload _ _) (sn_iload (jm_dc dc_92_0 16 rfl)) (
  jm_gc (pu_aload _ _) (sn_aload_n (i := 0) (jm_dc dc_92_0 17 rfl)) (
  jm_gc (pu_getI _ _) (sn_getI (jm_dc dc_92_0 18 rfl) fl_7_38 (Or.inl rfl)) (
  jm_gc (pu_cge _) (sn_cge (jm_dc dc_92_0 19 rfl) (by decide)) (
  jm_gc (pu_aload _ _) (sn_aload_n (i := 0) (jm_dc dc_92_0 20 rfl)) (
  jm_gc (pu_iload _ _) (sn_iload (jm_dc dc_92_0 21 rfl)) (
  jm_gc (pu_callV _ _ _) (sn_callV (jm_dc dc_92_0 22 rfl) lk_7_71) (
  jm_gc (pu_istore _ _) (sn_istore (jm_dc dc_92_0 23 rfl)) (
  jm_gc (pu_ic _ _) (sn_iconst (jm_dc dc_92_0 24 rfl) (by decide)) (
  jm_gn)))))))))))))))))))))))))
theorem dc_92_1 : ([(37, .aload_n 0, 1), (38, .getfield 15, 3), (41, .iload 7, 2), (43, .iaload, 1), (44, .imul, 1), (45, .iload 4, 2), (47, .if_icmp .le 7, 3), (50, .iconst 1, 1), (51, .goto 4, 3), (54, .iconst 0, 1), (55, .istore 8, 2), (57, .iconst 2, 1), (58, .aload_n 0, 1), (59, .getfield 15, 3), (62, .iload 6, 2), (64, .iaload, 1), (65, .imul, 1), (66, .iload 4, 2), (68, .if_icmp .le 7, 3), (71, .iconst 1, 1), (72, .goto 4, 3), (75, .iconst 0, 1), (76, .iload 8, 2), (78, .if_icmp .eq 95, 3), (81, .aload_n 0, 1)] : List (Nat × Instr × Nat)).all (fun e => decide (decode prog_10_method_16_code e.1 = .ok e.2)) = true := by decide +kernel
abbrev cl_92_1 : List (Nat × jm_O) := [(37, op_aload 0 1), (38, op_getA 7 5), (41, op_iload 7 2), (43, op_iald 13), (44, op_ibin (fun x y => x * y)), (45, op_iload 4 2), (47, op_cle 54), (50, op_ic 1 1), (51, op_goto 55), (54, op_ic 0 1), (55, op_istore 8 2), (57, op_ic 2 1), (58, op_aload 0 1), (59, op_getA 7 5), (62, op_iload 6 2), (64, op_iald 13), (65, op_ibin (fun x y => x * y)), (66, op_iload 4 2), (68, op_cle 75), (71, op_ic 1 1), (72, op_goto 76), (75, op_ic 0 1), (76, op_iload 8 2), (78, op_ceq 173), (81, op_aload 0 1)]
set_option maxRecDepth 100000 in
theorem gl_92_1 : jm_gl "FrescoWall$Sketch" prog_10_method_16_code 10 (Option.some Jvm.ClassFile.FieldType.boolean) false cl_92_1 :=
  jm_gc (pu_aload _ _) (sn_aload_n (i := 0) (jm_dc dc_92_1 0 rfl)) (
  jm_gc (pu_getA _ _) (sn_getA (jm_dc dc_92_1 1 rfl) fl_7_15 rfl) (
  jm_gc (pu_iload _ _) (sn_iload (jm_dc dc_92_1 2 rfl)) (
  jm_gc (pu_iald _) (sn_iald (jm_dc dc_92_1 3 rfl)) (
  jm_gc (pu_ibin _) (sn_imul (jm_dc dc_92_1 4 rfl)) (
  jm_gc (pu_iload _ _) (sn_iload (jm_dc dc_92_1 5 rfl)) (
  jm_gc (pu_cle _) (sn_cle (jm_dc dc_92_1 6 rfl) (by decide)) (
  jm_gc (pu_ic _ _) (sn_iconst (jm_dc dc_92_1 7 rfl) (by decide)) (
  jm_gc (pu_goto _) (sn_goto (jm_dc dc_92_1 8 rfl) (by decide)) (
  jm_gc (pu_ic _ _) (sn_iconst (jm_dc dc_92_1 9 rfl) (by decide)) (
  jm_gc (pu_istore _ _) (sn_istore (jm_dc dc_92_1 10 rfl)) (
  jm_gc (pu_ic _ _) (sn_iconst (jm_dc dc_92_1 11 rfl) (by decide)) (
  jm_gc (pu_aload _ _) (sn_aload_n (i := 0) (jm_dc dc_92_1 12 rfl)) (
  jm_gc (pu_getA _ _) (sn_getA (jm_dc dc_92_1 13 rfl) fl_7_15 rfl) (
  jm_gc (pu_iload _ _) (sn_iload (jm_dc dc_92_1 14 rfl)) (
  jm_gc (pu_iald _) (sn_iald (jm_dc dc_92_1 15 rfl)) (
  jm_gc (pu_ibin _) (sn_imul (jm_dc dc_92_1 16 rfl)) (
  jm_gc (pu_iload _ _) (sn_iload (jm_dc dc_92_1 17 rfl)) (
  jm_gc (pu_cle _) (sn_cle (jm_dc dc_92_1 18 rfl) (by decide)) (
  jm_gc (pu_ic _ _) (sn_iconst (jm_dc dc_92_1 19 rfl) (by decide)) (
  jm_gc (pu_goto _) (sn_goto (jm_dc dc_92_1 20 rfl) (by decide)) (
  jm_gc (pu_ic _ _) (sn_iconst (jm_dc dc_92_1 21 rfl) (by decide)) (
  jm_gc (pu_iload _ _) (sn_iload (jm_dc dc_92_1 22 rfl)) (
  jm_gc (pu_ceq _) (sn_ceq (jm_dc dc_92_1 23 rfl) (by decide)) (
  jm_gc (pu_aload _ _) (sn_aload_n (i := 0) (jm_dc dc_92_1 24 rfl)) (
  jm_gn)))))))))))))))))))))))))
theorem dc_92_2 : ([(82, .getfield 9, 3), (85, .iload 7, 2), (87, .iaload, 1), (88, .aload_n 0, 1), (89, .getfield 9, 3), (92, .iload 6, 2), (94, .iaload, 1), (95, .isub, 1), (96, .iload 4, 2), (98, .iconst 2, 1), (99, .aload_n 0, 1), (100, .getfield 15, 3), (103, .iload 6, 2), (105, .iaload, 1), (106, .imul, 1), (107, .isub, 1), (108, .imul, 1), (109, .aload_n 0, 1), (110, .getfield 15, 3), (113, .iload 7, 2), (115, .iaload, 1), (116, .aload_n 0, 1), (117, .getfield 15, 3), (120, .iload 6, 2), (122, .iaload, 1)] : List (Nat × Instr × Nat)).all (fun e => decide (decode prog_10_method_16_code e.1 = .ok e.2)) = true := by decide +kernel
abbrev cl_92_2 : List (Nat × jm_O) := [(82, op_getA 7 4), (85, op_iload 7 2), (87, op_iald 13), (88, op_aload 0 1), (89, op_getA 7 4), (92, op_iload 6 2), (94, op_iald 13), (95, op_ibin (fun x y => x - y)), (96, op_iload 4 2), (98, op_ic 2 1), (99, op_aload 0 1), (100, op_getA 7 5), (103, op_iload 6 2), (105, op_iald 13), (106, op_ibin (fun x y => x * y)), (107, op_ibin (fun x y => x - y)), (108, op_ibin (fun x y => x * y)), (109, op_aload 0 1), (110, op_getA 7 5), (113, op_iload 7 2), (115, op_iald 13), (116, op_aload 0 1), (117, op_getA 7 5), (120, op_iload 6 2), (122, op_iald 13)]
set_option maxRecDepth 100000 in
theorem gl_92_2 : jm_gl "FrescoWall$Sketch" prog_10_method_16_code 10 (Option.some Jvm.ClassFile.FieldType.boolean) false cl_92_2 :=
  jm_gc (pu_getA _ _) (sn_getA (jm_dc dc_92_2 0 rfl) fl_7_9 rfl) (
  jm_gc (pu_iload _ _) (sn_iload (jm_dc dc_92_2 1 rfl)) (
  jm_gc (pu_iald _) (sn_iald (jm_dc dc_92_2 2 rfl)) (
  jm_gc (pu_aload _ _) (sn_aload_n (i := 0) (jm_dc dc_92_2 3 rfl)) (
  jm_gc (pu_getA _ _) (sn_getA (jm_dc dc_92_2 4 rfl) fl_7_9 rfl) (
  jm_gc (pu_iload _ _) (sn_iload (jm_dc dc_92_2 5 rfl)) (
  jm_gc (pu_iald _) (sn_iald (jm_dc dc_92_2 6 rfl)) (
  jm_gc (pu_ibin _) (sn_isub (jm_dc dc_92_2 7 rfl)) (
  jm_gc (pu_iload _ _) (sn_iload (jm_dc dc_92_2 8 rfl)) (
  jm_gc (pu_ic _ _) (sn_iconst (jm_dc dc_92_2 9 rfl) (by decide)) (
  jm_gc (pu_aload _ _) (sn_aload_n (i := 0) (jm_dc dc_92_2 10 rfl)) (
  jm_gc (pu_getA _ _) (sn_getA (jm_dc dc_92_2 11 rfl) fl_7_15 rfl) (
  jm_gc (pu_iload _ _) (sn_iload (jm_dc dc_92_2 12 rfl)) (
  jm_gc (pu_iald _) (sn_iald (jm_dc dc_92_2 13 rfl)) (
  jm_gc (pu_ibin _) (sn_imul (jm_dc dc_92_2 14 rfl)) (
  jm_gc (pu_ibin _) (sn_isub (jm_dc dc_92_2 15 rfl)) (
  jm_gc (pu_ibin _) (sn_imul (jm_dc dc_92_2 16 rfl)) (
  jm_gc (pu_aload _ _) (sn_aload_n (i := 0) (jm_dc dc_92_2 17 rfl)) (
  jm_gc (pu_getA _ _) (sn_getA (jm_dc dc_92_2 18 rfl) fl_7_15 rfl) (
  jm_gc (pu_iload _ _) (sn_iload (jm_dc dc_92_2 19 rfl)) (
  jm_gc (pu_iald _) (sn_iald (jm_dc dc_92_2 20 rfl)) (
  jm_gc (pu_aload _ _) (sn_aload_n (i := 0) (jm_dc dc_92_2 21 rfl)) (
  jm_gc (pu_getA _ _) (sn_getA (jm_dc dc_92_2 22 rfl) fl_7_15 rfl) (
  jm_gc (pu_iload _ _) (sn_iload (jm_dc dc_92_2 23 rfl)) (
  jm_gc (pu_iald _) (sn_iald (jm_dc dc_92_2 24 rfl)) (
  jm_gn)))))))))))))))))))))))))
theorem dc_92_3 : ([(123, .isub, 1), (124, .iload_n 3, 1), (125, .iconst 2, 1), (126, .aload_n 0, 1), (127, .getfield 9, 3), (130, .iload 6, 2), (132, .iaload, 1), (133, .imul, 1), (134, .isub, 1), (135, .imul, 1), (136, .isub, 1), (137, .istore 9, 2), (139, .iload 9, 2), (141, .ifCond .ne 5, 3), (144, .iconst 0, 1), (145, .ireturn, 1), (146, .iload 9, 2), (148, .ifCond .le 7, 3), (151, .iconst 1, 1), (152, .goto 4, 3), (155, .iconst 0, 1), (156, .iload 8, 2), (158, .if_icmp .ne 15, 3), (161, .iload 5, 2), (163, .ifCond .ne 7, 3)] : List (Nat × Instr × Nat)).all (fun e => decide (decode prog_10_method_16_code e.1 = .ok e.2)) = true := by decide +kernel
abbrev cl_92_3 : List (Nat × jm_O) := [(123, op_ibin (fun x y => x - y)), (124, op_iload 3 1), (125, op_ic 2 1), (126, op_aload 0 1), (127, op_getA 7 4), (130, op_iload 6 2), (132, op_iald 13), (133, op_ibin (fun x y => x * y)), (134, op_ibin (fun x y => x - y)), (135, op_ibin (fun x y => x * y)), (136, op_ibin (fun x y => x - y)), (137, op_istore 9 2), (139, op_iload 9 2), (141, op_ifne 146), (144, op_ic 0 1), (145, op_zret), (146, op_iload 9 2), (148, op_ifle 155), (151, op_ic 1 1), (152, op_goto 156), (155, op_ic 0 1), (156, op_iload 8 2), (158, op_cne 173), (161, op_iload 5 2), (163, op_ifne 170)]
set_option maxRecDepth 100000 in
theorem gl_92_3 : jm_gl "FrescoWall$Sketch" prog_10_method_16_code 10 (Option.some Jvm.ClassFile.FieldType.boolean) false cl_92_3 :=
  jm_gc (pu_ibin _) (sn_isub (jm_dc dc_92_3 0 rfl)) (
  jm_gc (pu_iload _ _) (sn_iload_n (i := 3) (jm_dc dc_92_3 1 rfl)) (
  jm_gc (pu_ic _ _) (sn_iconst (jm_dc dc_92_3 2 rfl) (by decide)) (
  jm_gc (pu_aload _ _) (sn_aload_n (i := 0) (jm_dc dc_92_3 3 rfl)) (
  jm_gc (pu_getA _ _) (sn_getA (jm_dc dc_92_3 4 rfl) fl_7_9 rfl) (
  jm_gc (pu_iload _ _) (sn_iload (jm_dc dc_92_3 5 rfl)) (
  jm_gc (pu_iald _) (sn_iald (jm_dc dc_92_3 6 rfl)) (
  jm_gc (pu_ibin _) (sn_imul (jm_dc dc_92_3 7 rfl)) (
  jm_gc (pu_ibin _) (sn_isub (jm_dc dc_92_3 8 rfl)) (
  jm_gc (pu_ibin _) (sn_imul (jm_dc dc_92_3 9 rfl)) (
  jm_gc (pu_ibin _) (sn_isub (jm_dc dc_92_3 10 rfl)) (
  jm_gc (pu_istore _ _) (sn_istore (jm_dc dc_92_3 11 rfl)) (
  jm_gc (pu_iload _ _) (sn_iload (jm_dc dc_92_3 12 rfl)) (
  jm_gc (pu_ifne _) (sn_ifne (jm_dc dc_92_3 13 rfl) (by decide)) (
  jm_gc (pu_ic _ _) (sn_iconst (jm_dc dc_92_3 14 rfl) (by decide)) (
  jm_gc (pu_zret) (sn_zret (jm_dc dc_92_3 15 rfl) rfl) (
  jm_gc (pu_iload _ _) (sn_iload (jm_dc dc_92_3 16 rfl)) (
  jm_gc (pu_ifle _) (sn_ifle (jm_dc dc_92_3 17 rfl) (by decide)) (
  jm_gc (pu_ic _ _) (sn_iconst (jm_dc dc_92_3 18 rfl) (by decide)) (
  jm_gc (pu_goto _) (sn_goto (jm_dc dc_92_3 19 rfl) (by decide)) (
  jm_gc (pu_ic _ _) (sn_iconst (jm_dc dc_92_3 20 rfl) (by decide)) (
  jm_gc (pu_iload _ _) (sn_iload (jm_dc dc_92_3 21 rfl)) (
  jm_gc (pu_cne _) (sn_cne (jm_dc dc_92_3 22 rfl) (by decide)) (
  jm_gc (pu_iload _ _) (sn_iload (jm_dc dc_92_3 23 rfl)) (
  jm_gc (pu_ifne _) (sn_ifne (jm_dc dc_92_3 24 rfl) (by decide)) (
  jm_gn)))))))))))))))))))))))))
theorem dc_92_4 : ([(166, .iconst 1, 1), (167, .goto 4, 3), (170, .iconst 0, 1), (171, .istore 5, 2), (173, .iinc 6 1, 3), (176, .goto (-157), 3), (179, .iload 5, 2), (181, .ireturn, 1)] : List (Nat × Instr × Nat)).all (fun e => decide (decode prog_10_method_16_code e.1 = .ok e.2)) = true := by decide +kernel
abbrev cl_92_4 : List (Nat × jm_O) := [(166, op_ic 1 1), (167, op_goto 171), (170, op_ic 0 1), (171, op_istore 5 2), (173, op_iinc 6 1), (176, op_goto 19), (179, op_iload 5 2), (181, op_zret)]
set_option maxRecDepth 100000 in
theorem gl_92_4 : jm_gl "FrescoWall$Sketch" prog_10_method_16_code 10 (Option.some Jvm.ClassFile.FieldType.boolean) false cl_92_4 :=
  jm_gc (pu_ic _ _) (sn_iconst (jm_dc dc_92_4 0 rfl) (by decide)) (
  jm_gc (pu_goto _) (sn_goto (jm_dc dc_92_4 1 rfl) (by decide)) (
  jm_gc (pu_ic _ _) (sn_iconst (jm_dc dc_92_4 2 rfl) (by decide)) (
  jm_gc (pu_istore _ _) (sn_istore (jm_dc dc_92_4 3 rfl)) (
  jm_gc (pu_iinc _ _) (sn_iinc (jm_dc dc_92_4 4 rfl) (by decide)) (
  jm_gc (pu_goto _) (sn_goto (jm_dc dc_92_4 5 rfl) (by decide)) (
  jm_gc (pu_iload _ _) (sn_iload (jm_dc dc_92_4 6 rfl)) (
  jm_gc (pu_zret) (sn_zret (jm_dc dc_92_4 7 rfl) rfl) (
  jm_gn))))))))
theorem dc_93_0 : ([(0, .iconst 0, 1), (1, .istore_n 1, 1), (2, .iload_n 1, 1), (3, .aload_n 0, 1), (4, .getfield 41, 3), (7, .if_icmp .ge 75, 3), (10, .aload_n 0, 1), (11, .aload_n 0, 1), (12, .getfield 21, 3), (15, .iload_n 1, 1), (16, .iaload, 1), (17, .aload_n 0, 1), (18, .getfield 24, 3), (21, .iload_n 1, 1), (22, .iaload, 1), (23, .invokevirtual 108, 3), (26, .ifCond .ne 5, 3), (29, .iconst 0, 1), (30, .ireturn, 1), (31, .iconst 0, 1), (32, .istore_n 2, 1), (33, .iload_n 2, 1), (34, .iload_n 1, 1), (35, .if_icmp .ge 41, 3), (38, .aload_n 0, 1)] : List (Nat × Instr × Nat)).all (fun e => decide (decode prog_10_method_17_code e.1 = .ok e.2)) = true := by decide +kernel
abbrev cl_93_0 : List (Nat × jm_O) := [(0, op_ic 0 1), (1, op_istore 1 1), (2, op_iload 1 1), (3, op_aload 0 1), (4, op_getI 7 7), (7, op_cge 82), (10, op_aload 0 1), (11, op_aload 0 1), (12, op_getA 7 8), (15, op_iload 1 1), (16, op_iald 13), (17, op_aload 0 1), (18, op_getA 7 9), (21, op_iload 1 1), (22, op_iald 13), (23, op_callV 7 92 3), (26, op_ifne 31), (29, op_ic 0 1), (30, op_zret), (31, op_ic 0 1), (32, op_istore 2 1), (33, op_iload 2 1), (34, op_iload 1 1), (35, op_cge 76), (38, op_aload 0 1)]
set_option maxRecDepth 100000 in
theorem gl_93_0 : jm_gl "FrescoWall$Sketch" prog_10_method_17_code 3 (Option.some Jvm.ClassFile.FieldType.boolean) false cl_93_0 :=
  jm_gc (pu_ic _ _) (sn_iconst (jm_dc dc_93_0 0 rfl) (by decide)) (
  jm_gc (pu_istore _ _) (sn_istore_n (i := 1) (jm_dc dc_93_0 1 rfl)) (
  jm_gc (pu_iload _ _) (sn_iload_n (i := 1) (jm_dc dc_93_0 2 rfl)) (
  jm_gc (pu_aload _ _) (sn_aload_n (i := 0) (jm_dc dc_93_0 3 rfl)) (
  jm_gc (pu_getI _ _) (sn_getI (jm_dc dc_93_0 4 rfl) fl_7_41 (Or.inl rfl)) (
  jm_gc (pu_cge _) (sn_cge (jm_dc dc_93_0 5 rfl) (by decide)) (
  jm_gc (pu_aload _ _) (sn_aload_n (i := 0) (jm_dc dc_93_0 6 rfl)) (
  jm_gc (pu_aload _ _) (sn_aload_n (i := 0) (jm_dc dc_93_0 7 rfl)) (
  jm_gc (pu_getA _ _) (sn_getA (jm_dc dc_93_0 8 rfl) fl_7_21 rfl) (
  jm_gc (pu_iload _ _) (sn_iload_n (i := 1) (jm_dc dc_93_0 9 rfl)) (
  jm_gc (pu_iald _) (sn_iald (jm_dc dc_93_0 10 rfl)) (
  jm_gc (pu_aload _ _) (sn_aload_n (i := 0) (jm_dc dc_93_0 11 rfl)) (
  jm_gc (pu_getA _ _) (sn_getA (jm_dc dc_93_0 12 rfl) fl_7_24 rfl) (
  jm_gc (pu_iload _ _) (sn_iload_n (i := 1) (jm_dc dc_93_0 13 rfl)) (
  jm_gc (pu_iald _) (sn_iald (jm_dc dc_93_0 14 rfl)) (
  jm_gc (pu_callV _ _ _) (sn_callV (jm_dc dc_93_0 15 rfl) lk_7_108) (
  jm_gc (pu_ifne _) (sn_ifne (jm_dc dc_93_0 16 rfl) (by decide)) (
  jm_gc (pu_ic _ _) (sn_iconst (jm_dc dc_93_0 17 rfl) (by decide)) (
  jm_gc (pu_zret) (sn_zret (jm_dc dc_93_0 18 rfl) rfl) (
  jm_gc (pu_ic _ _) (sn_iconst (jm_dc dc_93_0 19 rfl) (by decide)) (
  jm_gc (pu_istore _ _) (sn_istore_n (i := 2) (jm_dc dc_93_0 20 rfl)) (
  jm_gc (pu_iload _ _) (sn_iload_n (i := 2) (jm_dc dc_93_0 21 rfl)) (
  jm_gc (pu_iload _ _) (sn_iload_n (i := 1) (jm_dc dc_93_0 22 rfl)) (
  jm_gc (pu_cge _) (sn_cge (jm_dc dc_93_0 23 rfl) (by decide)) (
  jm_gc (pu_aload _ _) (sn_aload_n (i := 0) (jm_dc dc_93_0 24 rfl)) (
  jm_gn)))))))))))))))))))))))))
theorem dc_93_1 : ([(39, .getfield 21, 3), (42, .iload_n 2, 1), (43, .iaload, 1), (44, .aload_n 0, 1), (45, .getfield 21, 3), (48, .iload_n 1, 1), (49, .iaload, 1), (50, .if_icmp .ne 20, 3), (53, .aload_n 0, 1), (54, .getfield 24, 3), (57, .iload_n 2, 1), (58, .iaload, 1), (59, .aload_n 0, 1), (60, .getfield 24, 3), (63, .iload_n 1, 1), (64, .iaload, 1), (65, .if_icmp .ne 5, 3), (68, .iconst 0, 1), (69, .ireturn, 1), (70, .iinc 2 1, 3), (73, .goto (-40), 3), (76, .iinc 1 1, 3), (79, .goto (-77), 3), (82, .iconst 1, 1), (83, .ireturn, 1)] : List (Nat × Instr × Nat)).all (fun e => decide (decode prog_10_method_17_code e.1 = .ok e.2)) = true := by decide +kernel
abbrev cl_93_1 : List (Nat × jm_O) := [(39, op_getA 7 8), (42, op_iload 2 1), (43, op_iald 13), (44, op_aload 0 1), (45, op_getA 7 8), (48, op_iload 1 1), (49, op_iald 13), (50, op_cne 70), (53, op_aload 0 1), (54, op_getA 7 9), (57, op_iload 2 1), (58, op_iald 13), (59, op_aload 0 1), (60, op_getA 7 9), (63, op_iload 1 1), (64, op_iald 13), (65, op_cne 70), (68, op_ic 0 1), (69, op_zret), (70, op_iinc 2 1), (73, op_goto 33), (76, op_iinc 1 1), (79, op_goto 2), (82, op_ic 1 1), (83, op_zret)]
set_option maxRecDepth 100000 in
theorem gl_93_1 : jm_gl "FrescoWall$Sketch" prog_10_method_17_code 3 (Option.some Jvm.ClassFile.FieldType.boolean) false cl_93_1 :=
  jm_gc (pu_getA _ _) (sn_getA (jm_dc dc_93_1 0 rfl) fl_7_21 rfl) (
  jm_gc (pu_iload _ _) (sn_iload_n (i := 2) (jm_dc dc_93_1 1 rfl)) (
  jm_gc (pu_iald _) (sn_iald (jm_dc dc_93_1 2 rfl)) (
  jm_gc (pu_aload _ _) (sn_aload_n (i := 0) (jm_dc dc_93_1 3 rfl)) (
  jm_gc (pu_getA _ _) (sn_getA (jm_dc dc_93_1 4 rfl) fl_7_21 rfl) (
  jm_gc (pu_iload _ _) (sn_iload_n (i := 1) (jm_dc dc_93_1 5 rfl)) (
  jm_gc (pu_iald _) (sn_iald (jm_dc dc_93_1 6 rfl)) (
  jm_gc (pu_cne _) (sn_cne (jm_dc dc_93_1 7 rfl) (by decide)) (
  jm_gc (pu_aload _ _) (sn_aload_n (i := 0) (jm_dc dc_93_1 8 rfl)) (
  jm_gc (pu_getA _ _) (sn_getA (jm_dc dc_93_1 9 rfl) fl_7_24 rfl) (
  jm_gc (pu_iload _ _) (sn_iload_n (i := 2) (jm_dc dc_93_1 10 rfl)) (
  jm_gc (pu_iald _) (sn_iald (jm_dc dc_93_1 11 rfl)) (
  jm_gc (pu_aload _ _) (sn_aload_n (i := 0) (jm_dc dc_93_1 12 rfl)) (
  jm_gc (pu_getA _ _) (sn_getA (jm_dc dc_93_1 13 rfl) fl_7_24 rfl) (
  jm_gc (pu_iload _ _) (sn_iload_n (i := 1) (jm_dc dc_93_1 14 rfl)) (
  jm_gc (pu_iald _) (sn_iald (jm_dc dc_93_1 15 rfl)) (
  jm_gc (pu_cne _) (sn_cne (jm_dc dc_93_1 16 rfl) (by decide)) (
  jm_gc (pu_ic _ _) (sn_iconst (jm_dc dc_93_1 17 rfl) (by decide)) (
  jm_gc (pu_zret) (sn_zret (jm_dc dc_93_1 18 rfl) rfl) (
  jm_gc (pu_iinc _ _) (sn_iinc (jm_dc dc_93_1 19 rfl) (by decide)) (
  jm_gc (pu_goto _) (sn_goto (jm_dc dc_93_1 20 rfl) (by decide)) (
  jm_gc (pu_iinc _ _) (sn_iinc (jm_dc dc_93_1 21 rfl) (by decide)) (
  jm_gc (pu_goto _) (sn_goto (jm_dc dc_93_1 22 rfl) (by decide)) (
  jm_gc (pu_ic _ _) (sn_iconst (jm_dc dc_93_1 23 rfl) (by decide)) (
  jm_gc (pu_zret) (sn_zret (jm_dc dc_93_1 24 rfl) rfl) (
  jm_gn)))))))))))))))))))))))))
theorem dc_99_0 : ([(0, .aload_n 0, 1), (1, .invokespecial 3, 3), (4, .aload_n 0, 1), (5, .bipush 30, 2), (7, .newarray .long, 2), (9, .putfield 9, 3), (12, .aload_n 0, 1), (13, .bipush 60, 2), (15, .newarray .int, 2), (17, .putfield 15, 3), (20, .aload_n 0, 1), (21, .aload_n 1, 1), (22, .putfield 19, 3), (25, .aload_n 0, 1), (26, .aload_n 2, 1), (27, .putfield 23, 3), (30, .iconst 0, 1), (31, .istore_n 3, 1), (32, .iload_n 3, 1), (33, .bipush 30, 2), (35, .if_icmp .ge 18, 3), (38, .aload_n 0, 1), (39, .getfield 9, 3), (42, .iload_n 3, 1), (43, .ldc2_w 29, 3)] : List (Nat × Instr × Nat)).all (fun e => decide (decode prog_12_method_1_code e.1 = .ok e.2)) = true := by decide +kernel
abbrev cl_99_0 : List (Nat × jm_O) := [(0, op_aload 0 1), (1, op_objInit), (4, op_aload 0 1), (5, op_ic 30 2), (7, op_newa 14 2), (9, op_putA 9 2), (12, op_aload 0 1), (13, op_ic 60 2), (15, op_newa 13 2), (17, op_putA 9 9), (20, op_aload 0 1), (21, op_aload 1 1), (22, op_putA 9 0), (25, op_aload 0 1), (26, op_aload 2 1), (27, op_putA 9 1), (30, op_ic 0 1), (31, op_istore 3 1), (32, op_iload 3 1), (33, op_ic 30 2), (35, op_cge 53), (38, op_aload 0 1), (39, op_getA 9 2), (42, op_iload 3 1), (43, op_lc 549756338176 3)]
set_option maxRecDepth 100000 in
theorem gl_99_0 : jm_gl "FrescoWall$Wall" prog_12_method_1_code 4 (Option.none : Option Jvm.ClassFile.FieldType) true cl_99_0 :=
  jm_gc (pu_aload _ _) (sn_aload_n (i := 0) (jm_dc dc_99_0 0 rfl)) (
  jm_gc (pu_objInit) (sn_objInit (jm_dc dc_99_0 1 rfl) ⟨kc_tb 185 (by decide +kernel), kc_tb 23 (by decide +kernel), kc_tb 24 (by decide +kernel)⟩) (
  jm_gc (pu_aload _ _) (sn_aload_n (i := 0) (jm_dc dc_99_0 2 rfl)) (
  jm_gc (pu_ic _ _) (sn_bipush (jm_dc dc_99_0 3 rfl) (by decide)) (
  jm_gc (pu_newa _ _) (sn_newJ (jm_dc dc_99_0 4 rfl) (kc_tb 226 (by decide +kernel))) (
  jm_gc (pu_putA _ _) (sn_putAF (jm_dc dc_99_0 5 rfl) flw_9_9 rfl rfl) (
  jm_gc (pu_aload _ _) (sn_aload_n (i := 0) (jm_dc dc_99_0 6 rfl)) (
  jm_gc (pu_ic _ _) (sn_bipush (jm_dc dc_99_0 7 rfl) (by decide)) (
  jm_gc (pu_newa _ _) (sn_newI (jm_dc dc_99_0 8 rfl) (kc_tb 91 (by decide +kernel))) (
  jm_gc (pu_putA _ _) (sn_putAF (jm_dc dc_99_0 9 rfl) flw_9_15 rfl rfl) (
  jm_gc (pu_aload _ _) (sn_aload_n (i := 0) (jm_dc dc_99_0 10 rfl)) (
  jm_gc (pu_aload _ _) (sn_aload_n (i := 1) (jm_dc dc_99_0 11 rfl)) (
  jm_gc (pu_putA _ _) (sn_putAF (jm_dc dc_99_0 12 rfl) flw_9_19 rfl rfl) (
  jm_gc (pu_aload _ _) (sn_aload_n (i := 0) (jm_dc dc_99_0 13 rfl)) (
  jm_gc (pu_aload _ _) (sn_aload_n (i := 2) (jm_dc dc_99_0 14 rfl)) (
  jm_gc (pu_putA _ _) (sn_putAF (jm_dc dc_99_0 15 rfl) flw_9_23 rfl rfl) (
  jm_gc (pu_ic _ _) (sn_iconst (jm_dc dc_99_0 16 rfl) (by decide)) (
  jm_gc (pu_istore _ _) (sn_istore_n (i := 3) (jm_dc dc_99_0 17 rfl)) (
  jm_gc (pu_iload _ _) (sn_iload_n (i := 3) (jm_dc dc_99_0 18 rfl)) (
  jm_gc (pu_ic _ _) (sn_bipush (jm_dc dc_99_0 19 rfl) (by decide)) (
  jm_gc (pu_cge _) (sn_cge (jm_dc dc_99_0 20 rfl) (by decide)) (
  jm_gc (pu_aload _ _) (sn_aload_n (i := 0) (jm_dc dc_99_0 21 rfl)) (
  jm_gc (pu_getA _ _) (sn_getA (jm_dc dc_99_0 22 rfl) fl_9_9 rfl) (
  jm_gc (pu_iload _ _) (sn_iload_n (i := 3) (jm_dc dc_99_0 23 rfl)) (
  jm_gc (pu_lc _ _) (sn_ldc2 (jm_dc dc_99_0 24 rfl) (kc_tb 186 (by decide +kernel))) (
  jm_gn)))))))))))))))))))))))))
theorem dc_99_1 : ([(46, .lastore, 1), (47, .iinc 3 1, 3), (50, .goto (-18), 3), (53, .return_, 1)] : List (Nat × Instr × Nat)).all (fun e => decide (decode prog_12_method_1_code e.1 = .ok e.2)) = true := by decide +kernel
abbrev cl_99_1 : List (Nat × jm_O) := [(46, op_last), (47, op_iinc 3 1), (50, op_goto 32), (53, op_vret)]
set_option maxRecDepth 100000 in
theorem gl_99_1 : jm_gl "FrescoWall$Wall" prog_12_method_1_code 4 (Option.none : Option Jvm.ClassFile.FieldType) true cl_99_1 :=
  jm_gc (pu_last) (sn_last (jm_dc dc_99_1 0 rfl)) (
  jm_gc (pu_iinc _ _) (sn_iinc (jm_dc dc_99_1 1 rfl) (by decide)) (
  jm_gc (pu_goto _) (sn_goto (jm_dc dc_99_1 2 rfl) (by decide)) (
  jm_gc (pu_vret) (sn_vret (jm_dc dc_99_1 3 rfl) rfl) (
  jm_gn))))
theorem dc_100_0 : ([(0, .aload_n 0, 1), (1, .getfield 31, 3), (4, .iload_n 1, 1), (5, .ishr, 1), (6, .iconst 1, 1), (7, .iand, 1), (8, .ifCond .eq 7, 3), (11, .iconst 1, 1), (12, .goto 4, 3), (15, .iconst 0, 1), (16, .ireturn, 1)] : List (Nat × Instr × Nat)).all (fun e => decide (decode prog_12_method_2_code e.1 = .ok e.2)) = true := by decide +kernel
abbrev cl_100_0 : List (Nat × jm_O) := [(0, op_aload 0 1), (1, op_getI 9 3), (4, op_iload 1 1), (5, op_ibin (fun x y => x >>> (y &&& 31))), (6, op_ic 1 1), (7, op_ibin (fun x y => x &&& y)), (8, op_ifeq 15), (11, op_ic 1 1), (12, op_goto 16), (15, op_ic 0 1), (16, op_zret)]
set_option maxRecDepth 100000 in
theorem gl_100_0 : jm_gl "FrescoWall$Wall" prog_12_method_2_code 2 (Option.some Jvm.ClassFile.FieldType.boolean) false cl_100_0 :=
  jm_gc (pu_aload _ _) (sn_aload_n (i := 0) (jm_dc dc_100_0 0 rfl)) (
  jm_gc (pu_getI _ _) (sn_getI (jm_dc dc_100_0 1 rfl) fl_9_31 (Or.inl rfl)) (
  jm_gc (pu_iload _ _) (sn_iload_n (i := 1) (jm_dc dc_100_0 2 rfl)) (
  jm_gc (pu_ibin _) (sn_ishr (jm_dc dc_100_0 3 rfl)) (
  jm_gc (pu_ic _ _) (sn_iconst (jm_dc dc_100_0 4 rfl) (by decide)) (
  jm_gc (pu_ibin _) (sn_iand (jm_dc dc_100_0 5 rfl)) (
  jm_gc (pu_ifeq _) (sn_ifeq (jm_dc dc_100_0 6 rfl) (by decide)) (
  jm_gc (pu_ic _ _) (sn_iconst (jm_dc dc_100_0 7 rfl) (by decide)) (
  jm_gc (pu_goto _) (sn_goto (jm_dc dc_100_0 8 rfl) (by decide)) (
  jm_gc (pu_ic _ _) (sn_iconst (jm_dc dc_100_0 9 rfl) (by decide)) (
  jm_gc (pu_zret) (sn_zret (jm_dc dc_100_0 10 rfl) rfl) (
  jm_gn)))))))))))
theorem dc_101_0 : ([(0, .aload_n 0, 1), (1, .getfield 31, 3), (4, .aload_n 0, 1), (5, .getfield 23, 3), (8, .getfield 35, 3), (11, .iload_n 1, 1), (12, .iaload, 1), (13, .iand, 1), (14, .ifCond .eq 7, 3), (17, .iconst 1, 1), (18, .goto 4, 3), (21, .iconst 0, 1), (22, .ireturn, 1)] : List (Nat × Instr × Nat)).all (fun e => decide (decode prog_12_method_3_code e.1 = .ok e.2)) = true := by decide +kernel
abbrev cl_101_0 : List (Nat × jm_O) := [(0, op_aload 0 1), (1, op_getI 9 3), (4, op_aload 0 1), (5, op_getA 9 1), (8, op_getA 4 6), (11, op_iload 1 1), (12, op_iald 13), (13, op_ibin (fun x y => x &&& y)), (14, op_ifeq 21), (17, op_ic 1 1), (18, op_goto 22), (21, op_ic 0 1), (22, op_zret)]
set_option maxRecDepth 100000 in
theorem gl_101_0 : jm_gl "FrescoWall$Wall" prog_12_method_3_code 2 (Option.some Jvm.ClassFile.FieldType.boolean) false cl_101_0 :=
  jm_gc (pu_aload _ _) (sn_aload_n (i := 0) (jm_dc dc_101_0 0 rfl)) (
  jm_gc (pu_getI _ _) (sn_getI (jm_dc dc_101_0 1 rfl) fl_9_31 (Or.inl rfl)) (
  jm_gc (pu_aload _ _) (sn_aload_n (i := 0) (jm_dc dc_101_0 2 rfl)) (
  jm_gc (pu_getA _ _) (sn_getA (jm_dc dc_101_0 3 rfl) fl_9_23 rfl) (
  jm_gc (pu_getA _ _) (sn_getA (jm_dc dc_101_0 4 rfl) fl_9_35 rfl) (
  jm_gc (pu_iload _ _) (sn_iload_n (i := 1) (jm_dc dc_101_0 5 rfl)) (
  jm_gc (pu_iald _) (sn_iald (jm_dc dc_101_0 6 rfl)) (
  jm_gc (pu_ibin _) (sn_iand (jm_dc dc_101_0 7 rfl)) (
  jm_gc (pu_ifeq _) (sn_ifeq (jm_dc dc_101_0 8 rfl) (by decide)) (
  jm_gc (pu_ic _ _) (sn_iconst (jm_dc dc_101_0 9 rfl) (by decide)) (
  jm_gc (pu_goto _) (sn_goto (jm_dc dc_101_0 10 rfl) (by decide)) (
  jm_gc (pu_ic _ _) (sn_iconst (jm_dc dc_101_0 11 rfl) (by decide)) (
  jm_gc (pu_zret) (sn_zret (jm_dc dc_101_0 12 rfl) rfl) (
  jm_gn)))))))))))))
theorem dc_102_0 : ([(0, .aload_n 0, 1), (1, .getfield 31, 3), (4, .aload_n 0, 1), (5, .getfield 40, 3), (8, .ior, 1), (9, .aload_n 0, 1), (10, .getfield 23, 3), (13, .getfield 35, 3), (16, .iload_n 1, 1), (17, .iaload, 1), (18, .iand, 1), (19, .ifCond .eq 7, 3), (22, .iconst 1, 1), (23, .goto 4, 3), (26, .iconst 0, 1), (27, .ireturn, 1)] : List (Nat × Instr × Nat)).all (fun e => decide (decode prog_12_method_4_code e.1 = .ok e.2)) = true := by decide +kernel
abbrev cl_102_0 : List (Nat × jm_O) := [(0, op_aload 0 1), (1, op_getI 9 3), (4, op_aload 0 1), (5, op_getI 9 4), (8, op_ibin (fun x y => x ||| y)), (9, op_aload 0 1), (10, op_getA 9 1), (13, op_getA 4 6), (16, op_iload 1 1), (17, op_iald 13), (18, op_ibin (fun x y => x &&& y)), (19, op_ifeq 26), (22, op_ic 1 1), (23, op_goto 27), (26, op_ic 0 1), (27, op_zret)]
set_option maxRecDepth 100000 in
theorem gl_102_0 : jm_gl "FrescoWall$Wall" prog_12_method_4_code 2 (Option.some Jvm.ClassFile.FieldType.boolean) false cl_102_0 :=
  jm_gc (pu_aload _ _) (sn_aload_n (i := 0) (jm_dc dc_102_0 0 rfl)) (
  jm_gc (pu_getI _ _) (sn_getI (jm_dc dc_102_0 1 rfl) fl_9_31 (Or.inl rfl)) (
  jm_gc (pu_aload _ _) (sn_aload_n (i := 0) (jm_dc dc_102_0 2 rfl)) (
  jm_gc (pu_getI _ _) (sn_getI (jm_dc dc_102_0 3 rfl) fl_9_40 (Or.inl rfl)) (
  jm_gc (pu_ibin _) (sn_ior (jm_dc dc_102_0 4 rfl)) (
  jm_gc (pu_aload _ _) (sn_aload_n (i := 0) (jm_dc dc_102_0 5 rfl)) (
  jm_gc (pu_getA _ _) (sn_getA (jm_dc dc_102_0 6 rfl) fl_9_23 rfl) (
  jm_gc (pu_getA _ _) (sn_getA (jm_dc dc_102_0 7 rfl) fl_9_35 rfl) (
  jm_gc (pu_iload _ _) (sn_iload_n (i := 1) (jm_dc dc_102_0 8 rfl)) (
  jm_gc (pu_iald _) (sn_iald (jm_dc dc_102_0 9 rfl)) (
  jm_gc (pu_ibin _) (sn_iand (jm_dc dc_102_0 10 rfl)) (
  jm_gc (pu_ifeq _) (sn_ifeq (jm_dc dc_102_0 11 rfl) (by decide)) (
  jm_gc (pu_ic _ _) (sn_iconst (jm_dc dc_102_0 12 rfl) (by decide)) (
  jm_gc (pu_goto _) (sn_goto (jm_dc dc_102_0 13 rfl) (by decide)) (
  jm_gc (pu_ic _ _) (sn_iconst (jm_dc dc_102_0 14 rfl) (by decide)) (
  jm_gc (pu_zret) (sn_zret (jm_dc dc_102_0 15 rfl) rfl) (
  jm_gn))))))))))))))))
theorem dc_103_0 : ([(0, .iconst 0, 1), (1, .istore_n 1, 1), (2, .iconst 0, 1), (3, .istore_n 2, 1), (4, .iload_n 2, 1), (5, .aload_n 0, 1), (6, .getfield 19, 3), (9, .getfield 43, 3), (12, .if_icmp .ge 23, 3), (15, .aload_n 0, 1), (16, .iload_n 2, 1), (17, .invokevirtual 48, 3), (20, .ifCond .eq 9, 3), (23, .iload_n 1, 1), (24, .iconst 1, 1), (25, .iload_n 2, 1), (26, .ishl, 1), (27, .ior, 1), (28, .istore_n 1, 1), (29, .iinc 2 1, 3), (32, .goto (-28), 3), (35, .iload_n 1, 1), (36, .ireturn, 1)] : List (Nat × Instr × Nat)).all (fun e => decide (decode prog_12_method_5_code e.1 = .ok e.2)) = true := by decide +kernel
abbrev cl_103_0 : List (Nat × jm_O) := [(0, op_ic 0 1), (1, op_istore 1 1), (2, op_ic 0 1), (3, op_istore 2 1), (4, op_iload 2 1), (5, op_aload 0 1), (6, op_getA 9 0), (9, op_getI 3 1), (12, op_cge 35), (15, op_aload 0 1), (16, op_iload 2 1), (17, op_callV 9 102 2), (20, op_ifeq 29), (23, op_iload 1 1), (24, op_ic 1 1), (25, op_iload 2 1), (26, op_ibin (fun x y => x <<< (y &&& 31))), (27, op_ibin (fun x y => x ||| y)), (28, op_istore 1 1), (29, op_iinc 2 1), (32, op_goto 4), (35, op_iload 1 1), (36, op_iret)]
set_option maxRecDepth 100000 in
theorem gl_103_0 : jm_gl "FrescoWall$Wall" prog_12_method_5_code 3 (Option.some Jvm.ClassFile.FieldType.int) false cl_103_0 :=
  jm_gc (pu_ic _ _) (sn_iconst (jm_dc dc_103_0 0 rfl) (by decide)) (
  jm_gc (pu_istore _ _) (sn_istore_n (i := 1) (jm_dc dc_103_0 1 rfl)) (
  jm_gc (pu_ic _ _) (sn_iconst (jm_dc dc_103_0 2 rfl) (by decide)) (
  jm_gc (pu_istore _ _) (sn_istore_n (i := 2) (jm_dc dc_103_0 3 rfl)) (
  jm_gc (pu_iload _ _) (sn_iload_n (i := 2) (jm_dc dc_103_0 4 rfl)) (
  jm_gc (pu_aload _ _) (sn_aload_n (i := 0) (jm_dc dc_103_0 5 rfl)) (
  jm_gc (pu_getA _ _) (sn_getA (jm_dc dc_103_0 6 rfl) fl_9_19 rfl) (
  jm_gc (pu_getI _ _) (sn_getI (jm_dc dc_103_0 7 rfl) fl_9_43 (Or.inl rfl)) (
  jm_gc (pu_cge _) (sn_cge (jm_dc dc_103_0 8 rfl) (by decide)) (
  jm_gc (pu_aload _ _) (sn_aload_n (i := 0) (jm_dc dc_103_0 9 rfl)) (
  jm_gc (pu_iload _ _) (sn_iload_n (i := 2) (jm_dc dc_103_0 10 rfl)) (
  jm_gc (pu_callV _ _ _) (sn_callV (jm_dc dc_103_0 11 rfl) lk_9_48) (
  jm_gc (pu_ifeq _) (sn_ifeq (jm_dc dc_103_0 12 rfl) (by decide)) (
  jm_gc (pu_iload _ _) (sn_iload_n (i := 1) (jm_dc dc_103_0 13 rfl)) (
  jm_gc (pu_ic _ _) (sn_iconst (jm_dc dc_103_0 14 rfl) (by decide)) (
  jm_gc (pu_iload _ _) (sn_iload_n (i := 2) (jm_dc dc_103_0 15 rfl)) (
  jm_gc (pu_ibin _) (sn_ishl (jm_dc dc_103_0 16 rfl)) (
  jm_gc (pu_ibin _) (sn_ior (jm_dc dc_103_0 17 rfl)) (
  jm_gc (pu_istore _ _) (sn_istore_n (i := 1) (jm_dc dc_103_0 18 rfl)) (
  jm_gc (pu_iinc _ _) (sn_iinc (jm_dc dc_103_0 19 rfl) (by decide)) (
  jm_gc (pu_goto _) (sn_goto (jm_dc dc_103_0 20 rfl) (by decide)) (
  jm_gc (pu_iload _ _) (sn_iload_n (i := 1) (jm_dc dc_103_0 21 rfl)) (
  jm_gc (pu_iret) (sn_iret (jm_dc dc_103_0 22 rfl) rfl) (
  jm_gn)))))))))))))))))))))))
theorem dc_104_0 : ([(0, .iconst 0, 1), (1, .istore_n 3, 1), (2, .iload_n 3, 1), (3, .aload_n 0, 1), (4, .getfield 19, 3), (7, .getfield 43, 3), (10, .if_icmp .ge 65, 3), (13, .aload_n 0, 1), (14, .getfield 9, 3), (17, .iload_n 3, 1), (18, .laload, 1), (19, .lstore 4, 2), (21, .aload_n 0, 1), (22, .iload_n 3, 1), (23, .invokevirtual 48, 3), (26, .ifCond .eq 43, 3), (29, .aload_n 0, 1), (30, .getfield 19, 3), (33, .getfield 52, 3), (36, .iload_n 3, 1), (37, .aaload, 1), (38, .lload 4, 2), (40, .invokestatic 56, 3), (43, .iload_n 1, 1), (44, .i2l, 1)] : List (Nat × Instr × Nat)).all (fun e => decide (decode prog_12_method_6_code e.1 = .ok e.2)) = true := by decide +kernel
abbrev cl_104_0 : List (Nat × jm_O) := [(0, op_ic 0 1), (1, op_istore 3 1), (2, op_iload 3 1), (3, op_aload 0 1), (4, op_getA 9 0), (7, op_getI 3 1), (10, op_cge 75), (13, op_aload 0 1), (14, op_getA 9 2), (17, op_iload 3 1), (18, op_lald), (19, op_lstore 4 2), (21, op_aload 0 1), (22, op_iload 3 1), (23, op_callV 9 102 2), (26, op_ifeq 69), (29, op_aload 0 1), (30, op_getA 9 0), (33, op_getA 3 0), (36, op_iload 3 1), (37, op_aald), (38, op_lload 4 2), (40, op_callS 306 1), (43, op_iload 1 1), (44, op_i2l)]
set_option maxRecDepth 100000 in
theorem gl_104_0 : jm_gl "FrescoWall$Wall" prog_12_method_6_code 6 (Option.some Jvm.ClassFile.FieldType.int) false cl_104_0 :=
  jm_gc (pu_ic _ _) (sn_iconst (jm_dc dc_104_0 0 rfl) (by decide)) (
  jm_gc (pu_istore _ _) (sn_istore_n (i := 3) (jm_dc dc_104_0 1 rfl)) (
  jm_gc (pu_iload _ _) (sn_iload_n (i := 3) (jm_dc dc_104_0 2 rfl)) (
  jm_gc (pu_aload _ _) (sn_aload_n (i := 0) (jm_dc dc_104_0 3 rfl)) (
  jm_gc (pu_getA _ _) (sn_getA (jm_dc dc_104_0 4 rfl) fl_9_19 rfl) (
  jm_gc (pu_getI _ _) (sn_getI (jm_dc dc_104_0 5 rfl) fl_9_43 (Or.inl rfl)) (
  jm_gc (pu_cge _) (sn_cge (jm_dc dc_104_0 6 rfl) (by decide)) (
  jm_gc (pu_aload _ _) (sn_aload_n (i := 0) (jm_dc dc_104_0 7 rfl)) (
  jm_gc (pu_getA _ _) (sn_getA (jm_dc dc_104_0 8 rfl) fl_9_9 rfl) (
  jm_gc (pu_iload _ _) (sn_iload_n (i := 3) (jm_dc dc_104_0 9 rfl)) (
  jm_gc (pu_lald) (sn_lald (jm_dc dc_104_0 10 rfl)) (
  jm_gc (pu_lstore _ _) (sn_lstore (jm_dc dc_104_0 11 rfl)) (
  jm_gc (pu_aload _ _) (sn_aload_n (i := 0) (jm_dc dc_104_0 12 rfl)) (
  jm_gc (pu_iload _ _) (sn_iload_n (i := 3) (jm_dc dc_104_0 13 rfl)) (
  jm_gc (pu_callV _ _ _) (sn_callV (jm_dc dc_104_0 14 rfl) lk_9_48) (
  jm_gc (pu_ifeq _) (sn_ifeq (jm_dc dc_104_0 15 rfl) (by decide)) (
  jm_gc (pu_aload _ _) (sn_aload_n (i := 0) (jm_dc dc_104_0 16 rfl)) (
  jm_gc (pu_getA _ _) (sn_getA (jm_dc dc_104_0 17 rfl) fl_9_19 rfl) (
  jm_gc (pu_getA _ _) (sn_getA (jm_dc dc_104_0 18 rfl) fl_9_52 rfl) (
  jm_gc (pu_iload _ _) (sn_iload_n (i := 3) (jm_dc dc_104_0 19 rfl)) (
  jm_gc (pu_aald) (sn_aald (jm_dc dc_104_0 20 rfl)) (
  jm_gc (pu_lload _ _) (sn_lload (jm_dc dc_104_0 21 rfl)) (
  jm_gc (pu_callS _ _) (sn_callS (jm_dc dc_104_0 22 rfl) lk_9_56) (
  jm_gc (pu_iload _ _) (sn_iload_n (i := 1) (jm_dc dc_104_0 23 rfl)) (
  jm_gc (pu_i2l) (sn_i2l (jm_dc dc_104_0 24 rfl)) (
  jm_gn)))))))))))))))))))))))))
theorem dc_104_1 : ([(45, .lload 4, 2), (47, .invokestatic 60, 3), (50, .i2l, 1), (51, .lsub, 1), (52, .iload_n 2, 1), (53, .i2l, 1), (54, .lload 4, 2), (56, .invokestatic 63, 3), (59, .i2l, 1), (60, .lsub, 1), (61, .invokevirtual 66, 3), (64, .ifCond .eq 5, 3), (67, .iload_n 3, 1), (68, .ireturn, 1), (69, .iinc 3 1, 3), (72, .goto (-70), 3), (75, .iconst (-1), 1), (76, .ireturn, 1)] : List (Nat × Instr × Nat)).all (fun e => decide (decode prog_12_method_6_code e.1 = .ok e.2)) = true := by decide +kernel
abbrev cl_104_1 : List (Nat × jm_O) := [(45, op_lload 4 2), (47, op_callS 307 1), (50, op_i2l), (51, op_lbin (fun x y => x - y)), (52, op_iload 2 1), (53, op_i2l), (54, op_lload 4 2), (56, op_callS 308 1), (59, op_i2l), (60, op_lbin (fun x y => x - y)), (61, op_callV 1 17 4), (64, op_ifeq 69), (67, op_iload 3 1), (68, op_iret), (69, op_iinc 3 1), (72, op_goto 2), (75, op_ic (-1) 1), (76, op_iret)]
set_option maxRecDepth 100000 in
theorem gl_104_1 : jm_gl "FrescoWall$Wall" prog_12_method_6_code 6 (Option.some Jvm.ClassFile.FieldType.int) false cl_104_1 :=
  jm_gc (pu_lload _ _) (sn_lload (jm_dc dc_104_1 0 rfl)) (
  jm_gc (pu_callS _ _) (sn_callS (jm_dc dc_104_1 1 rfl) lk_9_60) (
  jm_gc (pu_i2l) (sn_i2l (jm_dc dc_104_1 2 rfl)) (
  jm_gc (pu_lbin _) (sn_lsub (jm_dc dc_104_1 3 rfl)) (
  jm_gc (pu_iload _ _) (sn_iload_n (i := 2) (jm_dc dc_104_1 4 rfl)) (
  jm_gc (pu_i2l) (sn_i2l (jm_dc dc_104_1 5 rfl)) (
  jm_gc (pu_lload _ _) (sn_lload (jm_dc dc_104_1 6 rfl)) (
  jm_gc (pu_callS _ _) (sn_callS (jm_dc dc_104_1 7 rfl) lk_9_63) (
  jm_gc (pu_i2l) (sn_i2l (jm_dc dc_104_1 8 rfl)) (
  jm_gc (pu_lbin _) (sn_lsub (jm_dc dc_104_1 9 rfl)) (
  jm_gc (pu_callV _ _ _) (sn_callV (jm_dc dc_104_1 10 rfl) lk_9_66) (
  jm_gc (pu_ifeq _) (sn_ifeq (jm_dc dc_104_1 11 rfl) (by decide)) (
  jm_gc (pu_iload _ _) (sn_iload_n (i := 3) (jm_dc dc_104_1 12 rfl)) (
  jm_gc (pu_iret) (sn_iret (jm_dc dc_104_1 13 rfl) rfl) (
  jm_gc (pu_iinc _ _) (sn_iinc (jm_dc dc_104_1 14 rfl) (by decide)) (
  jm_gc (pu_goto _) (sn_goto (jm_dc dc_104_1 15 rfl) (by decide)) (
  jm_gc (pu_ic _ _) (sn_iconst (jm_dc dc_104_1 16 rfl) (by decide)) (
  jm_gc (pu_iret) (sn_iret (jm_dc dc_104_1 17 rfl) rfl) (
  jm_gn))))))))))))))))))
theorem dc_105_0 : ([(0, .aload_n 0, 1), (1, .getfield 23, 3), (4, .getfield 35, 3), (7, .iload_n 1, 1), (8, .iaload, 1), (9, .istore 5, 2), (11, .aload_n 0, 1), (12, .getfield 23, 3), (15, .getfield 35, 3), (18, .iload_n 2, 1), (19, .iaload, 1), (20, .istore 6, 2), (22, .iload 5, 2), (24, .iload 6, 2), (26, .if_icmp .ne 37, 3), (29, .aload_n 0, 1), (30, .getfield 9, 3), (33, .iload_n 1, 1), (34, .laload, 1), (35, .aload_n 0, 1), (36, .getfield 9, 3), (39, .iload_n 2, 1), (40, .laload, 1), (41, .invokestatic 72, 3), (44, .lload_n 3, 1)] : List (Nat × Instr × Nat)).all (fun e => decide (decode prog_12_method_7_code e.1 = .ok e.2)) = true := by decide +kernel
abbrev cl_105_0 : List (Nat × jm_O) := [(0, op_aload 0 1), (1, op_getA 9 1), (4, op_getA 4 6), (7, op_iload 1 1), (8, op_iald 13), (9, op_istore 5 2), (11, op_aload 0 1), (12, op_getA 9 1), (15, op_getA 4 6), (18, op_iload 2 1), (19, op_iald 13), (20, op_istore 6 2), (22, op_iload 5 2), (24, op_iload 6 2), (26, op_cne 63), (29, op_aload 0 1), (30, op_getA 9 2), (33, op_iload 1 1), (34, op_lald), (35, op_aload 0 1), (36, op_getA 9 2), (39, op_iload 2 1), (40, op_lald), (41, op_callS 315 2), (44, op_lload 3 1)]
set_option maxRecDepth 100000 in
theorem gl_105_0 : jm_gl "FrescoWall$Wall" prog_12_method_7_code 10 (Option.some Jvm.ClassFile.FieldType.int) false cl_105_0 :=
  jm_gc (pu_aload _ _) (sn_aload_n (i := 0) (jm_dc dc_105_0 0 rfl)) (
  jm_gc (pu_getA _ _) (sn_getA (jm_dc dc_105_0 1 rfl) fl_9_23 rfl) (
  jm_gc (pu_getA _ _) (sn_getA (jm_dc dc_105_0 2 rfl) fl_9_35 rfl) (
  jm_gc (pu_iload _ _) (sn_iload_n (i := 1) (jm_dc dc_105_0 3 rfl)) (
  jm_gc (pu_iald _) (sn_iald (jm_dc dc_105_0 4 rfl)) (
  jm_gc (pu_istore _ _) (sn_istore (jm_dc dc_105_0 5 rfl)) (
  jm_gc (pu_aload _ _) (sn_aload_n (i := 0) (jm_dc dc_105_0 6 rfl)) (
  jm_gc (pu_getA _ _) (sn_getA (jm_dc dc_105_0 7 rfl) fl_9_23 rfl) (
  jm_gc (pu_getA _ _) (sn_getA (jm_dc dc_105_0 8 rfl) fl_9_35 rfl) (
  jm_gc (pu_iload _ _) (sn_iload_n (i := 2) (jm_dc dc_105_0 9 rfl)) (
  jm_gc (pu_iald _) (sn_iald (jm_dc dc_105_0 10 rfl)) (
  jm_gc (pu_istore _ _) (sn_istore (jm_dc dc_105_0 11 rfl)) (
  jm_gc (pu_iload _ _) (sn_iload (jm_dc dc_105_0 12 rfl)) (
  jm_gc (pu_iload _ _) (sn_iload (jm_dc dc_105_0 13 rfl)) (
  jm_gc (pu_cne _) (sn_cne (jm_dc dc_105_0 14 rfl) (by decide)) (
  jm_gc (pu_aload _ _) (sn_aload_n (i := 0) (jm_dc dc_105_0 15 rfl)) (
  jm_gc (pu_getA _ _) (sn_getA (jm_dc dc_105_0 16 rfl) fl_9_9 rfl) (
  jm_gc (pu_iload _ _) (sn_iload_n (i := 1) (jm_dc dc_105_0 17 rfl)) (
  jm_gc (pu_lald) (sn_lald (jm_dc dc_105_0 18 rfl)) (
  jm_gc (pu_aload _ _) (sn_aload_n (i := 0) (jm_dc dc_105_0 19 rfl)) (
  jm_gc (pu_getA _ _) (sn_getA (jm_dc dc_105_0 20 rfl) fl_9_9 rfl) (
  jm_gc (pu_iload _ _) (sn_iload_n (i := 2) (jm_dc dc_105_0 21 rfl)) (
  jm_gc (pu_lald) (sn_lald (jm_dc dc_105_0 22 rfl)) (
  jm_gc (pu_callS _ _) (sn_callS (jm_dc dc_105_0 23 rfl) lk_9_72) (
  jm_gc (pu_lload _ _) (sn_lload_n (i := 3) (jm_dc dc_105_0 24 rfl)) (
  jm_gn)))))))))))))))))))))))))
theorem dc_105_1 : ([(45, .lcmp, 1), (46, .ifCond .ne 7, 3), (49, .iconst 0, 1), (50, .goto 12, 3), (53, .aload_n 0, 1), (54, .iconst 1, 1), (55, .iload_n 1, 1), (56, .iload_n 2, 1), (57, .iload_n 1, 1), (58, .iload_n 2, 1), (59, .invokevirtual 76, 3), (62, .ireturn, 1), (63, .aload_n 0, 1), (64, .getfield 9, 3), (67, .iload_n 1, 1), (68, .laload, 1), (69, .aload_n 0, 1), (70, .getfield 9, 3), (73, .iload_n 2, 1), (74, .laload, 1), (75, .lload_n 3, 1), (76, .invokestatic 80, 3), (79, .invokestatic 84, 3), (82, .invokestatic 87, 3), (85, .lstore 7, 2)] : List (Nat × Instr × Nat)).all (fun e => decide (decode prog_12_method_7_code e.1 = .ok e.2)) = true := by decide +kernel
abbrev cl_105_1 : List (Nat × jm_O) := [(45, op_lcmp), (46, op_ifne 53), (49, op_ic 0 1), (50, op_goto 62), (53, op_aload 0 1), (54, op_ic 1 1), (55, op_iload 1 1), (56, op_iload 2 1), (57, op_iload 1 1), (58, op_iload 2 1), (59, op_callV 9 111 6), (62, op_iret), (63, op_aload 0 1), (64, op_getA 9 2), (67, op_iload 1 1), (68, op_lald), (69, op_aload 0 1), (70, op_getA 9 2), (73, op_iload 2 1), (74, op_lald), (75, op_lload 3 1), (76, op_callS 314 1), (79, op_callS 313 2), (82, op_callS 316 2), (85, op_lstore 7 2)]
set_option maxRecDepth 100000 in
theorem gl_105_1 : jm_gl "FrescoWall$Wall" prog_12_method_7_code 10 (Option.some Jvm.ClassFile.FieldType.int) false cl_105_1 :=
  jm_gc (pu_lcmp) (sn_lcmp (jm_dc dc_105_1 0 rfl)) (
  jm_gc (pu_ifne _) (sn_ifne (jm_dc dc_105_1 1 rfl) (by decide)) (
  jm_gc (pu_ic _ _) (sn_iconst (jm_dc dc_105_1 2 rfl) (by decide)) (
  jm_gc (pu_goto _) (sn_goto (jm_dc dc_105_1 3 rfl) (by decide)) (
  jm_gc (pu_aload _ _) (sn_aload_n (i := 0) (jm_dc dc_105_1 4 rfl)) (
  jm_gc (pu_ic _ _) (sn_iconst (jm_dc dc_105_1 5 rfl) (by decide)) (
  jm_gc (pu_iload _ _) (sn_iload_n (i := 1) (jm_dc dc_105_1 6 rfl)) (
  jm_gc (pu_iload _ _) (sn_iload_n (i := 2) (jm_dc dc_105_1 7 rfl)) (
  jm_gc (pu_iload _ _) (sn_iload_n (i := 1) (jm_dc dc_105_1 8 rfl)) (
  jm_gc (pu_iload _ _) (sn_iload_n (i := 2) (jm_dc dc_105_1 9 rfl)) (
  jm_gc (pu_callV _ _ _) (sn_callV (jm_dc dc_105_1 10 rfl) lk_9_76) (
  jm_gc (pu_iret) (sn_iret (jm_dc dc_105_1 11 rfl) rfl) (
  jm_gc (pu_aload _ _) (sn_aload_n (i := 0) (jm_dc dc_105_1 12 rfl)) (
  jm_gc (pu_getA _ _) (sn_getA (jm_dc dc_105_1 13 rfl) fl_9_9 rfl) (
  jm_gc (pu_iload _ _) (sn_iload_n (i := 1) (jm_dc dc_105_1 14 rfl)) (
  jm_gc (pu_lald) (sn_lald (jm_dc dc_105_1 15 rfl)) (
  jm_gc (pu_aload _ _) (sn_aload_n (i := 0) (jm_dc dc_105_1 16 rfl)) (
  jm_gc (pu_getA _ _) (sn_getA (jm_dc dc_105_1 17 rfl) fl_9_9 rfl) (
  jm_gc (pu_iload _ _) (sn_iload_n (i := 2) (jm_dc dc_105_1 18 rfl)) (
  jm_gc (pu_lald) (sn_lald (jm_dc dc_105_1 19 rfl)) (
  jm_gc (pu_lload _ _) (sn_lload_n (i := 3) (jm_dc dc_105_1 20 rfl)) (
  jm_gc (pu_callS _ _) (sn_callS (jm_dc dc_105_1 21 rfl) lk_9_80) (
  jm_gc (pu_callS _ _) (sn_callS (jm_dc dc_105_1 22 rfl) lk_9_84) (
  jm_gc (pu_callS _ _) (sn_callS (jm_dc dc_105_1 23 rfl) lk_9_87) (
  jm_gc (pu_lstore _ _) (sn_lstore (jm_dc dc_105_1 24 rfl)) (
  jm_gn)))))))))))))))))))))))))
theorem dc_105_2 : ([(87, .aload_n 0, 1), (88, .iload 5, 2), (90, .lload 7, 2), (92, .iload 6, 2), (94, .invokevirtual 90, 3), (97, .istore 9, 2), (99, .iload 9, 2), (101, .ifCond .lt 21, 3), (104, .aload_n 0, 1), (105, .iconst 2, 1), (106, .iload 9, 2), (108, .bipush 30, 2), (110, .idiv, 1), (111, .iload_n 1, 1), (112, .iload_n 2, 1), (113, .iload 9, 2), (115, .bipush 30, 2), (117, .irem, 1), (118, .invokevirtual 94, 3), (121, .ireturn, 1), (122, .aload_n 0, 1), (123, .iload_n 1, 1), (124, .invokevirtual 48, 3), (127, .ifCond .eq 44, 3), (130, .aload_n 0, 1)] : List (Nat × Instr × Nat)).all (fun e => decide (decode prog_12_method_7_code e.1 = .ok e.2)) = true := by decide +kernel
abbrev cl_105_2 : List (Nat × jm_O) := [(87, op_aload 0 1), (88, op_iload 5 2), (90, op_lload 7 2), (92, op_iload 6 2), (94, op_callV 9 107 4), (97, op_istore 9 2), (99, op_iload 9 2), (101, op_iflt 122), (104, op_aload 0 1), (105, op_ic 2 1), (106, op_iload 9 2), (108, op_ic 30 2), (110, op_idz (fun x y => x / y)), (111, op_iload 1 1), (112, op_iload 2 1), (113, op_iload 9 2), (115, op_ic 30 2), (117, op_idz (fun x y => x - x / y * y)), (118, op_callV 9 112 6), (121, op_iret), (122, op_aload 0 1), (123, op_iload 1 1), (124, op_callV 9 102 2), (127, op_ifeq 171), (130, op_aload 0 1)]
set_option maxRecDepth 100000 in
theorem gl_105_2 : jm_gl "FrescoWall$Wall" prog_12_method_7_code 10 (Option.some Jvm.ClassFile.FieldType.int) false cl_105_2 :=
  jm_gc (pu_aload _ _) (sn_aload_n (i := 0) (jm_dc dc_105_2 0 rfl)) (
  jm_gc (pu_iload _ _) (sn_iload (jm_dc dc_105_2 1 rfl)) (
  jm_gc (pu_lload _ _) (sn_lload (jm_dc dc_105_2 2 rfl)) (
  jm_gc (pu_iload _ _) (sn_iload (jm_dc dc_105_2 3 rfl)) (
  jm_gc (pu_callV _ _ _) (sn_callV (jm_dc dc_105_2 4 rfl) lk_9_90) (
  jm_gc (pu_istore _ _) (sn_istore (jm_dc dc_105_2 5 rfl)) (
  jm_gc (pu_iload _ _) (sn_iload (jm_dc dc_105_2 6 rfl)) (
  jm_gc (pu_iflt _) (sn_iflt (jm_dc dc_105_2 7 rfl) (by decide)) (
  jm_gc (pu_aload _ _) (sn_aload_n (i := 0) (jm_dc dc_105_2 8 rfl)) (
  jm_gc (pu_ic _ _) (sn_iconst (jm_dc dc_105_2 9 rfl) (by decide)) (
  jm_gc (pu_iload _ _) (sn_iload (jm_dc dc_105_2 10 rfl)) (
  jm_gc (pu_ic _ _) (sn_bipush (jm_dc dc_105_2 11 rfl) (by decide)) (
  jm_gc (pu_idz _) (sn_idiv (jm_dc dc_105_2 12 rfl)) (
  jm_gc (pu_iload _ _) (sn_iload_n (i := 1) (jm_dc dc_105_2 13 rfl)) (
  jm_gc (pu_iload _ _) (sn_iload_n (i := 2) (jm_dc dc_105_2 14 rfl)) (
  jm_gc (pu_iload _ _) (sn_iload (jm_dc dc_105_2 15 rfl)) (
  jm_gc (pu_ic _ _) (sn_bipush (jm_dc dc_105_2 16 rfl) (by decide)) (
  jm_gc (pu_idz _) (sn_irem (jm_dc dc_105_2 17 rfl)) (
  jm_gc (pu_callV _ _ _) (sn_callV (jm_dc dc_105_2 18 rfl) lk_9_94) (
  jm_gc (pu_iret) (sn_iret (jm_dc dc_105_2 19 rfl) rfl) (
  jm_gc (pu_aload _ _) (sn_aload_n (i := 0) (jm_dc dc_105_2 20 rfl)) (
  jm_gc (pu_iload _ _) (sn_iload_n (i := 1) (jm_dc dc_105_2 21 rfl)) (
  jm_gc (pu_callV _ _ _) (sn_callV (jm_dc dc_105_2 22 rfl) lk_9_48) (
  jm_gc (pu_ifeq _) (sn_ifeq (jm_dc dc_105_2 23 rfl) (by decide)) (
  jm_gc (pu_aload _ _) (sn_aload_n (i := 0) (jm_dc dc_105_2 24 rfl)) (
  jm_gn)))))))))))))))))))))))))
theorem dc_105_3 : ([(131, .iload_n 2, 1), (132, .invokevirtual 48, 3), (135, .ifCond .eq 36, 3), (138, .lload 7, 2), (140, .ldc2_w 29, 3), (143, .lcmp, 1), (144, .ifCond .ne 7, 3), (147, .iconst 0, 1), (148, .goto 22, 3), (151, .aload_n 0, 1), (152, .iconst 3, 1), (153, .aload_n 0, 1), (154, .iload 5, 2), (156, .invokevirtual 97, 3), (159, .iload_n 1, 1), (160, .iload_n 2, 1), (161, .aload_n 0, 1), (162, .iload 6, 2), (164, .invokevirtual 97, 3), (167, .invokevirtual 94, 3), (170, .ireturn, 1), (171, .aload_n 0, 1), (172, .iload_n 1, 1), (173, .invokevirtual 48, 3), (176, .ifCond .eq 24, 3)] : List (Nat × Instr × Nat)).all (fun e => decide (decode prog_12_method_7_code e.1 = .ok e.2)) = true := by decide +kernel
abbrev cl_105_3 : List (Nat × jm_O) := [(131, op_iload 2 1), (132, op_callV 9 102 2), (135, op_ifeq 171), (138, op_lload 7 2), (140, op_lc 549756338176 3), (143, op_lcmp), (144, op_ifne 151), (147, op_ic 0 1), (148, op_goto 170), (151, op_aload 0 1), (152, op_ic 3 1), (153, op_aload 0 1), (154, op_iload 5 2), (156, op_callV 9 109 2), (159, op_iload 1 1), (160, op_iload 2 1), (161, op_aload 0 1), (162, op_iload 6 2), (164, op_callV 9 109 2), (167, op_callV 9 112 6), (170, op_iret), (171, op_aload 0 1), (172, op_iload 1 1), (173, op_callV 9 102 2), (176, op_ifeq 200)]
set_option maxRecDepth 100000 in
theorem gl_105_3 : jm_gl "FrescoWall$Wall" prog_12_method_7_code 10 (Option.some Jvm.ClassFile.FieldType.int) false cl_105_3 :=
  jm_gc (pu_iload _ _) (sn_iload_n (i := 2) (jm_dc dc_105_3 0 rfl)) (
  jm_gc (pu_callV _ _ _) (sn_callV (jm_dc dc_105_3 1 rfl) lk_9_48) (
  jm_gc (pu_ifeq _) (sn_ifeq (jm_dc dc_105_3 2 rfl) (by decide)) (
  jm_gc (pu_lload _ _) (sn_lload (jm_dc dc_105_3 3 rfl)) (
  jm_gc (pu_lc _ _) (sn_ldc2 (jm_dc dc_105_3 4 rfl) (kc_tb 186 (by decide +kernel))) (
  jm_gc (pu_lcmp) (sn_lcmp (jm_dc dc_105_3 5 rfl)) (
  jm_gc (pu_ifne _) (sn_ifne (jm_dc dc_105_3 6 rfl) (by decide)) (
  jm_gc (pu_ic _ _) (sn_iconst (jm_dc dc_105_3 7 rfl) (by decide)) (
  jm_gc (pu_goto _) (sn_goto (jm_dc dc_105_3 8 rfl) (by decide)) (
  jm_gc (pu_aload _ _) (sn_aload_n (i := 0) (jm_dc dc_105_3 9 rfl)) (
  jm_gc (pu_ic _ _) (sn_iconst (jm_dc dc_105_3 10 rfl) (by decide)) (
  jm_gc (pu_aload _ _) (sn_aload_n (i := 0) (jm_dc dc_105_3 11 rfl)) (
  jm_gc (pu_iload _ _) (sn_iload (jm_dc dc_105_3 12 rfl)) (
  jm_gc (pu_callV _ _ _) (sn_callV (jm_dc dc_105_3 13 rfl) lk_9_97) (
  jm_gc (pu_iload _ _) (sn_iload_n (i := 1) (jm_dc dc_105_3 14 rfl)) (
  jm_gc (pu_iload _ _) (sn_iload_n (i := 2) (jm_dc dc_105_3 15 rfl)) (
  jm_gc (pu_aload _ _) (sn_aload_n (i := 0) (jm_dc dc_105_3 16 rfl)) (
  jm_gc (pu_iload _ _) (sn_iload (jm_dc dc_105_3 17 rfl)) (
  jm_gc (pu_callV _ _ _) (sn_callV (jm_dc dc_105_3 18 rfl) lk_9_97) (
  jm_gc (pu_callV _ _ _) (sn_callV (jm_dc dc_105_3 19 rfl) lk_9_94) (
  jm_gc (pu_iret) (sn_iret (jm_dc dc_105_3 20 rfl) rfl) (
  jm_gc (pu_aload _ _) (sn_aload_n (i := 0) (jm_dc dc_105_3 21 rfl)) (
  jm_gc (pu_iload _ _) (sn_iload_n (i := 1) (jm_dc dc_105_3 22 rfl)) (
  jm_gc (pu_callV _ _ _) (sn_callV (jm_dc dc_105_3 23 rfl) lk_9_48) (
  jm_gc (pu_ifeq _) (sn_ifeq (jm_dc dc_105_3 24 rfl) (by decide)) (
  jm_gn)))))))))))))))))))))))))
theorem dc_105_4 : ([(179, .aload_n 0, 1), (180, .iload 6, 2), (182, .lload 7, 2), (184, .invokestatic 80, 3), (187, .aload_n 0, 1), (188, .invokevirtual 101, 3), (191, .iload 5, 2), (193, .iconst (-1), 1), (194, .ixor, 1), (195, .iand, 1), (196, .invokevirtual 105, 3), (199, .ireturn, 1), (200, .aload_n 0, 1), (201, .iload 5, 2), (203, .lload 7, 2), (205, .aload_n 0, 1), (206, .iload_n 2, 1), (207, .invokevirtual 48, 3), (210, .ifCond .eq 15, 3), (213, .aload_n 0, 1), (214, .invokevirtual 101, 3), (217, .iload 6, 2), (219, .iconst (-1), 1), (220, .ixor, 1), (221, .iand, 1)] : List (Nat × Instr × Nat)).all (fun e => decide (decode prog_12_method_7_code e.1 = .ok e.2)) = true := by decide +kernel
abbrev cl_105_4 : List (Nat × jm_O) := [(179, op_aload 0 1), (180, op_iload 6 2), (182, op_lload 7 2), (184, op_callS 314 1), (187, op_aload 0 1), (188, op_callV 9 103 1), (191, op_iload 5 2), (193, op_ic (-1) 1), (194, op_ibin (fun x y => x ^^^ y)), (195, op_ibin (fun x y => x &&& y)), (196, op_callV 9 106 4), (199, op_iret), (200, op_aload 0 1), (201, op_iload 5 2), (203, op_lload 7 2), (205, op_aload 0 1), (206, op_iload 2 1), (207, op_callV 9 102 2), (210, op_ifeq 225), (213, op_aload 0 1), (214, op_callV 9 103 1), (217, op_iload 6 2), (219, op_ic (-1) 1), (220, op_ibin (fun x y => x ^^^ y)), (221, op_ibin (fun x y => x &&& y))]
set_option maxRecDepth 100000 in
theorem gl_105_4 : jm_gl "FrescoWall$Wall" prog_12_method_7_code 10 (Option.some Jvm.ClassFile.FieldType.int) false cl_105_4 :=
  jm_gc (pu_aload _ _) (sn_aload_n (i := 0) (jm_dc dc_105_4 0 rfl)) (
  jm_gc (pu_iload _ _) (sn_iload (jm_dc dc_105_4 1 rfl)) (
  jm_gc (pu_lload _ _) (sn_lload (jm_dc dc_105_4 2 rfl)) (
  jm_gc (pu_callS _ _) (sn_callS (jm_dc dc_105_4 3 rfl) lk_9_80) (
  jm_gc (pu_aload _ _) (sn_aload_n (i := 0) (jm_dc dc_105_4 4 rfl)) (
  jm_gc (pu_callV _ _ _) (sn_callV (jm_dc dc_105_4 5 rfl) lk_9_101) (
  jm_gc (pu_iload _ _) (sn_iload (jm_dc dc_105_4 6 rfl)) (
  jm_gc (pu_ic _ _) (sn_iconst (jm_dc dc_105_4 7 rfl) (by decide)) (
  jm_gc (pu_ibin _) (sn_ixor (jm_dc dc_105_4 8 rfl)) (
  jm_gc (pu_ibin _) (sn_iand (jm_dc dc_105_4 9 rfl)) (
  jm_gc (pu_callV _ _ _) (sn_callV (jm_dc dc_105_4 10 rfl) lk_9_105) (
  jm_gc (pu_iret) (sn_iret (jm_dc dc_105_4 11 rfl) rfl) (
  jm_gc (pu_aload _ _) (sn_aload_n (i := 0) (jm_dc dc_105_4 12 rfl)) (
  jm_gc (pu_iload _ _) (sn_iload (jm_dc dc_105_4 13 rfl)) (
  jm_gc (pu_lload _ _) (sn_lload (jm_dc dc_105_4 14 rfl)) (
  jm_gc (pu_aload _ _) (sn_aload_n (i := 0) (jm_dc dc_105_4 15 rfl)) (
  jm_gc (pu_iload _ _) (sn_iload_n (i := 2) (jm_dc dc_105_4 16 rfl)) (
  jm_gc (pu_callV _ _ _) (sn_callV (jm_dc dc_105_4 17 rfl) lk_9_48) (
  jm_gc (pu_ifeq _) (sn_ifeq (jm_dc dc_105_4 18 rfl) (by decide)) (
  jm_gc (pu_aload _ _) (sn_aload_n (i := 0) (jm_dc dc_105_4 19 rfl)) (
  jm_gc (pu_callV _ _ _) (sn_callV (jm_dc dc_105_4 20 rfl) lk_9_101) (
  jm_gc (pu_iload _ _) (sn_iload (jm_dc dc_105_4 21 rfl)) (
  jm_gc (pu_ic _ _) (sn_iconst (jm_dc dc_105_4 22 rfl) (by decide)) (
  jm_gc (pu_ibin _) (sn_ixor (jm_dc dc_105_4 23 rfl)) (
  jm_gc (pu_ibin _) (sn_iand (jm_dc dc_105_4 24 rfl)) (
  jm_gn)))))))))))))))))))))))))
theorem dc_105_5 : ([(222, .goto 4, 3), (225, .iconst 0, 1), (226, .invokevirtual 105, 3), (229, .ireturn, 1)] : List (Nat × Instr × Nat)).all (fun e => decide (decode prog_12_method_7_code e.1 = .ok e.2)) = true := by decide +kernel
abbrev cl_105_5 : List (Nat × jm_O) := [(222, op_goto 226), (225, op_ic 0 1), (226, op_callV 9 106 4), (229, op_iret)]
set_option maxRecDepth 100000 in
theorem gl_105_5 : jm_gl "FrescoWall$Wall" prog_12_method_7_code 10 (Option.some Jvm.ClassFile.FieldType.int) false cl_105_5 :=
  jm_gc (pu_goto _) (sn_goto (jm_dc dc_105_5 0 rfl) (by decide)) (
  jm_gc (pu_ic _ _) (sn_iconst (jm_dc dc_105_5 1 rfl) (by decide)) (
  jm_gc (pu_callV _ _ _) (sn_callV (jm_dc dc_105_5 2 rfl) lk_9_105) (
  jm_gc (pu_iret) (sn_iret (jm_dc dc_105_5 3 rfl) rfl) (
  jm_gn))))
theorem dc_106_0 : ([(0, .aload_n 0, 1), (1, .iload_n 1, 1), (2, .lload_n 2, 1), (3, .iload 4, 2), (5, .invokevirtual 90, 3), (8, .istore 5, 2), (10, .iload 5, 2), (12, .ifCond .lt 19, 3), (15, .aload_n 0, 1), (16, .iconst 5, 1), (17, .iload 5, 2), (19, .bipush 30, 2), (21, .idiv, 1), (22, .iload 5, 2), (24, .bipush 30, 2), (26, .irem, 1), (27, .invokevirtual 108, 3), (30, .ireturn, 1), (31, .aload_n 0, 1), (32, .iload_n 1, 1), (33, .lload_n 2, 1), (34, .invokevirtual 112, 3), (37, .iconst 0, 1), (38, .ireturn, 1)] : List (Nat × Instr × Nat)).all (fun e => decide (decode prog_12_method_8_code e.1 = .ok e.2)) = true := by decide +kernel
abbrev cl_106_0 : List (Nat × jm_O) := [(0, op_aload 0 1), (1, op_iload 1 1), (2, op_lload 2 1), (3, op_iload 4 2), (5, op_callV 9 107 4), (8, op_istore 5 2), (10, op_iload 5 2), (12, op_iflt 31), (15, op_aload 0 1), (16, op_ic 5 1), (17, op_iload 5 2), (19, op_ic 30 2), (21, op_idz (fun x y => x / y)), (22, op_iload 5 2), (24, op_ic 30 2), (26, op_idz (fun x y => x - x / y * y)), (27, op_callV 9 110 4), (30, op_iret), (31, op_aload 0 1), (32, op_iload 1 1), (33, op_lload 2 1), (34, op_callV 9 108 3), (37, op_ic 0 1), (38, op_iret)]
set_option maxRecDepth 100000 in
theorem gl_106_0 : jm_gl "FrescoWall$Wall" prog_12_method_8_code 6 (Option.some Jvm.ClassFile.FieldType.int) false cl_106_0 :=
  jm_gc (pu_aload _ _) (sn_aload_n (i := 0) (jm_dc dc_106_0 0 rfl)) (
  jm_gc (pu_iload _ _) (sn_iload_n (i := 1) (jm_dc dc_106_0 1 rfl)) (
  jm_gc (pu_lload _ _) (sn_lload_n (i := 2) (jm_dc dc_106_0 2 rfl)) (
  jm_gc (pu_iload _ _) (sn_iload (jm_dc dc_106_0 3 rfl)) (
  jm_gc (pu_callV _ _ _) (sn_callV (jm_dc dc_106_0 4 rfl) lk_9_90) (
  jm_gc (pu_istore _ _) (sn_istore (jm_dc dc_106_0 5 rfl)) (
  jm_gc (pu_iload _ _) (sn_iload (jm_dc dc_106_0 6 rfl)) (
  jm_gc (pu_iflt _) (sn_iflt (jm_dc dc_106_0 7 rfl) (by decide)) (
  jm_gc (pu_aload _ _) (sn_aload_n (i := 0) (jm_dc dc_106_0 8 rfl)) (
  jm_gc (pu_ic _ _) (sn_iconst (jm_dc dc_106_0 9 rfl) (by decide)) (
  jm_gc (pu_iload _ _) (sn_iload (jm_dc dc_106_0 10 rfl)) (
  jm_gc (pu_ic _ _) (sn_bipush (jm_dc dc_106_0 11 rfl) (by decide)) (
  jm_gc (pu_idz _) (sn_idiv (jm_dc dc_106_0 12 rfl)) (
  jm_gc (pu_iload _ _) (sn_iload (jm_dc dc_106_0 13 rfl)) (
  jm_gc (pu_ic _ _) (sn_bipush (jm_dc dc_106_0 14 rfl) (by decide)) (
  jm_gc (pu_idz _) (sn_irem (jm_dc dc_106_0 15 rfl)) (
  jm_gc (pu_callV _ _ _) (sn_callV (jm_dc dc_106_0 16 rfl) lk_9_108) (
  jm_gc (pu_iret) (sn_iret (jm_dc dc_106_0 17 rfl) rfl) (
  jm_gc (pu_aload _ _) (sn_aload_n (i := 0) (jm_dc dc_106_0 18 rfl)) (
  jm_gc (pu_iload _ _) (sn_iload_n (i := 1) (jm_dc dc_106_0 19 rfl)) (
  jm_gc (pu_lload _ _) (sn_lload_n (i := 2) (jm_dc dc_106_0 20 rfl)) (
  jm_gc (pu_callV _ _ _) (sn_callV (jm_dc dc_106_0 21 rfl) lk_9_112) (
  jm_gc (pu_ic _ _) (sn_iconst (jm_dc dc_106_0 22 rfl) (by decide)) (
  jm_gc (pu_iret) (sn_iret (jm_dc dc_106_0 23 rfl) rfl) (
  jm_gn))))))))))))))))))))))))
theorem dc_107_0 : ([(0, .iconst 0, 1), (1, .istore 5, 2), (3, .iload 5, 2), (5, .aload_n 0, 1), (6, .getfield 19, 3), (9, .getfield 43, 3), (12, .if_icmp .ge 94, 3), (15, .iload_n 1, 1), (16, .iload 5, 2), (18, .ishr, 1), (19, .iconst 1, 1), (20, .iand, 1), (21, .ifCond .eq 79, 3), (24, .lload_n 2, 1), (25, .aload_n 0, 1), (26, .getfield 9, 3), (29, .iload 5, 2), (31, .laload, 1), (32, .invokestatic 84, 3), (35, .lstore 6, 2), (37, .iconst 0, 1), (38, .istore 8, 2), (40, .iload 8, 2), (42, .aload_n 0, 1), (43, .getfield 19, 3)] : List (Nat × Instr × Nat)).all (fun e => decide (decode prog_12_method_9_code e.1 = .ok e.2)) = true := by decide +kernel
abbrev cl_107_0 : List (Nat × jm_O) := [(0, op_ic 0 1), (1, op_istore 5 2), (3, op_iload 5 2), (5, op_aload 0 1), (6, op_getA 9 0), (9, op_getI 3 1), (12, op_cge 106), (15, op_iload 1 1), (16, op_iload 5 2), (18, op_ibin (fun x y => x >>> (y &&& 31))), (19, op_ic 1 1), (20, op_ibin (fun x y => x &&& y)), (21, op_ifeq 100), (24, op_lload 2 1), (25, op_aload 0 1), (26, op_getA 9 2), (29, op_iload 5 2), (31, op_lald), (32, op_callS 313 2), (35, op_lstore 6 2), (37, op_ic 0 1), (38, op_istore 8 2), (40, op_iload 8 2), (42, op_aload 0 1), (43, op_getA 9 0)]
set_option maxRecDepth 100000 in
theorem gl_107_0 : jm_gl "FrescoWall$Wall" prog_12_method_9_code 9 (Option.some Jvm.ClassFile.FieldType.int) false cl_107_0 :=
  jm_gc (pu_ic _ _) (sn_iconst (jm_dc dc_107_0 0 rfl) (by decide)) (
  jm_gc (pu_istore _ _) (sn_istore (jm_dc dc_107_0 1 rfl)) (
  jm_gc (pu_iload _ _) (sn_iload (jm_dc dc_107_0 2 rfl)) (
  jm_gc (pu_aload _ _) (sn_aload_n (i := 0) (jm_dc dc_107_0 3 rfl)) (
  jm_gc (pu_getA _ _) (sn_getA (jm_dc dc_107_0 4 rfl) fl_9_19 rfl) (
  jm_gc (pu_getI _ _) (sn_getI (jm_dc dc_107_0 5 rfl) fl_9_43 (Or.inl rfl)) (
  jm_gc (pu_cge _) (sn_cge (jm_dc dc_107_0 6 rfl) (by decide)) (
  jm_gc (pu_iload _ _) (sn_iload_n (i := 1) (jm_dc dc_107_0 7 rfl)) (
  jm_gc (pu_iload _ _) (sn_iload (jm_dc dc_107_0 8 rfl)) (
  jm_gc (pu_ibin _) (sn_ishr (jm_dc dc_107_0 9 rfl)) (
  jm_gc (pu_ic _ _) (sn_iconst (jm_dc dc_107_0 10 rfl) (by decide)) (
  jm_gc (pu_ibin _) (sn_iand (jm_dc dc_107_0 11 rfl)) (
  jm_gc (pu_ifeq _) (sn_ifeq (jm_dc dc_107_0 12 rfl) (by decide)) (
  jm_gc (pu_lload _ _) (sn_lload_n (i := 2) (jm_dc dc_107_0 13 rfl)) (
  jm_gc (pu_aload _ _) (sn_aload_n (i := 0) (jm_dc dc_107_0 14 rfl)) (
  jm_gc (pu_getA _ _) (sn_getA (jm_dc dc_107_0 15 rfl) fl_9_9 rfl) (
  jm_gc (pu_iload _ _) (sn_iload (jm_dc dc_107_0 16 rfl)) (
  jm_gc (pu_lald) (sn_lald (jm_dc dc_107_0 17 rfl)) (
  jm_gc (pu_callS _ _) (sn_callS (jm_dc dc_107_0 18 rfl) lk_9_84) (
  jm_gc (pu_lstore _ _) (sn_lstore (jm_dc dc_107_0 19 rfl)) (
  jm_gc (pu_ic _ _) (sn_iconst (jm_dc dc_107_0 20 rfl) (by decide)) (
  jm_gc (pu_istore _ _) (sn_istore (jm_dc dc_107_0 21 rfl)) (
  jm_gc (pu_iload _ _) (sn_iload (jm_dc dc_107_0 22 rfl)) (
  jm_gc (pu_aload _ _) (sn_aload_n (i := 0) (jm_dc dc_107_0 23 rfl)) (
  jm_gc (pu_getA _ _) (sn_getA (jm_dc dc_107_0 24 rfl) fl_9_19 rfl) (
  jm_gn)))))))))))))))))))))))))
theorem dc_107_1 : ([(46, .getfield 43, 3), (49, .if_icmp .ge 51, 3), (52, .iload 4, 2), (54, .iload 8, 2), (56, .ishr, 1), (57, .iconst 1, 1), (58, .iand, 1), (59, .ifCond .eq 35, 3), (62, .aload_n 0, 1), (63, .getfield 19, 3), (66, .iload 5, 2), (68, .lload 6, 2), (70, .iload 8, 2), (72, .aload_n 0, 1), (73, .getfield 9, 3), (76, .iload 8, 2), (78, .laload, 1), (79, .invokevirtual 116, 3), (82, .ifCond .eq 12, 3), (85, .bipush 30, 2), (87, .iload 5, 2), (89, .imul, 1), (90, .iload 8, 2), (92, .iadd, 1), (93, .ireturn, 1)] : List (Nat × Instr × Nat)).all (fun e => decide (decode prog_12_method_9_code e.1 = .ok e.2)) = true := by decide +kernel
abbrev cl_107_1 : List (Nat × jm_O) := [(46, op_getI 3 1), (49, op_cge 100), (52, op_iload 4 2), (54, op_iload 8 2), (56, op_ibin (fun x y => x >>> (y &&& 31))), (57, op_ic 1 1), (58, op_ibin (fun x y => x &&& y)), (59, op_ifeq 94), (62, op_aload 0 1), (63, op_getA 9 0), (66, op_iload 5 2), (68, op_lload 6 2), (70, op_iload 8 2), (72, op_aload 0 1), (73, op_getA 9 2), (76, op_iload 8 2), (78, op_lald), (79, op_callV 3 39 5), (82, op_ifeq 94), (85, op_ic 30 2), (87, op_iload 5 2), (89, op_ibin (fun x y => x * y)), (90, op_iload 8 2), (92, op_ibin (fun x y => x + y)), (93, op_iret)]
set_option maxRecDepth 100000 in
theorem gl_107_1 : jm_gl "FrescoWall$Wall" prog_12_method_9_code 9 (Option.some Jvm.ClassFile.FieldType.int) false cl_107_1 :=
  jm_gc (pu_getI _ _) (sn_getI (jm_dc dc_107_1 0 rfl) fl_9_43 (Or.inl rfl)) (
  jm_gc (pu_cge _) (sn_cge (jm_dc dc_107_1 1 rfl) (by decide)) (
  jm_gc (pu_iload _ _) (sn_iload (jm_dc dc_107_1 2 rfl)) (
  jm_gc (pu_iload _ _) (sn_iload (jm_dc dc_107_1 3 rfl)) (
  jm_gc (pu_ibin _) (sn_ishr (jm_dc dc_107_1 4 rfl)) (
  jm_gc (pu_ic _ _) (sn_iconst (jm_dc dc_107_1 5 rfl) (by decide)) (
  jm_gc (pu_ibin _) (sn_iand (jm_dc dc_107_1 6 rfl)) (
  jm_gc (pu_ifeq _) (sn_ifeq (jm_dc dc_107_1 7 rfl) (by decide)) (
  jm_gc (pu_aload _ _) (sn_aload_n (i := 0) (jm_dc dc_107_1 8 rfl)) (
  jm_gc (pu_getA _ _) (sn_getA (jm_dc dc_107_1 9 rfl) fl_9_19 rfl) (
  jm_gc (pu_iload _ _) (sn_iload (jm_dc dc_107_1 10 rfl)) (
  jm_gc (pu_lload _ _) (sn_lload (jm_dc dc_107_1 11 rfl)) (
  jm_gc (pu_iload _ _) (sn_iload (jm_dc dc_107_1 12 rfl)) (
  jm_gc (pu_aload _ _) (sn_aload_n (i := 0) (jm_dc dc_107_1 13 rfl)) (
  jm_gc (pu_getA _ _) (sn_getA (jm_dc dc_107_1 14 rfl) fl_9_9 rfl) (
  jm_gc (pu_iload _ _) (sn_iload (jm_dc dc_107_1 15 rfl)) (
  jm_gc (pu_lald) (sn_lald (jm_dc dc_107_1 16 rfl)) (
  jm_gc (pu_callV _ _ _) (sn_callV (jm_dc dc_107_1 17 rfl) lk_9_116) (
  jm_gc (pu_ifeq _) (sn_ifeq (jm_dc dc_107_1 18 rfl) (by decide)) (
  jm_gc (pu_ic _ _) (sn_bipush (jm_dc dc_107_1 19 rfl) (by decide)) (
  jm_gc (pu_iload _ _) (sn_iload (jm_dc dc_107_1 20 rfl)) (
  jm_gc (pu_ibin _) (sn_imul (jm_dc dc_107_1 21 rfl)) (
  jm_gc (pu_iload _ _) (sn_iload (jm_dc dc_107_1 22 rfl)) (
  jm_gc (pu_ibin _) (sn_iadd (jm_dc dc_107_1 23 rfl)) (
  jm_gc (pu_iret) (sn_iret (jm_dc dc_107_1 24 rfl) rfl) (
  jm_gn)))))))))))))))))))))))))
theorem dc_107_2 : ([(94, .iinc 8 1, 3), (97, .goto (-57), 3), (100, .iinc 5 1, 3), (103, .goto (-100), 3), (106, .iconst (-1), 1), (107, .ireturn, 1)] : List (Nat × Instr × Nat)).all (fun e => decide (decode prog_12_method_9_code e.1 = .ok e.2)) = true := by decide +kernel
abbrev cl_107_2 : List (Nat × jm_O) := [(94, op_iinc 8 1), (97, op_goto 40), (100, op_iinc 5 1), (103, op_goto 3), (106, op_ic (-1) 1), (107, op_iret)]
set_option maxRecDepth 100000 in
theorem gl_107_2 : jm_gl "FrescoWall$Wall" prog_12_method_9_code 9 (Option.some Jvm.ClassFile.FieldType.int) false cl_107_2 :=
  jm_gc (pu_iinc _ _) (sn_iinc (jm_dc dc_107_2 0 rfl) (by decide)) (
  jm_gc (pu_goto _) (sn_goto (jm_dc dc_107_2 1 rfl) (by decide)) (
  jm_gc (pu_iinc _ _) (sn_iinc (jm_dc dc_107_2 2 rfl) (by decide)) (
  jm_gc (pu_goto _) (sn_goto (jm_dc dc_107_2 3 rfl) (by decide)) (
  jm_gc (pu_ic _ _) (sn_iconst (jm_dc dc_107_2 4 rfl) (by decide)) (
  jm_gc (pu_iret) (sn_iret (jm_dc dc_107_2 5 rfl) rfl) (
  jm_gn))))))
theorem dc_108_0 : ([(0, .iconst 0, 1), (1, .istore 4, 2), (3, .iload 4, 2), (5, .aload_n 0, 1), (6, .getfield 19, 3), (9, .getfield 43, 3), (12, .if_icmp .ge 36, 3), (15, .iload_n 1, 1), (16, .iload 4, 2), (18, .ishr, 1), (19, .iconst 1, 1), (20, .iand, 1), (21, .ifCond .eq 21, 3), (24, .aload_n 0, 1), (25, .getfield 9, 3), (28, .iload 4, 2), (30, .lload_n 2, 1), (31, .aload_n 0, 1), (32, .getfield 9, 3), (35, .iload 4, 2), (37, .laload, 1), (38, .invokestatic 84, 3), (41, .lastore, 1), (42, .iinc 4 1, 3), (45, .goto (-42), 3)] : List (Nat × Instr × Nat)).all (fun e => decide (decode prog_12_method_10_code e.1 = .ok e.2)) = true := by decide +kernel
abbrev cl_108_0 : List (Nat × jm_O) := [(0, op_ic 0 1), (1, op_istore 4 2), (3, op_iload 4 2), (5, op_aload 0 1), (6, op_getA 9 0), (9, op_getI 3 1), (12, op_cge 48), (15, op_iload 1 1), (16, op_iload 4 2), (18, op_ibin (fun x y => x >>> (y &&& 31))), (19, op_ic 1 1), (20, op_ibin (fun x y => x &&& y)), (21, op_ifeq 42), (24, op_aload 0 1), (25, op_getA 9 2), (28, op_iload 4 2), (30, op_lload 2 1), (31, op_aload 0 1), (32, op_getA 9 2), (35, op_iload 4 2), (37, op_lald), (38, op_callS 313 2), (41, op_last), (42, op_iinc 4 1), (45, op_goto 3)]
set_option maxRecDepth 100000 in
theorem gl_108_0 : jm_gl "FrescoWall$Wall" prog_12_method_10_code 5 (Option.none : Option Jvm.ClassFile.FieldType) false cl_108_0 :=
  jm_gc (pu_ic _ _) (sn_iconst (jm_dc dc_108_0 0 rfl) (by decide)) (
  jm_gc (pu_istore _ _) (sn_istore (jm_dc dc_108_0 1 rfl)) (
  jm_gc (pu_iload _ _) (sn_iload (jm_dc dc_108_0 2 rfl)) (
  jm_gc (pu_aload _ _) (sn_aload_n (i := 0) (jm_dc dc_108_0 3 rfl)) (
  jm_gc (pu_getA _ _) (sn_getA (jm_dc dc_108_0 4 rfl) fl_9_19 rfl) (
  jm_gc (pu_getI _ _) (sn_getI (jm_dc dc_108_0 5 rfl) fl_9_43 (Or.inl rfl)) (
  jm_gc (pu_cge _) (sn_cge (jm_dc dc_108_0 6 rfl) (by decide)) (
  jm_gc (pu_iload _ _) (sn_iload_n (i := 1) (jm_dc dc_108_0 7 rfl)) (
  jm_gc (pu_iload _ _) (sn_iload (jm_dc dc_108_0 8 rfl)) (
  jm_gc (pu_ibin _) (sn_ishr (jm_dc dc_108_0 9 rfl)) (
  jm_gc (pu_ic _ _) (sn_iconst (jm_dc dc_108_0 10 rfl) (by decide)) (
  jm_gc (pu_ibin _) (sn_iand (jm_dc dc_108_0 11 rfl)) (
  jm_gc (pu_ifeq _) (sn_ifeq (jm_dc dc_108_0 12 rfl) (by decide)) (
  jm_gc (pu_aload _ _) (sn_aload_n (i := 0) (jm_dc dc_108_0 13 rfl)) (
  jm_gc (pu_getA _ _) (sn_getA (jm_dc dc_108_0 14 rfl) fl_9_9 rfl) (
  jm_gc (pu_iload _ _) (sn_iload (jm_dc dc_108_0 15 rfl)) (
  jm_gc (pu_lload _ _) (sn_lload_n (i := 2) (jm_dc dc_108_0 16 rfl)) (
  jm_gc (pu_aload _ _) (sn_aload_n (i := 0) (jm_dc dc_108_0 17 rfl)) (
  jm_gc (pu_getA _ _) (sn_getA (jm_dc dc_108_0 18 rfl) fl_9_9 rfl) (
  jm_gc (pu_iload _ _) (sn_iload (jm_dc dc_108_0 19 rfl)) (
  jm_gc (pu_lald) (sn_lald (jm_dc dc_108_0 20 rfl)) (
  jm_gc (pu_callS _ _) (sn_callS (jm_dc dc_108_0 21 rfl) lk_9_84) (
  jm_gc (pu_last) (sn_last (jm_dc dc_108_0 22 rfl)) (
  jm_gc (pu_iinc _ _) (sn_iinc (jm_dc dc_108_0 23 rfl) (by decide)) (
  jm_gc (pu_goto _) (sn_goto (jm_dc dc_108_0 24 rfl) (by decide)) (
  jm_gn)))))))))))))))))))))))))
theorem dc_108_1 : ([(48, .return_, 1)] : List (Nat × Instr × Nat)).all (fun e => decide (decode prog_12_method_10_code e.1 = .ok e.2)) = true := by decide +kernel
abbrev cl_108_1 : List (Nat × jm_O) := [(48, op_vret)]
set_option maxRecDepth 100000 in
theorem gl_108_1 : jm_gl "FrescoWall$Wall" prog_12_method_10_code 5 (Option.none : Option Jvm.ClassFile.FieldType) false cl_108_1 :=
  jm_gc (pu_vret) (sn_vret (jm_dc dc_108_1 0 rfl) rfl) (
  jm_gn)
theorem dc_109_0 : ([(0, .aload_n 0, 1), (1, .getfield 31, 3), (4, .iload_n 1, 1), (5, .iand, 1), (6, .ifCond .eq 12, 3), (9, .aload_n 0, 1), (10, .getfield 31, 3), (13, .iload_n 1, 1), (14, .iand, 1), (15, .goto 9, 3), (18, .aload_n 0, 1), (19, .getfield 40, 3), (22, .iload_n 1, 1), (23, .iand, 1), (24, .istore_n 2, 1), (25, .iload_n 2, 1), (26, .invokestatic 120, 3), (29, .ireturn, 1)] : List (Nat × Instr × Nat)).all (fun e => decide (decode prog_12_method_11_code e.1 = .ok e.2)) = true := by decide +kernel
abbrev cl_109_0 : List (Nat × jm_O) := [(0, op_aload 0 1), (1, op_getI 9 3), (4, op_iload 1 1), (5, op_ibin (fun x y => x &&& y)), (6, op_ifeq 18), (9, op_aload 0 1), (10, op_getI 9 3), (13, op_iload 1 1), (14, op_ibin (fun x y => x &&& y)), (15, op_goto 24), (18, op_aload 0 1), (19, op_getI 9 4), (22, op_iload 1 1), (23, op_ibin (fun x y => x &&& y)), (24, op_istore 2 1), (25, op_iload 2 1), (26, op_callS 319 1), (29, op_iret)]
set_option maxRecDepth 100000 in
theorem gl_109_0 : jm_gl "FrescoWall$Wall" prog_12_method_11_code 3 (Option.some Jvm.ClassFile.FieldType.int) false cl_109_0 :=
  jm_gc (pu_aload _ _) (sn_aload_n (i := 0) (jm_dc dc_109_0 0 rfl)) (
  jm_gc (pu_getI _ _) (sn_getI (jm_dc dc_109_0 1 rfl) fl_9_31 (Or.inl rfl)) (
  jm_gc (pu_iload _ _) (sn_iload_n (i := 1) (jm_dc dc_109_0 2 rfl)) (
  jm_gc (pu_ibin _) (sn_iand (jm_dc dc_109_0 3 rfl)) (
  jm_gc (pu_ifeq _) (sn_ifeq (jm_dc dc_109_0 4 rfl) (by decide)) (
  jm_gc (pu_aload _ _) (sn_aload_n (i := 0) (jm_dc dc_109_0 5 rfl)) (
  jm_gc (pu_getI _ _) (sn_getI (jm_dc dc_109_0 6 rfl) fl_9_31 (Or.inl rfl)) (
  jm_gc (pu_iload _ _) (sn_iload_n (i := 1) (jm_dc dc_109_0 7 rfl)) (
  jm_gc (pu_ibin _) (sn_iand (jm_dc dc_109_0 8 rfl)) (
  jm_gc (pu_goto _) (sn_goto (jm_dc dc_109_0 9 rfl) (by decide)) (
  jm_gc (pu_aload _ _) (sn_aload_n (i := 0) (jm_dc dc_109_0 10 rfl)) (
  jm_gc (pu_getI _ _) (sn_getI (jm_dc dc_109_0 11 rfl) fl_9_40 (Or.inl rfl)) (
  jm_gc (pu_iload _ _) (sn_iload_n (i := 1) (jm_dc dc_109_0 12 rfl)) (
  jm_gc (pu_ibin _) (sn_iand (jm_dc dc_109_0 13 rfl)) (
  jm_gc (pu_istore _ _) (sn_istore_n (i := 2) (jm_dc dc_109_0 14 rfl)) (
  jm_gc (pu_iload _ _) (sn_iload_n (i := 2) (jm_dc dc_109_0 15 rfl)) (
  jm_gc (pu_callS _ _) (sn_callS (jm_dc dc_109_0 16 rfl) lk_9_120) (
  jm_gc (pu_iret) (sn_iret (jm_dc dc_109_0 17 rfl) rfl) (
  jm_gn))))))))))))))))))
theorem dc_110_0 : ([(0, .aload_n 0, 1), (1, .iload_n 1, 1), (2, .putfield 125, 3), (5, .aload_n 0, 1), (6, .iload_n 2, 1), (7, .putfield 128, 3), (10, .aload_n 0, 1), (11, .iload_n 3, 1), (12, .putfield 131, 3), (15, .aload_n 0, 1), (16, .iconst 0, 1), (17, .putfield 134, 3), (20, .iload_n 1, 1), (21, .ireturn, 1)] : List (Nat × Instr × Nat)).all (fun e => decide (decode prog_12_method_12_code e.1 = .ok e.2)) = true := by decide +kernel
abbrev cl_110_0 : List (Nat × jm_O) := [(0, op_aload 0 1), (1, op_iload 1 1), (2, op_putI 9 5), (5, op_aload 0 1), (6, op_iload 2 1), (7, op_putI 9 6), (10, op_aload 0 1), (11, op_iload 3 1), (12, op_putI 9 7), (15, op_aload 0 1), (16, op_ic 0 1), (17, op_putI 9 8), (20, op_iload 1 1), (21, op_iret)]
set_option maxRecDepth 100000 in
theorem gl_110_0 : jm_gl "FrescoWall$Wall" prog_12_method_12_code 4 (Option.some Jvm.ClassFile.FieldType.int) false cl_110_0 :=
  jm_gc (pu_aload _ _) (sn_aload_n (i := 0) (jm_dc dc_110_0 0 rfl)) (
  jm_gc (pu_iload _ _) (sn_iload_n (i := 1) (jm_dc dc_110_0 1 rfl)) (
  jm_gc (pu_putI _ _) (sn_putI (jm_dc dc_110_0 2 rfl) flw_9_125 rfl) (
  jm_gc (pu_aload _ _) (sn_aload_n (i := 0) (jm_dc dc_110_0 3 rfl)) (
  jm_gc (pu_iload _ _) (sn_iload_n (i := 2) (jm_dc dc_110_0 4 rfl)) (
  jm_gc (pu_putI _ _) (sn_putI (jm_dc dc_110_0 5 rfl) flw_9_128 rfl) (
  jm_gc (pu_aload _ _) (sn_aload_n (i := 0) (jm_dc dc_110_0 6 rfl)) (
  jm_gc (pu_iload _ _) (sn_iload_n (i := 3) (jm_dc dc_110_0 7 rfl)) (
  jm_gc (pu_putI _ _) (sn_putI (jm_dc dc_110_0 8 rfl) flw_9_131 rfl) (
  jm_gc (pu_aload _ _) (sn_aload_n (i := 0) (jm_dc dc_110_0 9 rfl)) (
  jm_gc (pu_ic _ _) (sn_iconst (jm_dc dc_110_0 10 rfl) (by decide)) (
  jm_gc (pu_putI _ _) (sn_putI (jm_dc dc_110_0 11 rfl) flw_9_134 rfl) (
  jm_gc (pu_iload _ _) (sn_iload_n (i := 1) (jm_dc dc_110_0 12 rfl)) (
  jm_gc (pu_iret) (sn_iret (jm_dc dc_110_0 13 rfl) rfl) (
  jm_gn))))))))))))))
theorem dc_111_0 : ([(0, .aload_n 0, 1), (1, .iload_n 1, 1), (2, .iload_n 2, 1), (3, .iload_n 3, 1), (4, .invokevirtual 108, 3), (7, .pop, 1), (8, .aload_n 0, 1), (9, .iload 4, 2), (11, .iload 5, 2), (13, .invokevirtual 137, 3), (16, .iload_n 1, 1), (17, .ireturn, 1)] : List (Nat × Instr × Nat)).all (fun e => decide (decode prog_12_method_13_code e.1 = .ok e.2)) = true := by decide +kernel
abbrev cl_111_0 : List (Nat × jm_O) := [(0, op_aload 0 1), (1, op_iload 1 1), (2, op_iload 2 1), (3, op_iload 3 1), (4, op_callV 9 110 4), (7, op_pop), (8, op_aload 0 1), (9, op_iload 4 2), (11, op_iload 5 2), (13, op_callV 9 113 3), (16, op_iload 1 1), (17, op_iret)]
set_option maxRecDepth 100000 in
theorem gl_111_0 : jm_gl "FrescoWall$Wall" prog_12_method_13_code 6 (Option.some Jvm.ClassFile.FieldType.int) false cl_111_0 :=
  jm_gc (pu_aload _ _) (sn_aload_n (i := 0) (jm_dc dc_111_0 0 rfl)) (
  jm_gc (pu_iload _ _) (sn_iload_n (i := 1) (jm_dc dc_111_0 1 rfl)) (
  jm_gc (pu_iload _ _) (sn_iload_n (i := 2) (jm_dc dc_111_0 2 rfl)) (
  jm_gc (pu_iload _ _) (sn_iload_n (i := 3) (jm_dc dc_111_0 3 rfl)) (
  jm_gc (pu_callV _ _ _) (sn_callV (jm_dc dc_111_0 4 rfl) lk_9_108) (
  jm_gc (pu_pop) (sn_pop (jm_dc dc_111_0 5 rfl)) (
  jm_gc (pu_aload _ _) (sn_aload_n (i := 0) (jm_dc dc_111_0 6 rfl)) (
  jm_gc (pu_iload _ _) (sn_iload (jm_dc dc_111_0 7 rfl)) (
  jm_gc (pu_iload _ _) (sn_iload (jm_dc dc_111_0 8 rfl)) (
  jm_gc (pu_callV _ _ _) (sn_callV (jm_dc dc_111_0 9 rfl) lk_9_137) (
  jm_gc (pu_iload _ _) (sn_iload_n (i := 1) (jm_dc dc_111_0 10 rfl)) (
  jm_gc (pu_iret) (sn_iret (jm_dc dc_111_0 11 rfl) rfl) (
  jm_gn))))))))))))
theorem dc_112_0 : ([(0, .aload_n 0, 1), (1, .iload_n 1, 1), (2, .iload_n 2, 1), (3, .iload 5, 2), (5, .invokevirtual 108, 3), (8, .pop, 1), (9, .aload_n 0, 1), (10, .iload_n 2, 1), (11, .iload_n 3, 1), (12, .invokevirtual 137, 3), (15, .aload_n 0, 1), (16, .iload 4, 2), (18, .iload 5, 2), (20, .invokevirtual 137, 3), (23, .iload_n 1, 1), (24, .ireturn, 1)] : List (Nat × Instr × Nat)).all (fun e => decide (decode prog_12_method_14_code e.1 = .ok e.2)) = true := by decide +kernel
abbrev cl_112_0 : List (Nat × jm_O) := [(0, op_aload 0 1), (1, op_iload 1 1), (2, op_iload 2 1), (3, op_iload 5 2), (5, op_callV 9 110 4), (8, op_pop), (9, op_aload 0 1), (10, op_iload 2 1), (11, op_iload 3 1), (12, op_callV 9 113 3), (15, op_aload 0 1), (16, op_iload 4 2), (18, op_iload 5 2), (20, op_callV 9 113 3), (23, op_iload 1 1), (24, op_iret)]
set_option maxRecDepth 100000 in
theorem gl_112_0 : jm_gl "FrescoWall$Wall" prog_12_method_14_code 6 (Option.some Jvm.ClassFile.FieldType.int) false cl_112_0 :=
  jm_gc (pu_aload _ _) (sn_aload_n (i := 0) (jm_dc dc_112_0 0 rfl)) (
  jm_gc (pu_iload _ _) (sn_iload_n (i := 1) (jm_dc dc_112_0 1 rfl)) (
  jm_gc (pu_iload _ _) (sn_iload_n (i := 2) (jm_dc dc_112_0 2 rfl)) (
  jm_gc (pu_iload _ _) (sn_iload (jm_dc dc_112_0 3 rfl)) (
  jm_gc (pu_callV _ _ _) (sn_callV (jm_dc dc_112_0 4 rfl) lk_9_108) (
  jm_gc (pu_pop) (sn_pop (jm_dc dc_112_0 5 rfl)) (
  jm_gc (pu_aload _ _) (sn_aload_n (i := 0) (jm_dc dc_112_0 6 rfl)) (
  jm_gc (pu_iload _ _) (sn_iload_n (i := 2) (jm_dc dc_112_0 7 rfl)) (
  jm_gc (pu_iload _ _) (sn_iload_n (i := 3) (jm_dc dc_112_0 8 rfl)) (
  jm_gc (pu_callV _ _ _) (sn_callV (jm_dc dc_112_0 9 rfl) lk_9_137) (
  jm_gc (pu_aload _ _) (sn_aload_n (i := 0) (jm_dc dc_112_0 10 rfl)) (
  jm_gc (pu_iload _ _) (sn_iload (jm_dc dc_112_0 11 rfl)) (
  jm_gc (pu_iload _ _) (sn_iload (jm_dc dc_112_0 12 rfl)) (
  jm_gc (pu_callV _ _ _) (sn_callV (jm_dc dc_112_0 13 rfl) lk_9_137) (
  jm_gc (pu_iload _ _) (sn_iload_n (i := 1) (jm_dc dc_112_0 14 rfl)) (
  jm_gc (pu_iret) (sn_iret (jm_dc dc_112_0 15 rfl) rfl) (
  jm_gn))))))))))))))))
theorem dc_113_0 : ([(0, .aload_n 0, 1), (1, .getfield 23, 3), (4, .iload_n 2, 1), (5, .aload_n 0, 1), (6, .getfield 23, 3), (9, .getfield 141, 3), (12, .invokevirtual 145, 3), (15, .aload_n 0, 1), (16, .getfield 23, 3), (19, .iload_n 1, 1), (20, .aload_n 0, 1), (21, .getfield 23, 3), (24, .getfield 141, 3), (27, .invokevirtual 148, 3), (30, .istore_n 3, 1), (31, .iconst 0, 1), (32, .istore 4, 2), (34, .iload 4, 2), (36, .iload_n 3, 1), (37, .if_icmp .ge 38, 3), (40, .aload_n 0, 1), (41, .getfield 15, 3), (44, .aload_n 0, 1), (45, .getfield 134, 3), (48, .aload_n 0, 1)] : List (Nat × Instr × Nat)).all (fun e => decide (decode prog_12_method_15_code e.1 = .ok e.2)) = true := by decide +kernel
abbrev cl_113_0 : List (Nat × jm_O) := [(0, op_aload 0 1), (1, op_getA 9 1), (4, op_iload 2 1), (5, op_aload 0 1), (6, op_getA 9 1), (9, op_getJ 4 5), (12, op_callV 4 52 3), (15, op_aload 0 1), (16, op_getA 9 1), (19, op_iload 1 1), (20, op_aload 0 1), (21, op_getA 9 1), (24, op_getJ 4 5), (27, op_callV 4 54 3), (30, op_istore 3 1), (31, op_ic 0 1), (32, op_istore 4 2), (34, op_iload 4 2), (36, op_iload 3 1), (37, op_cge 75), (40, op_aload 0 1), (41, op_getA 9 9), (44, op_aload 0 1), (45, op_getI 9 8), (48, op_aload 0 1)]
set_option maxRecDepth 100000 in
theorem gl_113_0 : jm_gl "FrescoWall$Wall" prog_12_method_15_code 5 (Option.none : Option Jvm.ClassFile.FieldType) false cl_113_0 :=
  jm_gc (pu_aload _ _) (sn_aload_n (i := 0) (jm_dc dc_113_0 0 rfl)) (
  jm_gc (pu_getA _ _) (sn_getA (jm_dc dc_113_0 1 rfl) fl_9_23 rfl) (
  jm_gc (pu_iload _ _) (sn_iload_n (i := 2) (jm_dc dc_113_0 2 rfl)) (
  jm_gc (pu_aload _ _) (sn_aload_n (i := 0) (jm_dc dc_113_0 3 rfl)) (
  jm_gc (pu_getA _ _) (sn_getA (jm_dc dc_113_0 4 rfl) fl_9_23 rfl) (
  jm_gc (pu_getJ _ _) (sn_getJ (jm_dc dc_113_0 5 rfl) fl_9_141 rfl) (
  jm_gc (pu_callV _ _ _) (sn_callV (jm_dc dc_113_0 6 rfl) lk_9_145) (
  jm_gc (pu_aload _ _) (sn_aload_n (i := 0) (jm_dc dc_113_0 7 rfl)) (
  jm_gc (pu_getA _ _) (sn_getA (jm_dc dc_113_0 8 rfl) fl_9_23 rfl) (
  jm_gc (pu_iload _ _) (sn_iload_n (i := 1) (jm_dc dc_113_0 9 rfl)) (
  jm_gc (pu_aload _ _) (sn_aload_n (i := 0) (jm_dc dc_113_0 10 rfl)) (
  jm_gc (pu_getA _ _) (sn_getA (jm_dc dc_113_0 11 rfl) fl_9_23 rfl) (
  jm_gc (pu_getJ _ _) (sn_getJ (jm_dc dc_113_0 12 rfl) fl_9_141 rfl) (
  jm_gc (pu_callV _ _ _) (sn_callV (jm_dc dc_113_0 13 rfl) lk_9_148) (
  jm_gc (pu_istore _ _) (sn_istore_n (i := 3) (jm_dc dc_113_0 14 rfl)) (
  jm_gc (pu_ic _ _) (sn_iconst (jm_dc dc_113_0 15 rfl) (by decide)) (
  jm_gc (pu_istore _ _) (sn_istore (jm_dc dc_113_0 16 rfl)) (
  jm_gc (pu_iload _ _) (sn_iload (jm_dc dc_113_0 17 rfl)) (
  jm_gc (pu_iload _ _) (sn_iload_n (i := 3) (jm_dc dc_113_0 18 rfl)) (
  jm_gc (pu_cge _) (sn_cge (jm_dc dc_113_0 19 rfl) (by decide)) (
  jm_gc (pu_aload _ _) (sn_aload_n (i := 0) (jm_dc dc_113_0 20 rfl)) (
  jm_gc (pu_getA _ _) (sn_getA (jm_dc dc_113_0 21 rfl) fl_9_15 rfl) (
  jm_gc (pu_aload _ _) (sn_aload_n (i := 0) (jm_dc dc_113_0 22 rfl)) (
  jm_gc (pu_getI _ _) (sn_getI (jm_dc dc_113_0 23 rfl) fl_9_134 (Or.inl rfl)) (
  jm_gc (pu_aload _ _) (sn_aload_n (i := 0) (jm_dc dc_113_0 24 rfl)) (
  jm_gn)))))))))))))))))))))))))
theorem dc_113_1 : ([(49, .getfield 23, 3), (52, .getfield 152, 3), (55, .iload 4, 2), (57, .iaload, 1), (58, .iastore, 1), (59, .aload_n 0, 1), (60, .dup, 1), (61, .getfield 134, 3), (64, .iconst 1, 1), (65, .iadd, 1), (66, .putfield 134, 3), (69, .iinc 4 1, 3), (72, .goto (-38), 3), (75, .return_, 1)] : List (Nat × Instr × Nat)).all (fun e => decide (decode prog_12_method_15_code e.1 = .ok e.2)) = true := by decide +kernel
abbrev cl_113_1 : List (Nat × jm_O) := [(49, op_getA 9 1), (52, op_getA 4 8), (55, op_iload 4 2), (57, op_iald 13), (58, op_iast), (59, op_aload 0 1), (60, op_dup), (61, op_getI 9 8), (64, op_ic 1 1), (65, op_ibin (fun x y => x + y)), (66, op_putI 9 8), (69, op_iinc 4 1), (72, op_goto 34), (75, op_vret)]
set_option maxRecDepth 100000 in
theorem gl_113_1 : jm_gl "FrescoWall$Wall" prog_12_method_15_code 5 (Option.none : Option Jvm.ClassFile.FieldType) false cl_113_1 :=
  jm_gc (pu_getA _ _) (sn_getA (jm_dc dc_113_1 0 rfl) fl_9_23 rfl) (
  jm_gc (pu_getA _ _) (sn_getA (jm_dc dc_113_1 1 rfl) fl_9_152 rfl) (
  jm_gc (pu_iload _ _) (sn_iload (jm_dc dc_113_1 2 rfl)) (
  jm_gc (pu_iald _) (sn_iald (jm_dc dc_113_1 3 rfl)) (
  jm_gc (pu_iast) (sn_iast (jm_dc dc_113_1 4 rfl)) (
  jm_gc (pu_aload _ _) (sn_aload_n (i := 0) (jm_dc dc_113_1 5 rfl)) (
  jm_gc (pu_dup) (sn_dup (jm_dc dc_113_1 6 rfl)) (
  jm_gc (pu_getI _ _) (sn_getI (jm_dc dc_113_1 7 rfl) fl_9_134 (Or.inl rfl)) (
  jm_gc (pu_ic _ _) (sn_iconst (jm_dc dc_113_1 8 rfl) (by decide)) (
  jm_gc (pu_ibin _) (sn_iadd (jm_dc dc_113_1 9 rfl)) (
  jm_gc (pu_putI _ _) (sn_putI (jm_dc dc_113_1 10 rfl) flw_9_134 rfl) (
  jm_gc (pu_iinc _ _) (sn_iinc (jm_dc dc_113_1 11 rfl) (by decide)) (
  jm_gc (pu_goto _) (sn_goto (jm_dc dc_113_1 12 rfl) (by decide)) (
  jm_gc (pu_vret) (sn_vret (jm_dc dc_113_1 13 rfl) rfl) (
  jm_gn))))))))))))))
theorem dc_114_0 : ([(0, .aload_n 0, 1), (1, .getfield 23, 3), (4, .getfield 35, 3), (7, .iload_n 1, 1), (8, .iaload, 1), (9, .istore 4, 2), (11, .aload_n 0, 1), (12, .getfield 31, 3), (15, .iload 4, 2), (17, .iand, 1), (18, .iconst 1, 1), (19, .iload_n 1, 1), (20, .ishl, 1), (21, .iconst (-1), 1), (22, .ixor, 1), (23, .iand, 1), (24, .istore 5, 2), (26, .iload 5, 2), (28, .ifCond .eq 33, 3), (31, .aload_n 0, 1), (32, .getfield 9, 3), (35, .iload_n 1, 1), (36, .laload, 1), (37, .lload_n 2, 1), (38, .lcmp, 1)] : List (Nat × Instr × Nat)).all (fun e => decide (decode prog_12_method_16_code e.1 = .ok e.2)) = true := by decide +kernel
abbrev cl_114_0 : List (Nat × jm_O) := [(0, op_aload 0 1), (1, op_getA 9 1), (4, op_getA 4 6), (7, op_iload 1 1), (8, op_iald 13), (9, op_istore 4 2), (11, op_aload 0 1), (12, op_getI 9 3), (15, op_iload 4 2), (17, op_ibin (fun x y => x &&& y)), (18, op_ic 1 1), (19, op_iload 1 1), (20, op_ibin (fun x y => x <<< (y &&& 31))), (21, op_ic (-1) 1), (22, op_ibin (fun x y => x ^^^ y)), (23, op_ibin (fun x y => x &&& y)), (24, op_istore 5 2), (26, op_iload 5 2), (28, op_ifeq 61), (31, op_aload 0 1), (32, op_getA 9 2), (35, op_iload 1 1), (36, op_lald), (37, op_lload 2 1), (38, op_lcmp)]
set_option maxRecDepth 100000 in
theorem gl_114_0 : jm_gl "FrescoWall$Wall" prog_12_method_16_code 7 (Option.some Jvm.ClassFile.FieldType.int) false cl_114_0 :=
  jm_gc (pu_aload _ _) (sn_aload_n (i := 0) (jm_dc dc_114_0 0 rfl)) (
  jm_gc (pu_getA _ _) (sn_getA (jm_dc dc_114_0 1 rfl) fl_9_23 rfl) (
  jm_gc (pu_getA _ _) (sn_getA (jm_dc dc_114_0 2 rfl) fl_9_35 rfl) (
  jm_gc (pu_iload _ _) (sn_iload_n (i := 1) (jm_dc dc_114_0 3 rfl)) (
  jm_gc (pu_iald _) (sn_iald (jm_dc dc_114_0 4 rfl)) (
  jm_gc (pu_istore _ _) (sn_istore (jm_dc dc_114_0 5 rfl)) (
  jm_gc (pu_aload _ _) (sn_aload_n (i := 0) (jm_dc dc_114_0 6 rfl)) (
  jm_gc (pu_getI _ _) (sn_getI (jm_dc dc_114_0 7 rfl) fl_9_31 (Or.inl rfl)) (
  jm_gc (pu_iload _ _) (sn_iload (jm_dc dc_114_0 8 rfl)) (
  jm_gc (pu_ibin _) (sn_iand (jm_dc dc_114_0 9 rfl)) (
  jm_gc (pu_ic _ _) (sn_iconst (jm_dc dc_114_0 10 rfl) (by decide)) (
  jm_gc (pu_iload _ _) (sn_iload_n (i := 1) (jm_dc dc_114_0 11 rfl)) (
  jm_gc (pu_ibin _) (sn_ishl (jm_dc dc_114_0 12 rfl)) (
  jm_gc (pu_ic _ _) (sn_iconst (jm_dc dc_114_0 13 rfl) (by decide)) (
  jm_gc (pu_ibin _) (sn_ixor (jm_dc dc_114_0 14 rfl)) (
  jm_gc (pu_ibin _) (sn_iand (jm_dc dc_114_0 15 rfl)) (
  jm_gc (pu_istore _ _) (sn_istore (jm_dc dc_114_0 16 rfl)) (
  jm_gc (pu_iload _ _) (sn_iload (jm_dc dc_114_0 17 rfl)) (
  jm_gc (pu_ifeq _) (sn_ifeq (jm_dc dc_114_0 18 rfl) (by decide)) (
  jm_gc (pu_aload _ _) (sn_aload_n (i := 0) (jm_dc dc_114_0 19 rfl)) (
  jm_gc (pu_getA _ _) (sn_getA (jm_dc dc_114_0 20 rfl) fl_9_9 rfl) (
  jm_gc (pu_iload _ _) (sn_iload_n (i := 1) (jm_dc dc_114_0 21 rfl)) (
  jm_gc (pu_lald) (sn_lald (jm_dc dc_114_0 22 rfl)) (
  jm_gc (pu_lload _ _) (sn_lload_n (i := 2) (jm_dc dc_114_0 23 rfl)) (
  jm_gc (pu_lcmp) (sn_lcmp (jm_dc dc_114_0 24 rfl)) (
  jm_gn)))))))))))))))))))))))))
theorem dc_114_1 : ([(39, .ifCond .eq 22, 3), (42, .iload 5, 2), (44, .invokestatic 120, 3), (47, .istore 6, 2), (49, .aload_n 0, 1), (50, .iconst 4, 1), (51, .iload 6, 2), (53, .iload_n 1, 1), (54, .iload 6, 2), (56, .iload_n 1, 1), (57, .invokevirtual 76, 3), (60, .ireturn, 1), (61, .aload_n 0, 1), (62, .iload_n 1, 1), (63, .lload_n 2, 1), (64, .invokevirtual 155, 3), (67, .istore 6, 2), (69, .iload 6, 2), (71, .ifCond .ne 28, 3), (74, .aload_n 0, 1), (75, .dup, 1), (76, .getfield 31, 3), (79, .iconst 1, 1), (80, .iload_n 1, 1), (81, .ishl, 1)] : List (Nat × Instr × Nat)).all (fun e => decide (decode prog_12_method_16_code e.1 = .ok e.2)) = true := by decide +kernel
abbrev cl_114_1 : List (Nat × jm_O) := [(39, op_ifeq 61), (42, op_iload 5 2), (44, op_callS 319 1), (47, op_istore 6 2), (49, op_aload 0 1), (50, op_ic 4 1), (51, op_iload 6 2), (53, op_iload 1 1), (54, op_iload 6 2), (56, op_iload 1 1), (57, op_callV 9 111 6), (60, op_iret), (61, op_aload 0 1), (62, op_iload 1 1), (63, op_lload 2 1), (64, op_callV 9 118 3), (67, op_istore 6 2), (69, op_iload 6 2), (71, op_ifne 99), (74, op_aload 0 1), (75, op_dup), (76, op_getI 9 3), (79, op_ic 1 1), (80, op_iload 1 1), (81, op_ibin (fun x y => x <<< (y &&& 31)))]
set_option maxRecDepth 100000 in
theorem gl_114_1 : jm_gl "FrescoWall$Wall" prog_12_method_16_code 7 (Option.some Jvm.ClassFile.FieldType.int) false cl_114_1 :=
  jm_gc (pu_ifeq _) (sn_ifeq (jm_dc dc_114_1 0 rfl) (by decide)) (
  jm_gc (pu_iload _ _) (sn_iload (jm_dc dc_114_1 1 rfl)) (
  jm_gc (pu_callS _ _) (sn_callS (jm_dc dc_114_1 2 rfl) lk_9_120) (
  jm_gc (pu_istore _ _) (sn_istore (jm_dc dc_114_1 3 rfl)) (
  jm_gc (pu_aload _ _) (sn_aload_n (i := 0) (jm_dc dc_114_1 4 rfl)) (
  jm_gc (pu_ic _ _) (sn_iconst (jm_dc dc_114_1 5 rfl) (by decide)) (
  jm_gc (pu_iload _ _) (sn_iload (jm_dc dc_114_1 6 rfl)) (
  jm_gc (pu_iload _ _) (sn_iload_n (i := 1) (jm_dc dc_114_1 7 rfl)) (
  jm_gc (pu_iload _ _) (sn_iload (jm_dc dc_114_1 8 rfl)) (
  jm_gc (pu_iload _ _) (sn_iload_n (i := 1) (jm_dc dc_114_1 9 rfl)) (
  jm_gc (pu_callV _ _ _) (sn_callV (jm_dc dc_114_1 10 rfl) lk_9_76) (
  jm_gc (pu_iret) (sn_iret (jm_dc dc_114_1 11 rfl) rfl) (
  jm_gc (pu_aload _ _) (sn_aload_n (i := 0) (jm_dc dc_114_1 12 rfl)) (
  jm_gc (pu_iload _ _) (sn_iload_n (i := 1) (jm_dc dc_114_1 13 rfl)) (
  jm_gc (pu_lload _ _) (sn_lload_n (i := 2) (jm_dc dc_114_1 14 rfl)) (
  jm_gc (pu_callV _ _ _) (sn_callV (jm_dc dc_114_1 15 rfl) lk_9_155) (
  jm_gc (pu_istore _ _) (sn_istore (jm_dc dc_114_1 16 rfl)) (
  jm_gc (pu_iload _ _) (sn_iload (jm_dc dc_114_1 17 rfl)) (
  jm_gc (pu_ifne _) (sn_ifne (jm_dc dc_114_1 18 rfl) (by decide)) (
  jm_gc (pu_aload _ _) (sn_aload_n (i := 0) (jm_dc dc_114_1 19 rfl)) (
  jm_gc (pu_dup) (sn_dup (jm_dc dc_114_1 20 rfl)) (
  jm_gc (pu_getI _ _) (sn_getI (jm_dc dc_114_1 21 rfl) fl_9_31 (Or.inl rfl)) (
  jm_gc (pu_ic _ _) (sn_iconst (jm_dc dc_114_1 22 rfl) (by decide)) (
  jm_gc (pu_iload _ _) (sn_iload_n (i := 1) (jm_dc dc_114_1 23 rfl)) (
  jm_gc (pu_ibin _) (sn_ishl (jm_dc dc_114_1 24 rfl)) (
  jm_gn)))))))))))))))))))))))))
theorem dc_114_2 : ([(82, .ior, 1), (83, .putfield 31, 3), (86, .aload_n 0, 1), (87, .dup, 1), (88, .getfield 40, 3), (91, .iload 4, 2), (93, .iconst (-1), 1), (94, .ixor, 1), (95, .iand, 1), (96, .putfield 40, 3), (99, .iload 6, 2), (101, .ireturn, 1)] : List (Nat × Instr × Nat)).all (fun e => decide (decode prog_12_method_16_code e.1 = .ok e.2)) = true := by decide +kernel
abbrev cl_114_2 : List (Nat × jm_O) := [(82, op_ibin (fun x y => x ||| y)), (83, op_putI 9 3), (86, op_aload 0 1), (87, op_dup), (88, op_getI 9 4), (91, op_iload 4 2), (93, op_ic (-1) 1), (94, op_ibin (fun x y => x ^^^ y)), (95, op_ibin (fun x y => x &&& y)), (96, op_putI 9 4), (99, op_iload 6 2), (101, op_iret)]
set_option maxRecDepth 100000 in
theorem gl_114_2 : jm_gl "FrescoWall$Wall" prog_12_method_16_code 7 (Option.some Jvm.ClassFile.FieldType.int) false cl_114_2 :=
  jm_gc (pu_ibin _) (sn_ior (jm_dc dc_114_2 0 rfl)) (
  jm_gc (pu_putI _ _) (sn_putI (jm_dc dc_114_2 1 rfl) flw_9_31 rfl) (
  jm_gc (pu_aload _ _) (sn_aload_n (i := 0) (jm_dc dc_114_2 2 rfl)) (
  jm_gc (pu_dup) (sn_dup (jm_dc dc_114_2 3 rfl)) (
  jm_gc (pu_getI _ _) (sn_getI (jm_dc dc_114_2 4 rfl) fl_9_40 (Or.inl rfl)) (
  jm_gc (pu_iload _ _) (sn_iload (jm_dc dc_114_2 5 rfl)) (
  jm_gc (pu_ic _ _) (sn_iconst (jm_dc dc_114_2 6 rfl) (by decide)) (
  jm_gc (pu_ibin _) (sn_ixor (jm_dc dc_114_2 7 rfl)) (
  jm_gc (pu_ibin _) (sn_iand (jm_dc dc_114_2 8 rfl)) (
  jm_gc (pu_putI _ _) (sn_putI (jm_dc dc_114_2 9 rfl) flw_9_40 rfl) (
  jm_gc (pu_iload _ _) (sn_iload (jm_dc dc_114_2 10 rfl)) (
  jm_gc (pu_iret) (sn_iret (jm_dc dc_114_2 11 rfl) rfl) (
  jm_gn))))))))))))
theorem dc_115_0 : ([(0, .aload_n 0, 1), (1, .dup, 1), (2, .getfield 31, 3), (5, .iconst 1, 1), (6, .iload_n 1, 1), (7, .ishl, 1), (8, .iconst (-1), 1), (9, .ixor, 1), (10, .iand, 1), (11, .putfield 31, 3), (14, .aload_n 0, 1), (15, .iload_n 1, 1), (16, .invokevirtual 158, 3), (19, .ifCond .ne 8, 3), (22, .aload_n 0, 1), (23, .iload_n 1, 1), (24, .invokevirtual 161, 3), (27, .return_, 1)] : List (Nat × Instr × Nat)).all (fun e => decide (decode prog_12_method_17_code e.1 = .ok e.2)) = true := by decide +kernel
abbrev cl_115_0 : List (Nat × jm_O) := [(0, op_aload 0 1), (1, op_dup), (2, op_getI 9 3), (5, op_ic 1 1), (6, op_iload 1 1), (7, op_ibin (fun x y => x <<< (y &&& 31))), (8, op_ic (-1) 1), (9, op_ibin (fun x y => x ^^^ y)), (10, op_ibin (fun x y => x &&& y)), (11, op_putI 9 3), (14, op_aload 0 1), (15, op_iload 1 1), (16, op_callV 9 101 2), (19, op_ifne 27), (22, op_aload 0 1), (23, op_iload 1 1), (24, op_callV 9 117 2), (27, op_vret)]
set_option maxRecDepth 100000 in
theorem gl_115_0 : jm_gl "FrescoWall$Wall" prog_12_method_17_code 2 (Option.none : Option Jvm.ClassFile.FieldType) false cl_115_0 :=
  jm_gc (pu_aload _ _) (sn_aload_n (i := 0) (jm_dc dc_115_0 0 rfl)) (
  jm_gc (pu_dup) (sn_dup (jm_dc dc_115_0 1 rfl)) (
  jm_gc (pu_getI _ _) (sn_getI (jm_dc dc_115_0 2 rfl) fl_9_31 (Or.inl rfl)) (
  jm_gc (pu_ic _ _) (sn_iconst (jm_dc dc_115_0 3 rfl) (by decide)) (
  jm_gc (pu_iload _ _) (sn_iload_n (i := 1) (jm_dc dc_115_0 4 rfl)) (
  jm_gc (pu_ibin _) (sn_ishl (jm_dc dc_115_0 5 rfl)) (
  jm_gc (pu_ic _ _) (sn_iconst (jm_dc dc_115_0 6 rfl) (by decide)) (
  jm_gc (pu_ibin _) (sn_ixor (jm_dc dc_115_0 7 rfl)) (
  jm_gc (pu_ibin _) (sn_iand (jm_dc dc_115_0 8 rfl)) (
  jm_gc (pu_putI _ _) (sn_putI (jm_dc dc_115_0 9 rfl) flw_9_31 rfl) (
  jm_gc (pu_aload _ _) (sn_aload_n (i := 0) (jm_dc dc_115_0 10 rfl)) (
  jm_gc (pu_iload _ _) (sn_iload_n (i := 1) (jm_dc dc_115_0 11 rfl)) (
  jm_gc (pu_callV _ _ _) (sn_callV (jm_dc dc_115_0 12 rfl) lk_9_158) (
  jm_gc (pu_ifne _) (sn_ifne (jm_dc dc_115_0 13 rfl) (by decide)) (
  jm_gc (pu_aload _ _) (sn_aload_n (i := 0) (jm_dc dc_115_0 14 rfl)) (
  jm_gc (pu_iload _ _) (sn_iload_n (i := 1) (jm_dc dc_115_0 15 rfl)) (
  jm_gc (pu_callV _ _ _) (sn_callV (jm_dc dc_115_0 16 rfl) lk_9_161) (
  jm_gc (pu_vret) (sn_vret (jm_dc dc_115_0 17 rfl) rfl) (
  jm_gn))))))))))))))))))
theorem dc_116_0 : ([(0, .aload_n 0, 1), (1, .iload_n 1, 1), (2, .lload_n 2, 1), (3, .invokevirtual 155, 3), (6, .istore 4, 2), (8, .iload 4, 2), (10, .ifCond .ne 8, 3), (13, .aload_n 0, 1), (14, .iload_n 1, 1), (15, .invokevirtual 161, 3), (18, .iload 4, 2), (20, .ireturn, 1)] : List (Nat × Instr × Nat)).all (fun e => decide (decode prog_12_method_18_code e.1 = .ok e.2)) = true := by decide +kernel
abbrev cl_116_0 : List (Nat × jm_O) := [(0, op_aload 0 1), (1, op_iload 1 1), (2, op_lload 2 1), (3, op_callV 9 118 3), (6, op_istore 4 2), (8, op_iload 4 2), (10, op_ifne 18), (13, op_aload 0 1), (14, op_iload 1 1), (15, op_callV 9 117 2), (18, op_iload 4 2), (20, op_iret)]
set_option maxRecDepth 100000 in
theorem gl_116_0 : jm_gl "FrescoWall$Wall" prog_12_method_18_code 5 (Option.some Jvm.ClassFile.FieldType.int) false cl_116_0 :=
  jm_gc (pu_aload _ _) (sn_aload_n (i := 0) (jm_dc dc_116_0 0 rfl)) (
  jm_gc (pu_iload _ _) (sn_iload_n (i := 1) (jm_dc dc_116_0 1 rfl)) (
  jm_gc (pu_lload _ _) (sn_lload_n (i := 2) (jm_dc dc_116_0 2 rfl)) (
  jm_gc (pu_callV _ _ _) (sn_callV (jm_dc dc_116_0 3 rfl) lk_9_155) (
  jm_gc (pu_istore _ _) (sn_istore (jm_dc dc_116_0 4 rfl)) (
  jm_gc (pu_iload _ _) (sn_iload (jm_dc dc_116_0 5 rfl)) (
  jm_gc (pu_ifne _) (sn_ifne (jm_dc dc_116_0 6 rfl) (by decide)) (
  jm_gc (pu_aload _ _) (sn_aload_n (i := 0) (jm_dc dc_116_0 7 rfl)) (
  jm_gc (pu_iload _ _) (sn_iload_n (i := 1) (jm_dc dc_116_0 8 rfl)) (
  jm_gc (pu_callV _ _ _) (sn_callV (jm_dc dc_116_0 9 rfl) lk_9_161) (
  jm_gc (pu_iload _ _) (sn_iload (jm_dc dc_116_0 10 rfl)) (
  jm_gc (pu_iret) (sn_iret (jm_dc dc_116_0 11 rfl) rfl) (
  jm_gn))))))))))))
theorem dc_117_0 : ([(0, .aload_n 0, 1), (1, .aload_n 0, 1), (2, .getfield 40, 3), (5, .aload_n 0, 1), (6, .getfield 23, 3), (9, .getfield 35, 3), (12, .iload_n 1, 1), (13, .iaload, 1), (14, .iconst (-1), 1), (15, .ixor, 1), (16, .iand, 1), (17, .iconst 1, 1), (18, .iload_n 1, 1), (19, .ishl, 1), (20, .ior, 1), (21, .putfield 40, 3), (24, .return_, 1)] : List (Nat × Instr × Nat)).all (fun e => decide (decode prog_12_method_19_code e.1 = .ok e.2)) = true := by decide +kernel
abbrev cl_117_0 : List (Nat × jm_O) := [(0, op_aload 0 1), (1, op_aload 0 1), (2, op_getI 9 4), (5, op_aload 0 1), (6, op_getA 9 1), (9, op_getA 4 6), (12, op_iload 1 1), (13, op_iald 13), (14, op_ic (-1) 1), (15, op_ibin (fun x y => x ^^^ y)), (16, op_ibin (fun x y => x &&& y)), (17, op_ic 1 1), (18, op_iload 1 1), (19, op_ibin (fun x y => x <<< (y &&& 31))), (20, op_ibin (fun x y => x ||| y)), (21, op_putI 9 4), (24, op_vret)]
set_option maxRecDepth 100000 in
theorem gl_117_0 : jm_gl "FrescoWall$Wall" prog_12_method_19_code 2 (Option.none : Option Jvm.ClassFile.FieldType) false cl_117_0 :=
  jm_gc (pu_aload _ _) (sn_aload_n (i := 0) (jm_dc dc_117_0 0 rfl)) (
  jm_gc (pu_aload _ _) (sn_aload_n (i := 0) (jm_dc dc_117_0 1 rfl)) (
  jm_gc (pu_getI _ _) (sn_getI (jm_dc dc_117_0 2 rfl) fl_9_40 (Or.inl rfl)) (
  jm_gc (pu_aload _ _) (sn_aload_n (i := 0) (jm_dc dc_117_0 3 rfl)) (
  jm_gc (pu_getA _ _) (sn_getA (jm_dc dc_117_0 4 rfl) fl_9_23 rfl) (
  jm_gc (pu_getA _ _) (sn_getA (jm_dc dc_117_0 5 rfl) fl_9_35 rfl) (
  jm_gc (pu_iload _ _) (sn_iload_n (i := 1) (jm_dc dc_117_0 6 rfl)) (
  jm_gc (pu_iald _) (sn_iald (jm_dc dc_117_0 7 rfl)) (
  jm_gc (pu_ic _ _) (sn_iconst (jm_dc dc_117_0 8 rfl) (by decide)) (
  jm_gc (pu_ibin _) (sn_ixor (jm_dc dc_117_0 9 rfl)) (
  jm_gc (pu_ibin _) (sn_iand (jm_dc dc_117_0 10 rfl)) (
  jm_gc (pu_ic _ _) (sn_iconst (jm_dc dc_117_0 11 rfl) (by decide)) (
  jm_gc (pu_iload _ _) (sn_iload_n (i := 1) (jm_dc dc_117_0 12 rfl)) (
  jm_gc (pu_ibin _) (sn_ishl (jm_dc dc_117_0 13 rfl)) (
  jm_gc (pu_ibin _) (sn_ior (jm_dc dc_117_0 14 rfl)) (
  jm_gc (pu_putI _ _) (sn_putI (jm_dc dc_117_0 15 rfl) flw_9_40 rfl) (
  jm_gc (pu_vret) (sn_vret (jm_dc dc_117_0 16 rfl) rfl) (
  jm_gn)))))))))))))))))
theorem dc_118_0 : ([(0, .aload_n 0, 1), (1, .getfield 23, 3), (4, .getfield 35, 3), (7, .iload_n 1, 1), (8, .iaload, 1), (9, .istore 4, 2), (11, .aload_n 0, 1), (12, .iload 4, 2), (14, .aload_n 0, 1), (15, .getfield 9, 3), (18, .iload_n 1, 1), (19, .laload, 1), (20, .lload_n 2, 1), (21, .invokestatic 87, 3), (24, .aload_n 0, 1), (25, .invokevirtual 101, 3), (28, .iload 4, 2), (30, .iconst (-1), 1), (31, .ixor, 1), (32, .iand, 1), (33, .invokevirtual 105, 3), (36, .ireturn, 1)] : List (Nat × Instr × Nat)).all (fun e => decide (decode prog_12_method_20_code e.1 = .ok e.2)) = true := by decide +kernel
abbrev cl_118_0 : List (Nat × jm_O) := [(0, op_aload 0 1), (1, op_getA 9 1), (4, op_getA 4 6), (7, op_iload 1 1), (8, op_iald 13), (9, op_istore 4 2), (11, op_aload 0 1), (12, op_iload 4 2), (14, op_aload 0 1), (15, op_getA 9 2), (18, op_iload 1 1), (19, op_lald), (20, op_lload 2 1), (21, op_callS 316 2), (24, op_aload 0 1), (25, op_callV 9 103 1), (28, op_iload 4 2), (30, op_ic (-1) 1), (31, op_ibin (fun x y => x ^^^ y)), (32, op_ibin (fun x y => x &&& y)), (33, op_callV 9 106 4), (36, op_iret)]
set_option maxRecDepth 100000 in
theorem gl_118_0 : jm_gl "FrescoWall$Wall" prog_12_method_20_code 5 (Option.some Jvm.ClassFile.FieldType.int) false cl_118_0 :=
  jm_gc (pu_aload _ _) (sn_aload_n (i := 0) (jm_dc dc_118_0 0 rfl)) (
  jm_gc (pu_getA _ _) (sn_getA (jm_dc dc_118_0 1 rfl) fl_9_23 rfl) (
  jm_gc (pu_getA _ _) (sn_getA (jm_dc dc_118_0 2 rfl) fl_9_35 rfl) (
  jm_gc (pu_iload _ _) (sn_iload_n (i := 1) (jm_dc dc_118_0 3 rfl)) (
  jm_gc (pu_iald _) (sn_iald (jm_dc dc_118_0 4 rfl)) (
  jm_gc (pu_istore _ _) (sn_istore (jm_dc dc_118_0 5 rfl)) (
  jm_gc (pu_aload _ _) (sn_aload_n (i := 0) (jm_dc dc_118_0 6 rfl)) (
  jm_gc (pu_iload _ _) (sn_iload (jm_dc dc_118_0 7 rfl)) (
  jm_gc (pu_aload _ _) (sn_aload_n (i := 0) (jm_dc dc_118_0 8 rfl)) (
  jm_gc (pu_getA _ _) (sn_getA (jm_dc dc_118_0 9 rfl) fl_9_9 rfl) (
  jm_gc (pu_iload _ _) (sn_iload_n (i := 1) (jm_dc dc_118_0 10 rfl)) (
  jm_gc (pu_lald) (sn_lald (jm_dc dc_118_0 11 rfl)) (
  jm_gc (pu_lload _ _) (sn_lload_n (i := 2) (jm_dc dc_118_0 12 rfl)) (
  jm_gc (pu_callS _ _) (sn_callS (jm_dc dc_118_0 13 rfl) lk_9_87) (
  jm_gc (pu_aload _ _) (sn_aload_n (i := 0) (jm_dc dc_118_0 14 rfl)) (
  jm_gc (pu_callV _ _ _) (sn_callV (jm_dc dc_118_0 15 rfl) lk_9_101) (
  jm_gc (pu_iload _ _) (sn_iload (jm_dc dc_118_0 16 rfl)) (
  jm_gc (pu_ic _ _) (sn_iconst (jm_dc dc_118_0 17 rfl) (by decide)) (
  jm_gc (pu_ibin _) (sn_ixor (jm_dc dc_118_0 18 rfl)) (
  jm_gc (pu_ibin _) (sn_iand (jm_dc dc_118_0 19 rfl)) (
  jm_gc (pu_callV _ _ _) (sn_callV (jm_dc dc_118_0 20 rfl) lk_9_105) (
  jm_gc (pu_iret) (sn_iret (jm_dc dc_118_0 21 rfl) rfl) (
  jm_gn))))))))))))))))))))))
theorem dc_119_0 : ([(0, .lconst 0, 1), (1, .lstore_n 1, 1), (2, .iconst 0, 1), (3, .istore_n 3, 1), (4, .iload_n 3, 1), (5, .aload_n 0, 1), (6, .getfield 23, 3), (9, .getfield 165, 3), (12, .if_icmp .ge 72, 3), (15, .aload_n 0, 1), (16, .getfield 23, 3), (19, .iload_n 3, 1), (20, .invokevirtual 168, 3), (23, .ifCond .eq 55, 3), (26, .aload_n 0, 1), (27, .getfield 19, 3), (30, .aload_n 0, 1), (31, .getfield 23, 3), (34, .getfield 171, 3), (37, .iload_n 3, 1), (38, .iaload, 1), (39, .aload_n 0, 1), (40, .getfield 23, 3), (43, .getfield 174, 3), (46, .iload_n 3, 1)] : List (Nat × Instr × Nat)).all (fun e => decide (decode prog_12_method_21_code e.1 = .ok e.2)) = true := by decide +kernel
abbrev cl_119_0 : List (Nat × jm_O) := [(0, op_lc 0 1), (1, op_lstore 1 1), (2, op_ic 0 1), (3, op_istore 3 1), (4, op_iload 3 1), (5, op_aload 0 1), (6, op_getA 9 1), (9, op_getI 4 4), (12, op_cge 84), (15, op_aload 0 1), (16, op_getA 9 1), (19, op_iload 3 1), (20, op_callV 4 42 2), (23, op_ifeq 78), (26, op_aload 0 1), (27, op_getA 9 0), (30, op_aload 0 1), (31, op_getA 9 1), (34, op_getA 4 0), (37, op_iload 3 1), (38, op_iald 13), (39, op_aload 0 1), (40, op_getA 9 1), (43, op_getA 4 1), (46, op_iload 3 1)]
set_option maxRecDepth 100000 in
theorem gl_119_0 : jm_gl "FrescoWall$Wall" prog_12_method_21_code 4 (Option.some Jvm.ClassFile.FieldType.long) false cl_119_0 :=
  jm_gc (pu_lc _ _) (sn_lconst (jm_dc dc_119_0 0 rfl) (by decide)) (
  jm_gc (pu_lstore _ _) (sn_lstore_n (i := 1) (jm_dc dc_119_0 1 rfl)) (
  jm_gc (pu_ic _ _) (sn_iconst (jm_dc dc_119_0 2 rfl) (by decide)) (
  jm_gc (pu_istore _ _) (sn_istore_n (i := 3) (jm_dc dc_119_0 3 rfl)) (
  jm_gc (pu_iload _ _) (sn_iload_n (i := 3) (jm_dc dc_119_0 4 rfl)) (
  jm_gc (pu_aload _ _) (sn_aload_n (i := 0) (jm_dc dc_119_0 5 rfl)) (
  jm_gc (pu_getA _ _) (sn_getA (jm_dc dc_119_0 6 rfl) fl_9_23 rfl) (
  jm_gc (pu_getI _ _) (sn_getI (jm_dc dc_119_0 7 rfl) fl_9_165 (Or.inl rfl)) (
  jm_gc (pu_cge _) (sn_cge (jm_dc dc_119_0 8 rfl) (by decide)) (
  jm_gc (pu_aload _ _) (sn_aload_n (i := 0) (jm_dc dc_119_0 9 rfl)) (
  jm_gc (pu_getA _ _) (sn_getA (jm_dc dc_119_0 10 rfl) fl_9_23 rfl) (
  jm_gc (pu_iload _ _) (sn_iload_n (i := 3) (jm_dc dc_119_0 11 rfl)) (
  jm_gc (pu_callV _ _ _) (sn_callV (jm_dc dc_119_0 12 rfl) lk_9_168) (
  jm_gc (pu_ifeq _) (sn_ifeq (jm_dc dc_119_0 13 rfl) (by decide)) (
  jm_gc (pu_aload _ _) (sn_aload_n (i := 0) (jm_dc dc_119_0 14 rfl)) (
  jm_gc (pu_getA _ _) (sn_getA (jm_dc dc_119_0 15 rfl) fl_9_19 rfl) (
  jm_gc (pu_aload _ _) (sn_aload_n (i := 0) (jm_dc dc_119_0 16 rfl)) (
  jm_gc (pu_getA _ _) (sn_getA (jm_dc dc_119_0 17 rfl) fl_9_23 rfl) (
  jm_gc (pu_getA _ _) (sn_getA (jm_dc dc_119_0 18 rfl) fl_9_171 rfl) (
  jm_gc (pu_iload _ _) (sn_iload_n (i := 3) (jm_dc dc_119_0 19 rfl)) (
  jm_gc (pu_iald _) (sn_iald (jm_dc dc_119_0 20 rfl)) (
  jm_gc (pu_aload _ _) (sn_aload_n (i := 0) (jm_dc dc_119_0 21 rfl)) (
  jm_gc (pu_getA _ _) (sn_getA (jm_dc dc_119_0 22 rfl) fl_9_23 rfl) (
  jm_gc (pu_getA _ _) (sn_getA (jm_dc dc_119_0 23 rfl) fl_9_174 rfl) (
  jm_gc (pu_iload _ _) (sn_iload_n (i := 3) (jm_dc dc_119_0 24 rfl)) (
  jm_gn)))))))))))))))))))))))))
theorem dc_119_1 : ([(47, .iaload, 1), (48, .aload_n 0, 1), (49, .getfield 23, 3), (52, .getfield 177, 3), (55, .iload_n 3, 1), (56, .iaload, 1), (57, .aload_n 0, 1), (58, .getfield 23, 3), (61, .getfield 180, 3), (64, .iload_n 3, 1), (65, .iaload, 1), (66, .invokevirtual 183, 3), (69, .ifCond .eq 9, 3), (72, .lload_n 1, 1), (73, .lconst 1, 1), (74, .iload_n 3, 1), (75, .lshl, 1), (76, .lor, 1), (77, .lstore_n 1, 1), (78, .iinc 3 1, 3), (81, .goto (-77), 3), (84, .lload_n 1, 1), (85, .lreturn, 1)] : List (Nat × Instr × Nat)).all (fun e => decide (decode prog_12_method_21_code e.1 = .ok e.2)) = true := by decide +kernel
abbrev cl_119_1 : List (Nat × jm_O) := [(47, op_iald 13), (48, op_aload 0 1), (49, op_getA 9 1), (52, op_getA 4 2), (55, op_iload 3 1), (56, op_iald 13), (57, op_aload 0 1), (58, op_getA 9 1), (61, op_getA 4 3), (64, op_iload 3 1), (65, op_iald 13), (66, op_callV 3 38 5), (69, op_ifeq 78), (72, op_lload 1 1), (73, op_lc 1 1), (74, op_iload 3 1), (75, op_lsh (fun x y => x <<< (y.toInt64 &&& 63))), (76, op_lbin (fun x y => x ||| y)), (77, op_lstore 1 1), (78, op_iinc 3 1), (81, op_goto 4), (84, op_lload 1 1), (85, op_lret)]
set_option maxRecDepth 100000 in
theorem gl_119_1 : jm_gl "FrescoWall$Wall" prog_12_method_21_code 4 (Option.some Jvm.ClassFile.FieldType.long) false cl_119_1 :=
  jm_gc (pu_iald _) (sn_iald (jm_dc dc_119_1 0 rfl)) (
  jm_gc (pu_aload _ _) (sn_aload_n (i := 0) (jm_dc dc_119_1 1 rfl)) (
  jm_gc (pu_getA _ _) (sn_getA (jm_dc dc_119_1 2 rfl) fl_9_23 rfl) (
  jm_gc (pu_getA _ _) (sn_getA (jm_dc dc_119_1 3 rfl) fl_9_177 rfl) (
  jm_gc (pu_iload _ _) (sn_iload_n (i := 3) (jm_dc dc_119_1 4 rfl)) (
  jm_gc (pu_iald _) (sn_iald (jm_dc dc_119_1 5 rfl)) (
  jm_gc (pu_aload _ _) (sn_aload_n (i := 0) (jm_dc dc_119_1 6 rfl)) (
  jm_gc (pu_getA _ _) (sn_getA (jm_dc dc_119_1 7 rfl) fl_9_23 rfl) (
  jm_gc (pu_getA _ _) (sn_getA (jm_dc dc_119_1 8 rfl) fl_9_180 rfl) (
  jm_gc (pu_iload _ _) (sn_iload_n (i := 3) (jm_dc dc_119_1 9 rfl)) (
  jm_gc (pu_iald _) (sn_iald (jm_dc dc_119_1 10 rfl)) (
  jm_gc (pu_callV _ _ _) (sn_callV (jm_dc dc_119_1 11 rfl) lk_9_183) (
  jm_gc (pu_ifeq _) (sn_ifeq (jm_dc dc_119_1 12 rfl) (by decide)) (
  jm_gc (pu_lload _ _) (sn_lload_n (i := 1) (jm_dc dc_119_1 13 rfl)) (
  jm_gc (pu_lc _ _) (sn_lconst (jm_dc dc_119_1 14 rfl) (by decide)) (
  jm_gc (pu_iload _ _) (sn_iload_n (i := 3) (jm_dc dc_119_1 15 rfl)) (
  jm_gc (pu_lsh _) (sn_lshl (jm_dc dc_119_1 16 rfl)) (
  jm_gc (pu_lbin _) (sn_lor (jm_dc dc_119_1 17 rfl)) (
  jm_gc (pu_lstore _ _) (sn_lstore_n (i := 1) (jm_dc dc_119_1 18 rfl)) (
  jm_gc (pu_iinc _ _) (sn_iinc (jm_dc dc_119_1 19 rfl) (by decide)) (
  jm_gc (pu_goto _) (sn_goto (jm_dc dc_119_1 20 rfl) (by decide)) (
  jm_gc (pu_lload _ _) (sn_lload_n (i := 1) (jm_dc dc_119_1 21 rfl)) (
  jm_gc (pu_lret) (sn_lret (jm_dc dc_119_1 22 rfl) rfl) (
  jm_gn)))))))))))))))))))))))
theorem dc_120_0 : ([(0, .aload_n 0, 1), (1, .getfield 31, 3), (4, .ifCond .ne 7, 3), (7, .iconst 0, 1), (8, .goto 18, 3), (11, .aload_n 0, 1), (12, .getfield 23, 3), (15, .aload_n 0, 1), (16, .getfield 31, 3), (19, .aload_n 0, 1), (20, .invokevirtual 187, 3), (23, .invokevirtual 191, 3), (26, .ireturn, 1)] : List (Nat × Instr × Nat)).all (fun e => decide (decode prog_12_method_22_code e.1 = .ok e.2)) = true := by decide +kernel
abbrev cl_120_0 : List (Nat × jm_O) := [(0, op_aload 0 1), (1, op_getI 9 3), (4, op_ifne 11), (7, op_ic 0 1), (8, op_goto 26), (11, op_aload 0 1), (12, op_getA 9 1), (15, op_aload 0 1), (16, op_getI 9 3), (19, op_aload 0 1), (20, op_callV 9 119 1), (23, op_callV 4 48 3), (26, op_iret)]
set_option maxRecDepth 100000 in
theorem gl_120_0 : jm_gl "FrescoWall$Wall" prog_12_method_22_code 1 (Option.some Jvm.ClassFile.FieldType.int) false cl_120_0 :=
  jm_gc (pu_aload _ _) (sn_aload_n (i := 0) (jm_dc dc_120_0 0 rfl)) (
  jm_gc (pu_getI _ _) (sn_getI (jm_dc dc_120_0 1 rfl) fl_9_31 (Or.inl rfl)) (
  jm_gc (pu_ifne _) (sn_ifne (jm_dc dc_120_0 2 rfl) (by decide)) (
  jm_gc (pu_ic _ _) (sn_iconst (jm_dc dc_120_0 3 rfl) (by decide)) (
  jm_gc (pu_goto _) (sn_goto (jm_dc dc_120_0 4 rfl) (by decide)) (
  jm_gc (pu_aload _ _) (sn_aload_n (i := 0) (jm_dc dc_120_0 5 rfl)) (
  jm_gc (pu_getA _ _) (sn_getA (jm_dc dc_120_0 6 rfl) fl_9_23 rfl) (
  jm_gc (pu_aload _ _) (sn_aload_n (i := 0) (jm_dc dc_120_0 7 rfl)) (
  jm_gc (pu_getI _ _) (sn_getI (jm_dc dc_120_0 8 rfl) fl_9_31 (Or.inl rfl)) (
  jm_gc (pu_aload _ _) (sn_aload_n (i := 0) (jm_dc dc_120_0 9 rfl)) (
  jm_gc (pu_callV _ _ _) (sn_callV (jm_dc dc_120_0 10 rfl) lk_9_187) (
  jm_gc (pu_callV _ _ _) (sn_callV (jm_dc dc_120_0 11 rfl) lk_9_191) (
  jm_gc (pu_iret) (sn_iret (jm_dc dc_120_0 12 rfl) rfl) (
  jm_gn)))))))))))))
theorem dc_121_0 : ([(0, .aload_n 0, 1), (1, .iload_n 1, 1), (2, .invokevirtual 158, 3), (5, .ifCond .ne 5, 3), (8, .iconst (-1), 1), (9, .ireturn, 1), (10, .aload_n 0, 1), (11, .invokevirtual 187, 3), (14, .lstore_n 2, 1), (15, .aload_n 0, 1), (16, .getfield 23, 3), (19, .iload_n 1, 1), (20, .lload_n 2, 1), (21, .invokevirtual 145, 3), (24, .iconst (-1), 1), (25, .istore 4, 2), (27, .iconst 0, 1), (28, .istore 5, 2), (30, .iload 5, 2), (32, .aload_n 0, 1), (33, .getfield 19, 3), (36, .getfield 43, 3), (39, .if_icmp .ge 75, 3), (42, .aload_n 0, 1), (43, .iload 5, 2)] : List (Nat × Instr × Nat)).all (fun e => decide (decode prog_12_method_23_code e.1 = .ok e.2)) = true := by decide +kernel
abbrev cl_121_0 : List (Nat × jm_O) := [(0, op_aload 0 1), (1, op_iload 1 1), (2, op_callV 9 101 2), (5, op_ifne 10), (8, op_ic (-1) 1), (9, op_iret), (10, op_aload 0 1), (11, op_callV 9 119 1), (14, op_lstore 2 1), (15, op_aload 0 1), (16, op_getA 9 1), (19, op_iload 1 1), (20, op_lload 2 1), (21, op_callV 4 52 3), (24, op_ic (-1) 1), (25, op_istore 4 2), (27, op_ic 0 1), (28, op_istore 5 2), (30, op_iload 5 2), (32, op_aload 0 1), (33, op_getA 9 0), (36, op_getI 3 1), (39, op_cge 114), (42, op_aload 0 1), (43, op_iload 5 2)]
set_option maxRecDepth 100000 in
theorem gl_121_0 : jm_gl "FrescoWall$Wall" prog_12_method_23_code 7 (Option.some Jvm.ClassFile.FieldType.int) false cl_121_0 :=
  jm_gc (pu_aload _ _) (sn_aload_n (i := 0) (jm_dc dc_121_0 0 rfl)) (
  jm_gc (pu_iload _ _) (sn_iload_n (i := 1) (jm_dc dc_121_0 1 rfl)) (
  jm_gc (pu_callV _ _ _) (sn_callV (jm_dc dc_121_0 2 rfl) lk_9_158) (
  jm_gc (pu_ifne _) (sn_ifne (jm_dc dc_121_0 3 rfl) (by decide)) (
  jm_gc (pu_ic _ _) (sn_iconst (jm_dc dc_121_0 4 rfl) (by decide)) (
  jm_gc (pu_iret) (sn_iret (jm_dc dc_121_0 5 rfl) rfl) (
  jm_gc (pu_aload _ _) (sn_aload_n (i := 0) (jm_dc dc_121_0 6 rfl)) (
  jm_gc (pu_callV _ _ _) (sn_callV (jm_dc dc_121_0 7 rfl) lk_9_187) (
  jm_gc (pu_lstore _ _) (sn_lstore_n (i := 2) (jm_dc dc_121_0 8 rfl)) (
  jm_gc (pu_aload _ _) (sn_aload_n (i := 0) (jm_dc dc_121_0 9 rfl)) (
  jm_gc (pu_getA _ _) (sn_getA (jm_dc dc_121_0 10 rfl) fl_9_23 rfl) (
  jm_gc (pu_iload _ _) (sn_iload_n (i := 1) (jm_dc dc_121_0 11 rfl)) (
  jm_gc (pu_lload _ _) (sn_lload_n (i := 2) (jm_dc dc_121_0 12 rfl)) (
  jm_gc (pu_callV _ _ _) (sn_callV (jm_dc dc_121_0 13 rfl) lk_9_145) (
  jm_gc (pu_ic _ _) (sn_iconst (jm_dc dc_121_0 14 rfl) (by decide)) (
  jm_gc (pu_istore _ _) (sn_istore (jm_dc dc_121_0 15 rfl)) (
  jm_gc (pu_ic _ _) (sn_iconst (jm_dc dc_121_0 16 rfl) (by decide)) (
  jm_gc (pu_istore _ _) (sn_istore (jm_dc dc_121_0 17 rfl)) (
  jm_gc (pu_iload _ _) (sn_iload (jm_dc dc_121_0 18 rfl)) (
  jm_gc (pu_aload _ _) (sn_aload_n (i := 0) (jm_dc dc_121_0 19 rfl)) (
  jm_gc (pu_getA _ _) (sn_getA (jm_dc dc_121_0 20 rfl) fl_9_19 rfl) (
  jm_gc (pu_getI _ _) (sn_getI (jm_dc dc_121_0 21 rfl) fl_9_43 (Or.inl rfl)) (
  jm_gc (pu_cge _) (sn_cge (jm_dc dc_121_0 22 rfl) (by decide)) (
  jm_gc (pu_aload _ _) (sn_aload_n (i := 0) (jm_dc dc_121_0 23 rfl)) (
  jm_gc (pu_iload _ _) (sn_iload (jm_dc dc_121_0 24 rfl)) (
  jm_gn)))))))))))))))))))))))))
theorem dc_121_1 : ([(45, .invokevirtual 194, 3), (48, .ifCond .eq 20, 3), (51, .aload_n 0, 1), (52, .getfield 23, 3), (55, .getfield 197, 3), (58, .iload 5, 2), (60, .iaload, 1), (61, .ifCond .lt 7, 3), (64, .iconst 1, 1), (65, .goto 4, 3), (68, .iconst 0, 1), (69, .istore 6, 2), (71, .iload 6, 2), (73, .ifCond .eq 35, 3), (76, .iload 4, 2), (78, .ifCond .lt 26, 3), (81, .aload_n 0, 1), (82, .getfield 23, 3), (85, .getfield 197, 3), (88, .iload 5, 2), (90, .iaload, 1), (91, .aload_n 0, 1), (92, .getfield 23, 3), (95, .getfield 197, 3), (98, .iload 4, 2)] : List (Nat × Instr × Nat)).all (fun e => decide (decode prog_12_method_23_code e.1 = .ok e.2)) = true := by decide +kernel
abbrev cl_121_1 : List (Nat × jm_O) := [(45, op_callV 9 100 2), (48, op_ifeq 68), (51, op_aload 0 1), (52, op_getA 9 1), (55, op_getA 4 7), (58, op_iload 5 2), (60, op_iald 13), (61, op_iflt 68), (64, op_ic 1 1), (65, op_goto 69), (68, op_ic 0 1), (69, op_istore 6 2), (71, op_iload 6 2), (73, op_ifeq 108), (76, op_iload 4 2), (78, op_iflt 104), (81, op_aload 0 1), (82, op_getA 9 1), (85, op_getA 4 7), (88, op_iload 5 2), (90, op_iald 13), (91, op_aload 0 1), (92, op_getA 9 1), (95, op_getA 4 7), (98, op_iload 4 2)]
set_option maxRecDepth 100000 in
theorem gl_121_1 : jm_gl "FrescoWall$Wall" prog_12_method_23_code 7 (Option.some Jvm.ClassFile.FieldType.int) false cl_121_1 :=
  jm_gc (pu_callV _ _ _) (sn_callV (jm_dc dc_121_1 0 rfl) lk_9_194) (
  jm_gc (pu_ifeq _) (sn_ifeq (jm_dc dc_121_1 1 rfl) (by decide)) (
  jm_gc (pu_aload _ _) (sn_aload_n (i := 0) (jm_dc dc_121_1 2 rfl)) (
  jm_gc (pu_getA _ _) (sn_getA (jm_dc dc_121_1 3 rfl) fl_9_23 rfl) (
  jm_gc (pu_getA _ _) (sn_getA (jm_dc dc_121_1 4 rfl) fl_9_197 rfl) (
  jm_gc (pu_iload _ _) (sn_iload (jm_dc dc_121_1 5 rfl)) (
  jm_gc (pu_iald _) (sn_iald (jm_dc dc_121_1 6 rfl)) (
  jm_gc (pu_iflt _) (sn_iflt (jm_dc dc_121_1 7 rfl) (by decide)) (
  jm_gc (pu_ic _ _) (sn_iconst (jm_dc dc_121_1 8 rfl) (by decide)) (
  jm_gc (pu_goto _) (sn_goto (jm_dc dc_121_1 9 rfl) (by decide)) (
  jm_gc (pu_ic _ _) (sn_iconst (jm_dc dc_121_1 10 rfl) (by decide)) (
  jm_gc (pu_istore _ _) (sn_istore (jm_dc dc_121_1 11 rfl)) (
  jm_gc (pu_iload _ _) (sn_iload (jm_dc dc_121_1 12 rfl)) (
  jm_gc (pu_ifeq _) (sn_ifeq (jm_dc dc_121_1 13 rfl) (by decide)) (
  jm_gc (pu_iload _ _) (sn_iload (jm_dc dc_121_1 14 rfl)) (
  jm_gc (pu_iflt _) (sn_iflt (jm_dc dc_121_1 15 rfl) (by decide)) (
  jm_gc (pu_aload _ _) (sn_aload_n (i := 0) (jm_dc dc_121_1 16 rfl)) (
  jm_gc (pu_getA _ _) (sn_getA (jm_dc dc_121_1 17 rfl) fl_9_23 rfl) (
  jm_gc (pu_getA _ _) (sn_getA (jm_dc dc_121_1 18 rfl) fl_9_197 rfl) (
  jm_gc (pu_iload _ _) (sn_iload (jm_dc dc_121_1 19 rfl)) (
  jm_gc (pu_iald _) (sn_iald (jm_dc dc_121_1 20 rfl)) (
  jm_gc (pu_aload _ _) (sn_aload_n (i := 0) (jm_dc dc_121_1 21 rfl)) (
  jm_gc (pu_getA _ _) (sn_getA (jm_dc dc_121_1 22 rfl) fl_9_23 rfl) (
  jm_gc (pu_getA _ _) (sn_getA (jm_dc dc_121_1 23 rfl) fl_9_197 rfl) (
  jm_gc (pu_iload _ _) (sn_iload (jm_dc dc_121_1 24 rfl)) (
  jm_gn)))))))))))))))))))))))))
theorem dc_121_2 : ([(100, .iaload, 1), (101, .if_icmp .ge 7, 3), (104, .iload 5, 2), (106, .istore 4, 2), (108, .iinc 5 1, 3), (111, .goto (-81), 3), (114, .iload 4, 2), (116, .ifCond .ge 7, 3), (119, .iconst (-1), 1), (120, .goto 13, 3), (123, .aload_n 0, 1), (124, .getfield 23, 3), (127, .iload 4, 2), (129, .lload_n 2, 1), (130, .invokevirtual 148, 3), (133, .ireturn, 1)] : List (Nat × Instr × Nat)).all (fun e => decide (decode prog_12_method_23_code e.1 = .ok e.2)) = true := by decide +kernel
abbrev cl_121_2 : List (Nat × jm_O) := [(100, op_iald 13), (101, op_cge 108), (104, op_iload 5 2), (106, op_istore 4 2), (108, op_iinc 5 1), (111, op_goto 30), (114, op_iload 4 2), (116, op_ifge 123), (119, op_ic (-1) 1), (120, op_goto 133), (123, op_aload 0 1), (124, op_getA 9 1), (127, op_iload 4 2), (129, op_lload 2 1), (130, op_callV 4 54 3), (133, op_iret)]
set_option maxRecDepth 100000 in
theorem gl_121_2 : jm_gl "FrescoWall$Wall" prog_12_method_23_code 7 (Option.some Jvm.ClassFile.FieldType.int) false cl_121_2 :=
  jm_gc (pu_iald _) (sn_iald (jm_dc dc_121_2 0 rfl)) (
  jm_gc (pu_cge _) (sn_cge (jm_dc dc_121_2 1 rfl) (by decide)) (
  jm_gc (pu_iload _ _) (sn_iload (jm_dc dc_121_2 2 rfl)) (
  jm_gc (pu_istore _ _) (sn_istore (jm_dc dc_121_2 3 rfl)) (
  jm_gc (pu_iinc _ _) (sn_iinc (jm_dc dc_121_2 4 rfl) (by decide)) (
  jm_gc (pu_goto _) (sn_goto (jm_dc dc_121_2 5 rfl) (by decide)) (
  jm_gc (pu_iload _ _) (sn_iload (jm_dc dc_121_2 6 rfl)) (
  jm_gc (pu_ifge _) (sn_ifge (jm_dc dc_121_2 7 rfl) (by decide)) (
  jm_gc (pu_ic _ _) (sn_iconst (jm_dc dc_121_2 8 rfl) (by decide)) (
  jm_gc (pu_goto _) (sn_goto (jm_dc dc_121_2 9 rfl) (by decide)) (
  jm_gc (pu_aload _ _) (sn_aload_n (i := 0) (jm_dc dc_121_2 10 rfl)) (
  jm_gc (pu_getA _ _) (sn_getA (jm_dc dc_121_2 11 rfl) fl_9_23 rfl) (
  jm_gc (pu_iload _ _) (sn_iload (jm_dc dc_121_2 12 rfl)) (
  jm_gc (pu_lload _ _) (sn_lload_n (i := 2) (jm_dc dc_121_2 13 rfl)) (
  jm_gc (pu_callV _ _ _) (sn_callV (jm_dc dc_121_2 14 rfl) lk_9_148) (
  jm_gc (pu_iret) (sn_iret (jm_dc dc_121_2 15 rfl) rfl) (
  jm_gn))))))))))))))))
def cd_0 (pc : Nat) : jm_O := jm_lu cl_0_0 pc
theorem ok_0 (pc : Nat) : jm_pu (cd_0 pc) ∧ jm_snd "FrescoWall$Arranger" prog_2_method_1_code 2 (Option.none : Option Jvm.ClassFile.FieldType) true pc (cd_0 pc) := jm_lu_ok _ gl_0_0 pc
def cd_1 (pc : Nat) : jm_O := jm_lu cl_1_0 pc
theorem ok_1 (pc : Nat) : jm_pu (cd_1 pc) ∧ jm_snd "FrescoWall$Arranger" prog_2_method_2_code 2 (Option.some Jvm.ClassFile.FieldType.boolean) false pc (cd_1 pc) := jm_lu_ok _ gl_1_0 pc
def cd_2 (pc : Nat) : jm_O := jm_lu cl_2_0 pc
theorem ok_2 (pc : Nat) : jm_pu (cd_2 pc) ∧ jm_snd "FrescoWall$Arranger" prog_2_method_3_code 3 (Option.some Jvm.ClassFile.FieldType.long) false pc (cd_2 pc) := jm_lu_ok _ gl_2_0 pc
def cd_3 (pc : Nat) : jm_O := if pc < 39 then jm_lu cl_3_0 pc else if pc < 80 then jm_lu cl_3_1 pc else if pc < 123 then jm_lu cl_3_2 pc else jm_lu cl_3_3 pc
theorem ok_3 (pc : Nat) : jm_pu (cd_3 pc) ∧ jm_snd "FrescoWall$Arranger" prog_2_method_4_code 4 (Option.some Jvm.ClassFile.FieldType.boolean) false pc (cd_3 pc) := jm_if2 (jm_lu_ok _ gl_3_0 pc) (jm_if2 (jm_lu_ok _ gl_3_1 pc) (jm_if2 (jm_lu_ok _ gl_3_2 pc) (jm_lu_ok _ gl_3_3 pc)))
def cd_4 (pc : Nat) : jm_O := if pc < 47 then jm_lu cl_4_0 pc else if pc < 94 then jm_lu cl_4_1 pc else jm_lu cl_4_2 pc
theorem ok_4 (pc : Nat) : jm_pu (cd_4 pc) ∧ jm_snd "FrescoWall$Arranger" prog_2_method_5_code 8 (Option.none : Option Jvm.ClassFile.FieldType) false pc (cd_4 pc) := jm_if2 (jm_lu_ok _ gl_4_0 pc) (jm_if2 (jm_lu_ok _ gl_4_1 pc) (jm_lu_ok _ gl_4_2 pc))
def cd_5 (pc : Nat) : jm_O := if pc < 41 then jm_lu cl_5_0 pc else jm_lu cl_5_1 pc
theorem ok_5 (pc : Nat) : jm_pu (cd_5 pc) ∧ jm_snd "FrescoWall$Arranger" prog_2_method_6_code 6 (Option.none : Option Jvm.ClassFile.FieldType) false pc (cd_5 pc) := jm_if2 (jm_lu_ok _ gl_5_0 pc) (jm_lu_ok _ gl_5_1 pc)
def cd_6 (pc : Nat) : jm_O := if pc < 45 then jm_lu cl_6_0 pc else jm_lu cl_6_1 pc
theorem ok_6 (pc : Nat) : jm_pu (cd_6 pc) ∧ jm_snd "FrescoWall$Arranger" prog_2_method_7_code 6 (Option.some Jvm.ClassFile.FieldType.int) false pc (cd_6 pc) := jm_if2 (jm_lu_ok _ gl_6_0 pc) (jm_lu_ok _ gl_6_1 pc)
def cd_7 (pc : Nat) : jm_O := jm_lu cl_7_0 pc
theorem ok_7 (pc : Nat) : jm_pu (cd_7 pc) ∧ jm_snd "FrescoWall$Arranger" prog_2_method_8_code 2 (Option.none : Option Jvm.ClassFile.FieldType) false pc (cd_7 pc) := jm_lu_ok _ gl_7_0 pc
def cd_8 (pc : Nat) : jm_O := if pc < 38 then jm_lu cl_8_0 pc else if pc < 84 then jm_lu cl_8_1 pc else if pc < 131 then jm_lu cl_8_2 pc else jm_lu cl_8_3 pc
theorem ok_8 (pc : Nat) : jm_pu (cd_8 pc) ∧ jm_snd "FrescoWall$Arranger" prog_2_method_9_code 9 (Option.none : Option Jvm.ClassFile.FieldType) false pc (cd_8 pc) := jm_if2 (jm_lu_ok _ gl_8_0 pc) (jm_if2 (jm_lu_ok _ gl_8_1 pc) (jm_if2 (jm_lu_ok _ gl_8_2 pc) (jm_lu_ok _ gl_8_3 pc)))
def cd_9 (pc : Nat) : jm_O := if pc < 42 then jm_lu cl_9_0 pc else if pc < 87 then jm_lu cl_9_1 pc else if pc < 138 then jm_lu cl_9_2 pc else jm_lu cl_9_3 pc
theorem ok_9 (pc : Nat) : jm_pu (cd_9 pc) ∧ jm_snd "FrescoWall$Arranger" prog_2_method_10_code 10 (Option.none : Option Jvm.ClassFile.FieldType) false pc (cd_9 pc) := jm_if2 (jm_lu_ok _ gl_9_0 pc) (jm_if2 (jm_lu_ok _ gl_9_1 pc) (jm_if2 (jm_lu_ok _ gl_9_2 pc) (jm_lu_ok _ gl_9_3 pc)))
def cd_10 (pc : Nat) : jm_O := jm_lu cl_10_0 pc
theorem ok_10 (pc : Nat) : jm_pu (cd_10 pc) ∧ jm_snd "FrescoWall$Arranger" prog_2_method_11_code 2 (Option.some Jvm.ClassFile.FieldType.int) false pc (cd_10 pc) := jm_lu_ok _ gl_10_0 pc
def cd_11 (pc : Nat) : jm_O := if pc < 46 then jm_lu cl_11_0 pc else jm_lu cl_11_1 pc
theorem ok_11 (pc : Nat) : jm_pu (cd_11 pc) ∧ jm_snd "FrescoWall$Arranger" prog_2_method_12_code 6 (Option.some Jvm.ClassFile.FieldType.boolean) false pc (cd_11 pc) := jm_if2 (jm_lu_ok _ gl_11_0 pc) (jm_lu_ok _ gl_11_1 pc)
def cd_12 (pc : Nat) : jm_O := jm_lu cl_12_0 pc
theorem ok_12 (pc : Nat) : jm_pu (cd_12 pc) ∧ jm_snd "FrescoWall$Arranger" prog_2_method_13_code 6 (Option.none : Option Jvm.ClassFile.FieldType) false pc (cd_12 pc) := jm_lu_ok _ gl_12_0 pc
def cd_13 (pc : Nat) : jm_O := if pc < 51 then jm_lu cl_13_0 pc else if pc < 106 then jm_lu cl_13_1 pc else if pc < 160 then jm_lu cl_13_2 pc else if pc < 213 then jm_lu cl_13_3 pc else jm_lu cl_13_4 pc
theorem ok_13 (pc : Nat) : jm_pu (cd_13 pc) ∧ jm_snd "FrescoWall$Bit" prog_3_method_1_code 10 (Option.none : Option Jvm.ClassFile.FieldType) true pc (cd_13 pc) := jm_if2 (jm_lu_ok _ gl_13_0 pc) (jm_if2 (jm_lu_ok _ gl_13_1 pc) (jm_if2 (jm_lu_ok _ gl_13_2 pc) (jm_if2 (jm_lu_ok _ gl_13_3 pc) (jm_lu_ok _ gl_13_4 pc))))
def cd_14 (pc : Nat) : jm_O := if pc < 36 then jm_lu cl_14_0 pc else jm_lu cl_14_1 pc
theorem ok_14 (pc : Nat) : jm_pu (cd_14 pc) ∧ jm_snd "FrescoWall$Bit" prog_3_method_2_code 5 (Option.none : Option Jvm.ClassFile.FieldType) false pc (cd_14 pc) := jm_if2 (jm_lu_ok _ gl_14_0 pc) (jm_lu_ok _ gl_14_1 pc)
def cd_15 (pc : Nat) : jm_O := jm_lu cl_15_0 pc
theorem ok_15 (pc : Nat) : jm_pu (cd_15 pc) ∧ jm_snd "FrescoWall$Bit" prog_3_method_3_code 2 (Option.some Jvm.ClassFile.FieldType.int) false pc (cd_15 pc) := jm_lu_ok _ gl_15_0 pc
def cd_16 (pc : Nat) : jm_O := if pc < 51 then jm_lu cl_16_0 pc else if pc < 96 then jm_lu cl_16_1 pc else jm_lu cl_16_2 pc
theorem ok_16 (pc : Nat) : jm_pu (cd_16 pc) ∧ jm_snd "FrescoWall$Bit" prog_3_method_4_code 13 (Option.some Jvm.ClassFile.FieldType.int) false pc (cd_16 pc) := jm_if2 (jm_lu_ok _ gl_16_0 pc) (jm_if2 (jm_lu_ok _ gl_16_1 pc) (jm_lu_ok _ gl_16_2 pc))
def cd_17 (pc : Nat) : jm_O := if pc < 47 then jm_lu cl_17_0 pc else jm_lu cl_17_1 pc
theorem ok_17 (pc : Nat) : jm_pu (cd_17 pc) ∧ jm_snd "FrescoWall$Bit" prog_3_method_5_code 6 (Option.some Jvm.ClassFile.FieldType.boolean) false pc (cd_17 pc) := jm_if2 (jm_lu_ok _ gl_17_0 pc) (jm_lu_ok _ gl_17_1 pc)
def cd_18 (pc : Nat) : jm_O := if pc < 42 then jm_lu cl_18_0 pc else if pc < 82 then jm_lu cl_18_1 pc else if pc < 129 then jm_lu cl_18_2 pc else jm_lu cl_18_3 pc
theorem ok_18 (pc : Nat) : jm_pu (cd_18 pc) ∧ jm_snd "FrescoWall$Bit" prog_3_method_6_code 10 (Option.some Jvm.ClassFile.FieldType.int) false pc (cd_18 pc) := jm_if2 (jm_lu_ok _ gl_18_0 pc) (jm_if2 (jm_lu_ok _ gl_18_1 pc) (jm_if2 (jm_lu_ok _ gl_18_2 pc) (jm_lu_ok _ gl_18_3 pc)))
def cd_29 (pc : Nat) : jm_O := if pc < 48 then jm_lu cl_29_0 pc else jm_lu cl_29_1 pc
theorem ok_29 (pc : Nat) : jm_pu (cd_29 pc) ∧ jm_snd "FrescoWall$Fits" prog_5_method_1_code 2 (Option.none : Option Jvm.ClassFile.FieldType) true pc (cd_29 pc) := jm_if2 (jm_lu_ok _ gl_29_0 pc) (jm_lu_ok _ gl_29_1 pc)
def cd_30 (pc : Nat) : jm_O := jm_lu cl_30_0 pc
theorem ok_30 (pc : Nat) : jm_pu (cd_30 pc) ∧ jm_snd "FrescoWall$Fits" prog_5_method_2_code 2 (Option.none : Option Jvm.ClassFile.FieldType) false pc (cd_30 pc) := jm_lu_ok _ gl_30_0 pc
def cd_31 (pc : Nat) : jm_O := jm_lu cl_31_0 pc
theorem ok_31 (pc : Nat) : jm_pu (cd_31 pc) ∧ jm_snd "FrescoWall$Fits" prog_5_method_3_code 1 (Option.some Jvm.ClassFile.FieldType.int) false pc (cd_31 pc) := jm_lu_ok _ gl_31_0 pc
def cd_32 (pc : Nat) : jm_O := if pc < 48 then jm_lu cl_32_0 pc else if pc < 99 then jm_lu cl_32_1 pc else if pc < 149 then jm_lu cl_32_2 pc else jm_lu cl_32_3 pc
theorem ok_32 (pc : Nat) : jm_pu (cd_32 pc) ∧ jm_snd "FrescoWall$Fits" prog_5_method_4_code 11 (Option.some Jvm.ClassFile.FieldType.long) false pc (cd_32 pc) := jm_if2 (jm_lu_ok _ gl_32_0 pc) (jm_if2 (jm_lu_ok _ gl_32_1 pc) (jm_if2 (jm_lu_ok _ gl_32_2 pc) (jm_lu_ok _ gl_32_3 pc)))
def cd_33 (pc : Nat) : jm_O := if pc < 41 then jm_lu cl_33_0 pc else if pc < 96 then jm_lu cl_33_1 pc else jm_lu cl_33_2 pc
theorem ok_33 (pc : Nat) : jm_pu (cd_33 pc) ∧ jm_snd "FrescoWall$Fits" prog_5_method_5_code 9 (Option.some Jvm.ClassFile.FieldType.int) false pc (cd_33 pc) := jm_if2 (jm_lu_ok _ gl_33_0 pc) (jm_if2 (jm_lu_ok _ gl_33_1 pc) (jm_lu_ok _ gl_33_2 pc))
def cd_34 (pc : Nat) : jm_O := if pc < 46 then jm_lu cl_34_0 pc else jm_lu cl_34_1 pc
theorem ok_34 (pc : Nat) : jm_pu (cd_34 pc) ∧ jm_snd "FrescoWall$Fits" prog_5_method_6_code 8 (Option.some Jvm.ClassFile.FieldType.int) false pc (cd_34 pc) := jm_if2 (jm_lu_ok _ gl_34_0 pc) (jm_lu_ok _ gl_34_1 pc)
def cd_35 (pc : Nat) : jm_O := jm_lu cl_35_0 pc
theorem ok_35 (pc : Nat) : jm_pu (cd_35 pc) ∧ jm_snd "FrescoWall$Fits" prog_5_method_7_code 3 (Option.some Jvm.ClassFile.FieldType.int) false pc (cd_35 pc) := jm_lu_ok _ gl_35_0 pc
def cd_36 (pc : Nat) : jm_O := if pc < 39 then jm_lu cl_36_0 pc else jm_lu cl_36_1 pc
theorem ok_36 (pc : Nat) : jm_pu (cd_36 pc) ∧ jm_snd "FrescoWall$Fits" prog_5_method_8_code 4 (Option.none : Option Jvm.ClassFile.FieldType) false pc (cd_36 pc) := jm_if2 (jm_lu_ok _ gl_36_0 pc) (jm_lu_ok _ gl_36_1 pc)
def cd_37 (pc : Nat) : jm_O := if pc < 44 then jm_lu cl_37_0 pc else if pc < 87 then jm_lu cl_37_1 pc else if pc < 135 then jm_lu cl_37_2 pc else if pc < 188 then jm_lu cl_37_3 pc else jm_lu cl_37_4 pc
theorem ok_37 (pc : Nat) : jm_pu (cd_37 pc) ∧ jm_snd "FrescoWall$Fits" prog_5_method_9_code 13 (Option.some Jvm.ClassFile.FieldType.int) false pc (cd_37 pc) := jm_if2 (jm_lu_ok _ gl_37_0 pc) (jm_if2 (jm_lu_ok _ gl_37_1 pc) (jm_if2 (jm_lu_ok _ gl_37_2 pc) (jm_if2 (jm_lu_ok _ gl_37_3 pc) (jm_lu_ok _ gl_37_4 pc))))
def cd_38 (pc : Nat) : jm_O := if pc < 42 then jm_lu cl_38_0 pc else jm_lu cl_38_1 pc
theorem ok_38 (pc : Nat) : jm_pu (cd_38 pc) ∧ jm_snd "FrescoWall$Fits" prog_5_method_10_code 5 (Option.some Jvm.ClassFile.FieldType.boolean) false pc (cd_38 pc) := jm_if2 (jm_lu_ok _ gl_38_0 pc) (jm_lu_ok _ gl_38_1 pc)
def cd_39 (pc : Nat) : jm_O := if pc < 48 then jm_lu cl_39_0 pc else jm_lu cl_39_1 pc
theorem ok_39 (pc : Nat) : jm_pu (cd_39 pc) ∧ jm_snd "FrescoWall$Fits" prog_5_method_11_code 9 (Option.some Jvm.ClassFile.FieldType.boolean) false pc (cd_39 pc) := jm_if2 (jm_lu_ok _ gl_39_0 pc) (jm_lu_ok _ gl_39_1 pc)
def cd_77 (pc : Nat) : jm_O := if pc < 46 then jm_lu cl_77_0 pc else jm_lu cl_77_1 pc
theorem ok_77 (pc : Nat) : jm_pu (cd_77 pc) ∧ jm_snd "FrescoWall$Sketch" prog_10_method_1_code 2 (Option.none : Option Jvm.ClassFile.FieldType) true pc (cd_77 pc) := jm_if2 (jm_lu_ok _ gl_77_0 pc) (jm_lu_ok _ gl_77_1 pc)
def cd_78 (pc : Nat) : jm_O := if pc < 48 then jm_lu cl_78_0 pc else if pc < 97 then jm_lu cl_78_1 pc else if pc < 148 then jm_lu cl_78_2 pc else jm_lu cl_78_3 pc
theorem ok_78 (pc : Nat) : jm_pu (cd_78 pc) ∧ jm_snd "FrescoWall$Sketch" prog_10_method_2_code 1 (Option.some Jvm.ClassFile.FieldType.int) false pc (cd_78 pc) := jm_if2 (jm_lu_ok _ gl_78_0 pc) (jm_if2 (jm_lu_ok _ gl_78_1 pc) (jm_if2 (jm_lu_ok _ gl_78_2 pc) (jm_lu_ok _ gl_78_3 pc)))
def cd_79 (pc : Nat) : jm_O := jm_lu cl_79_0 pc
theorem ok_79 (pc : Nat) : jm_pu (cd_79 pc) ∧ jm_snd "FrescoWall$Sketch" prog_10_method_3_code 2 (Option.some Jvm.ClassFile.FieldType.boolean) false pc (cd_79 pc) := jm_lu_ok _ gl_79_0 pc
def cd_80 (pc : Nat) : jm_O := if pc < 44 then jm_lu cl_80_0 pc else if pc < 93 then jm_lu cl_80_1 pc else jm_lu cl_80_2 pc
theorem ok_80 (pc : Nat) : jm_pu (cd_80 pc) ∧ jm_snd "FrescoWall$Sketch" prog_10_method_4_code 6 (Option.some Jvm.ClassFile.FieldType.boolean) false pc (cd_80 pc) := jm_if2 (jm_lu_ok _ gl_80_0 pc) (jm_if2 (jm_lu_ok _ gl_80_1 pc) (jm_lu_ok _ gl_80_2 pc))
def cd_81 (pc : Nat) : jm_O := if pc < 44 then jm_lu cl_81_0 pc else if pc < 91 then jm_lu cl_81_1 pc else jm_lu cl_81_2 pc
theorem ok_81 (pc : Nat) : jm_pu (cd_81 pc) ∧ jm_snd "FrescoWall$Sketch" prog_10_method_5_code 3 (Option.some Jvm.ClassFile.FieldType.boolean) false pc (cd_81 pc) := jm_if2 (jm_lu_ok _ gl_81_0 pc) (jm_if2 (jm_lu_ok _ gl_81_1 pc) (jm_lu_ok _ gl_81_2 pc))
def cd_82 (pc : Nat) : jm_O := if pc < 41 then jm_lu cl_82_0 pc else if pc < 82 then jm_lu cl_82_1 pc else jm_lu cl_82_2 pc
theorem ok_82 (pc : Nat) : jm_pu (cd_82 pc) ∧ jm_snd "FrescoWall$Sketch" prog_10_method_6_code 3 (Option.some Jvm.ClassFile.FieldType.boolean) false pc (cd_82 pc) := jm_if2 (jm_lu_ok _ gl_82_0 pc) (jm_if2 (jm_lu_ok _ gl_82_1 pc) (jm_lu_ok _ gl_82_2 pc))
def cd_83 (pc : Nat) : jm_O := jm_lu cl_83_0 pc
theorem ok_83 (pc : Nat) : jm_pu (cd_83 pc) ∧ jm_snd "FrescoWall$Sketch" prog_10_method_7_code 2 (Option.some Jvm.ClassFile.FieldType.int) false pc (cd_83 pc) := jm_lu_ok _ gl_83_0 pc
def cd_84 (pc : Nat) : jm_O := if pc < 37 then jm_lu cl_84_0 pc else jm_lu cl_84_1 pc
theorem ok_84 (pc : Nat) : jm_pu (cd_84 pc) ∧ jm_snd "FrescoWall$Sketch" prog_10_method_8_code 4 (Option.some Jvm.ClassFile.FieldType.int) false pc (cd_84 pc) := jm_if2 (jm_lu_ok _ gl_84_0 pc) (jm_lu_ok _ gl_84_1 pc)
def cd_85 (pc : Nat) : jm_O := jm_lu cl_85_0 pc
theorem ok_85 (pc : Nat) : jm_pu (cd_85 pc) ∧ jm_snd "FrescoWall$Sketch" prog_10_method_9_code 4 (Option.some Jvm.ClassFile.FieldType.int) false pc (cd_85 pc) := jm_lu_ok _ gl_85_0 pc
def cd_86 (pc : Nat) : jm_O := jm_lu cl_86_0 pc
theorem ok_86 (pc : Nat) : jm_pu (cd_86 pc) ∧ jm_snd "FrescoWall$Sketch" prog_10_method_10_code 4 (Option.some Jvm.ClassFile.FieldType.int) false pc (cd_86 pc) := jm_lu_ok _ gl_86_0 pc
def cd_87 (pc : Nat) : jm_O := jm_lu cl_87_0 pc
theorem ok_87 (pc : Nat) : jm_pu (cd_87 pc) ∧ jm_snd "FrescoWall$Sketch" prog_10_method_11_code 3 (Option.some Jvm.ClassFile.FieldType.boolean) false pc (cd_87 pc) := jm_lu_ok _ gl_87_0 pc
def cd_88 (pc : Nat) : jm_O := if pc < 38 then jm_lu cl_88_0 pc else if pc < 78 then jm_lu cl_88_1 pc else jm_lu cl_88_2 pc
theorem ok_88 (pc : Nat) : jm_pu (cd_88 pc) ∧ jm_snd "FrescoWall$Sketch" prog_10_method_12_code 7 (Option.some Jvm.ClassFile.FieldType.boolean) false pc (cd_88 pc) := jm_if2 (jm_lu_ok _ gl_88_0 pc) (jm_if2 (jm_lu_ok _ gl_88_1 pc) (jm_lu_ok _ gl_88_2 pc))
def cd_89 (pc : Nat) : jm_O := if pc < 40 then jm_lu cl_89_0 pc else if pc < 87 then jm_lu cl_89_1 pc else jm_lu cl_89_2 pc
theorem ok_89 (pc : Nat) : jm_pu (cd_89 pc) ∧ jm_snd "FrescoWall$Sketch" prog_10_method_13_code 7 (Option.some Jvm.ClassFile.FieldType.boolean) false pc (cd_89 pc) := jm_if2 (jm_lu_ok _ gl_89_0 pc) (jm_if2 (jm_lu_ok _ gl_89_1 pc) (jm_lu_ok _ gl_89_2 pc))
def cd_90 (pc : Nat) : jm_O := if pc < 37 then jm_lu cl_90_0 pc else jm_lu cl_90_1 pc
theorem ok_90 (pc : Nat) : jm_pu (cd_90 pc) ∧ jm_snd "FrescoWall$Sketch" prog_10_method_14_code 5 (Option.some Jvm.ClassFile.FieldType.int) false pc (cd_90 pc) := jm_if2 (jm_lu_ok _ gl_90_0 pc) (jm_lu_ok _ gl_90_1 pc)
def cd_91 (pc : Nat) : jm_O := if pc < 41 then jm_lu cl_91_0 pc else if pc < 84 then jm_lu cl_91_1 pc else jm_lu cl_91_2 pc
theorem ok_91 (pc : Nat) : jm_pu (cd_91 pc) ∧ jm_snd "FrescoWall$Sketch" prog_10_method_15_code 4 (Option.some Jvm.ClassFile.FieldType.boolean) false pc (cd_91 pc) := jm_if2 (jm_lu_ok _ gl_91_0 pc) (jm_if2 (jm_lu_ok _ gl_91_1 pc) (jm_lu_ok _ gl_91_2 pc))
def cd_92 (pc : Nat) : jm_O := if pc < 37 then jm_lu cl_92_0 pc else if pc < 82 then jm_lu cl_92_1 pc else if pc < 123 then jm_lu cl_92_2 pc else if pc < 166 then jm_lu cl_92_3 pc else jm_lu cl_92_4 pc
theorem ok_92 (pc : Nat) : jm_pu (cd_92 pc) ∧ jm_snd "FrescoWall$Sketch" prog_10_method_16_code 10 (Option.some Jvm.ClassFile.FieldType.boolean) false pc (cd_92 pc) := jm_if2 (jm_lu_ok _ gl_92_0 pc) (jm_if2 (jm_lu_ok _ gl_92_1 pc) (jm_if2 (jm_lu_ok _ gl_92_2 pc) (jm_if2 (jm_lu_ok _ gl_92_3 pc) (jm_lu_ok _ gl_92_4 pc))))
def cd_93 (pc : Nat) : jm_O := if pc < 39 then jm_lu cl_93_0 pc else jm_lu cl_93_1 pc
theorem ok_93 (pc : Nat) : jm_pu (cd_93 pc) ∧ jm_snd "FrescoWall$Sketch" prog_10_method_17_code 3 (Option.some Jvm.ClassFile.FieldType.boolean) false pc (cd_93 pc) := jm_if2 (jm_lu_ok _ gl_93_0 pc) (jm_lu_ok _ gl_93_1 pc)
def cd_99 (pc : Nat) : jm_O := if pc < 46 then jm_lu cl_99_0 pc else jm_lu cl_99_1 pc
theorem ok_99 (pc : Nat) : jm_pu (cd_99 pc) ∧ jm_snd "FrescoWall$Wall" prog_12_method_1_code 4 (Option.none : Option Jvm.ClassFile.FieldType) true pc (cd_99 pc) := jm_if2 (jm_lu_ok _ gl_99_0 pc) (jm_lu_ok _ gl_99_1 pc)
def cd_100 (pc : Nat) : jm_O := jm_lu cl_100_0 pc
theorem ok_100 (pc : Nat) : jm_pu (cd_100 pc) ∧ jm_snd "FrescoWall$Wall" prog_12_method_2_code 2 (Option.some Jvm.ClassFile.FieldType.boolean) false pc (cd_100 pc) := jm_lu_ok _ gl_100_0 pc
def cd_101 (pc : Nat) : jm_O := jm_lu cl_101_0 pc
theorem ok_101 (pc : Nat) : jm_pu (cd_101 pc) ∧ jm_snd "FrescoWall$Wall" prog_12_method_3_code 2 (Option.some Jvm.ClassFile.FieldType.boolean) false pc (cd_101 pc) := jm_lu_ok _ gl_101_0 pc
def cd_102 (pc : Nat) : jm_O := jm_lu cl_102_0 pc
theorem ok_102 (pc : Nat) : jm_pu (cd_102 pc) ∧ jm_snd "FrescoWall$Wall" prog_12_method_4_code 2 (Option.some Jvm.ClassFile.FieldType.boolean) false pc (cd_102 pc) := jm_lu_ok _ gl_102_0 pc
def cd_103 (pc : Nat) : jm_O := jm_lu cl_103_0 pc
theorem ok_103 (pc : Nat) : jm_pu (cd_103 pc) ∧ jm_snd "FrescoWall$Wall" prog_12_method_5_code 3 (Option.some Jvm.ClassFile.FieldType.int) false pc (cd_103 pc) := jm_lu_ok _ gl_103_0 pc
def cd_104 (pc : Nat) : jm_O := if pc < 45 then jm_lu cl_104_0 pc else jm_lu cl_104_1 pc
theorem ok_104 (pc : Nat) : jm_pu (cd_104 pc) ∧ jm_snd "FrescoWall$Wall" prog_12_method_6_code 6 (Option.some Jvm.ClassFile.FieldType.int) false pc (cd_104 pc) := jm_if2 (jm_lu_ok _ gl_104_0 pc) (jm_lu_ok _ gl_104_1 pc)
def cd_105 (pc : Nat) : jm_O := if pc < 45 then jm_lu cl_105_0 pc else if pc < 87 then jm_lu cl_105_1 pc else if pc < 131 then jm_lu cl_105_2 pc else if pc < 179 then jm_lu cl_105_3 pc else if pc < 222 then jm_lu cl_105_4 pc else jm_lu cl_105_5 pc
theorem ok_105 (pc : Nat) : jm_pu (cd_105 pc) ∧ jm_snd "FrescoWall$Wall" prog_12_method_7_code 10 (Option.some Jvm.ClassFile.FieldType.int) false pc (cd_105 pc) := jm_if2 (jm_lu_ok _ gl_105_0 pc) (jm_if2 (jm_lu_ok _ gl_105_1 pc) (jm_if2 (jm_lu_ok _ gl_105_2 pc) (jm_if2 (jm_lu_ok _ gl_105_3 pc) (jm_if2 (jm_lu_ok _ gl_105_4 pc) (jm_lu_ok _ gl_105_5 pc)))))
def cd_106 (pc : Nat) : jm_O := jm_lu cl_106_0 pc
theorem ok_106 (pc : Nat) : jm_pu (cd_106 pc) ∧ jm_snd "FrescoWall$Wall" prog_12_method_8_code 6 (Option.some Jvm.ClassFile.FieldType.int) false pc (cd_106 pc) := jm_lu_ok _ gl_106_0 pc
def cd_107 (pc : Nat) : jm_O := if pc < 46 then jm_lu cl_107_0 pc else if pc < 94 then jm_lu cl_107_1 pc else jm_lu cl_107_2 pc
theorem ok_107 (pc : Nat) : jm_pu (cd_107 pc) ∧ jm_snd "FrescoWall$Wall" prog_12_method_9_code 9 (Option.some Jvm.ClassFile.FieldType.int) false pc (cd_107 pc) := jm_if2 (jm_lu_ok _ gl_107_0 pc) (jm_if2 (jm_lu_ok _ gl_107_1 pc) (jm_lu_ok _ gl_107_2 pc))
def cd_108 (pc : Nat) : jm_O := if pc < 48 then jm_lu cl_108_0 pc else jm_lu cl_108_1 pc
theorem ok_108 (pc : Nat) : jm_pu (cd_108 pc) ∧ jm_snd "FrescoWall$Wall" prog_12_method_10_code 5 (Option.none : Option Jvm.ClassFile.FieldType) false pc (cd_108 pc) := jm_if2 (jm_lu_ok _ gl_108_0 pc) (jm_lu_ok _ gl_108_1 pc)
def cd_109 (pc : Nat) : jm_O := jm_lu cl_109_0 pc
theorem ok_109 (pc : Nat) : jm_pu (cd_109 pc) ∧ jm_snd "FrescoWall$Wall" prog_12_method_11_code 3 (Option.some Jvm.ClassFile.FieldType.int) false pc (cd_109 pc) := jm_lu_ok _ gl_109_0 pc
def cd_110 (pc : Nat) : jm_O := jm_lu cl_110_0 pc
theorem ok_110 (pc : Nat) : jm_pu (cd_110 pc) ∧ jm_snd "FrescoWall$Wall" prog_12_method_12_code 4 (Option.some Jvm.ClassFile.FieldType.int) false pc (cd_110 pc) := jm_lu_ok _ gl_110_0 pc
def cd_111 (pc : Nat) : jm_O := jm_lu cl_111_0 pc
theorem ok_111 (pc : Nat) : jm_pu (cd_111 pc) ∧ jm_snd "FrescoWall$Wall" prog_12_method_13_code 6 (Option.some Jvm.ClassFile.FieldType.int) false pc (cd_111 pc) := jm_lu_ok _ gl_111_0 pc
def cd_112 (pc : Nat) : jm_O := jm_lu cl_112_0 pc
theorem ok_112 (pc : Nat) : jm_pu (cd_112 pc) ∧ jm_snd "FrescoWall$Wall" prog_12_method_14_code 6 (Option.some Jvm.ClassFile.FieldType.int) false pc (cd_112 pc) := jm_lu_ok _ gl_112_0 pc
def cd_113 (pc : Nat) : jm_O := if pc < 49 then jm_lu cl_113_0 pc else jm_lu cl_113_1 pc
theorem ok_113 (pc : Nat) : jm_pu (cd_113 pc) ∧ jm_snd "FrescoWall$Wall" prog_12_method_15_code 5 (Option.none : Option Jvm.ClassFile.FieldType) false pc (cd_113 pc) := jm_if2 (jm_lu_ok _ gl_113_0 pc) (jm_lu_ok _ gl_113_1 pc)
def cd_114 (pc : Nat) : jm_O := if pc < 39 then jm_lu cl_114_0 pc else if pc < 82 then jm_lu cl_114_1 pc else jm_lu cl_114_2 pc
theorem ok_114 (pc : Nat) : jm_pu (cd_114 pc) ∧ jm_snd "FrescoWall$Wall" prog_12_method_16_code 7 (Option.some Jvm.ClassFile.FieldType.int) false pc (cd_114 pc) := jm_if2 (jm_lu_ok _ gl_114_0 pc) (jm_if2 (jm_lu_ok _ gl_114_1 pc) (jm_lu_ok _ gl_114_2 pc))
def cd_115 (pc : Nat) : jm_O := jm_lu cl_115_0 pc
theorem ok_115 (pc : Nat) : jm_pu (cd_115 pc) ∧ jm_snd "FrescoWall$Wall" prog_12_method_17_code 2 (Option.none : Option Jvm.ClassFile.FieldType) false pc (cd_115 pc) := jm_lu_ok _ gl_115_0 pc
def cd_116 (pc : Nat) : jm_O := jm_lu cl_116_0 pc
theorem ok_116 (pc : Nat) : jm_pu (cd_116 pc) ∧ jm_snd "FrescoWall$Wall" prog_12_method_18_code 5 (Option.some Jvm.ClassFile.FieldType.int) false pc (cd_116 pc) := jm_lu_ok _ gl_116_0 pc
def cd_117 (pc : Nat) : jm_O := jm_lu cl_117_0 pc
theorem ok_117 (pc : Nat) : jm_pu (cd_117 pc) ∧ jm_snd "FrescoWall$Wall" prog_12_method_19_code 2 (Option.none : Option Jvm.ClassFile.FieldType) false pc (cd_117 pc) := jm_lu_ok _ gl_117_0 pc
def cd_118 (pc : Nat) : jm_O := jm_lu cl_118_0 pc
theorem ok_118 (pc : Nat) : jm_pu (cd_118 pc) ∧ jm_snd "FrescoWall$Wall" prog_12_method_20_code 5 (Option.some Jvm.ClassFile.FieldType.int) false pc (cd_118 pc) := jm_lu_ok _ gl_118_0 pc
def cd_119 (pc : Nat) : jm_O := if pc < 47 then jm_lu cl_119_0 pc else jm_lu cl_119_1 pc
theorem ok_119 (pc : Nat) : jm_pu (cd_119 pc) ∧ jm_snd "FrescoWall$Wall" prog_12_method_21_code 4 (Option.some Jvm.ClassFile.FieldType.long) false pc (cd_119 pc) := jm_if2 (jm_lu_ok _ gl_119_0 pc) (jm_lu_ok _ gl_119_1 pc)
def cd_120 (pc : Nat) : jm_O := jm_lu cl_120_0 pc
theorem ok_120 (pc : Nat) : jm_pu (cd_120 pc) ∧ jm_snd "FrescoWall$Wall" prog_12_method_22_code 1 (Option.some Jvm.ClassFile.FieldType.int) false pc (cd_120 pc) := jm_lu_ok _ gl_120_0 pc
def cd_121 (pc : Nat) : jm_O := if pc < 45 then jm_lu cl_121_0 pc else if pc < 100 then jm_lu cl_121_1 pc else jm_lu cl_121_2 pc
theorem ok_121 (pc : Nat) : jm_pu (cd_121 pc) ∧ jm_snd "FrescoWall$Wall" prog_12_method_23_code 7 (Option.some Jvm.ClassFile.FieldType.int) false pc (cd_121 pc) := jm_if2 (jm_lu_ok _ gl_121_0 pc) (jm_if2 (jm_lu_ok _ gl_121_1 pc) (jm_lu_ok _ gl_121_2 pc))
