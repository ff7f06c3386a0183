theorem dc_170_0 : ([(0, .aload_n 0, 1), (1, .invokespecial 1, 3), (4, .aload_n 0, 1), (5, .sipush 240, 3), (8, .newarray .int, 2), (10, .putfield 7, 3), (13, .aload_n 0, 1), (14, .bipush 30, 2), (16, .newarray .int, 2), (18, .putfield 13, 3), (21, .aload_n 0, 1), (22, .sipush 240, 3), (25, .newarray .int, 2), (27, .putfield 16, 3), (30, .aload_n 0, 1), (31, .sipush 240, 3), (34, .newarray .int, 2), (36, .putfield 19, 3), (39, .aload_n 0, 1), (40, .sipush 240, 3), (43, .newarray .int, 2), (45, .putfield 22, 3), (48, .aload_n 0, 1), (49, .bipush 30, 2), (51, .newarray .int, 2)] : List (Nat × Instr × Nat)).all (fun e => decide (decode prog_14_method_1_code e.1 = .ok e.2)) = true := by decide +kernel
abbrev cl_170_0 : List (Nat × jm_O) := [(0, op_aload 0 1), (1, op_objInit), (4, op_aload 0 1), (5, op_ic 240 3), (8, op_newa 13 2), (10, op_putA 11 1), (13, op_aload 0 1), (14, op_ic 30 2), (16, op_newa 13 2), (18, op_putA 11 4), (21, op_aload 0 1), (22, op_ic 240 3), (25, op_newa 13 2), (27, op_putA 11 5), (30, op_aload 0 1), (31, op_ic 240 3), (34, op_newa 13 2), (36, op_putA 11 6), (39, op_aload 0 1), (40, op_ic 240 3), (43, op_newa 13 2), (45, op_putA 11 7), (48, op_aload 0 1), (49, op_ic 30 2), (51, op_newa 13 2)]
set_option maxRecDepth 100000 in
theorem gl_170_0 : jm_gl "FrescoWallModel" prog_14_method_1_code 2 (Option.none : Option Jvm.ClassFile.FieldType) true cl_170_0 :=
  jm_gc (pu_aload _ _) (sn_aload_n (i := 0) (jm_dc dc_170_0 0 rfl)) (
  jm_gc (pu_objInit) (sn_objInit (jm_dc dc_170_0 1 rfl) ⟨kc_tb 1262 (by decide +kernel), kc_tb 23 (by decide +kernel), kc_tb 24 (by decide +kernel)⟩) (
  jm_gc (pu_aload _ _) (sn_aload_n (i := 0) (jm_dc dc_170_0 2 rfl)) (
  jm_gc (pu_ic _ _) (sn_sipush (jm_dc dc_170_0 3 rfl) (by decide)) (
  jm_gc (pu_newa _ _) (sn_newI (jm_dc dc_170_0 4 rfl) (kc_tb 91 (by decide +kernel))) (
  jm_gc (pu_putA _ _) (sn_putAF (jm_dc dc_170_0 5 rfl) flw_11_7 rfl rfl) (
  jm_gc (pu_aload _ _) (sn_aload_n (i := 0) (jm_dc dc_170_0 6 rfl)) (
  jm_gc (pu_ic _ _) (sn_bipush (jm_dc dc_170_0 7 rfl) (by decide)) (
  jm_gc (pu_newa _ _) (sn_newI (jm_dc dc_170_0 8 rfl) (kc_tb 91 (by decide +kernel))) (
  jm_gc (pu_putA _ _) (sn_putAF (jm_dc dc_170_0 9 rfl) flw_11_13 rfl rfl) (
  jm_gc (pu_aload _ _) (sn_aload_n (i := 0) (jm_dc dc_170_0 10 rfl)) (
  jm_gc (pu_ic _ _) (sn_sipush (jm_dc dc_170_0 11 rfl) (by decide)) (
  jm_gc (pu_newa _ _) (sn_newI (jm_dc dc_170_0 12 rfl) (kc_tb 91 (by decide +kernel))) (
  jm_gc (pu_putA _ _) (sn_putAF (jm_dc dc_170_0 13 rfl) flw_11_16 rfl rfl) (
  jm_gc (pu_aload _ _) (sn_aload_n (i := 0) (jm_dc dc_170_0 14 rfl)) (
  jm_gc (pu_ic _ _) (sn_sipush (jm_dc dc_170_0 15 rfl) (by decide)) (
  jm_gc (pu_newa _ _) (sn_newI (jm_dc dc_170_0 16 rfl) (kc_tb 91 (by decide +kernel))) (
  jm_gc (pu_putA _ _) (sn_putAF (jm_dc dc_170_0 17 rfl) flw_11_19 rfl rfl) (
  jm_gc (pu_aload _ _) (sn_aload_n (i := 0) (jm_dc dc_170_0 18 rfl)) (
  jm_gc (pu_ic _ _) (sn_sipush (jm_dc dc_170_0 19 rfl) (by decide)) (
  jm_gc (pu_newa _ _) (sn_newI (jm_dc dc_170_0 20 rfl) (kc_tb 91 (by decide +kernel))) (
  jm_gc (pu_putA _ _) (sn_putAF (jm_dc dc_170_0 21 rfl) flw_11_22 rfl rfl) (
  jm_gc (pu_aload _ _) (sn_aload_n (i := 0) (jm_dc dc_170_0 22 rfl)) (
  jm_gc (pu_ic _ _) (sn_bipush (jm_dc dc_170_0 23 rfl) (by decide)) (
  jm_gc (pu_newa _ _) (sn_newI (jm_dc dc_170_0 24 rfl) (kc_tb 91 (by decide +kernel))) (
  jm_gn)))))))))))))))))))))))))
theorem dc_170_1 : ([(53, .putfield 25, 3), (56, .aload_n 0, 1), (57, .sipush 150, 3), (60, .newarray .int, 2), (62, .putfield 28, 3), (65, .aload_n 0, 1), (66, .sipush 150, 3), (69, .newarray .int, 2), (71, .putfield 31, 3), (74, .aload_n 0, 1), (75, .sipush 150, 3), (78, .newarray .int, 2), (80, .putfield 34, 3), (83, .aload_n 0, 1), (84, .bipush 30, 2), (86, .newarray .int, 2), (88, .putfield 37, 3), (91, .aload_n 0, 1), (92, .bipush 30, 2), (94, .newarray .int, 2), (96, .putfield 40, 3), (99, .aload_n 0, 1), (100, .bipush 30, 2), (102, .newarray .int, 2), (104, .putfield 43, 3)] : List (Nat × Instr × Nat)).all (fun e => decide (decode prog_14_method_1_code e.1 = .ok e.2)) = true := by decide +kernel
abbrev cl_170_1 : List (Nat × jm_O) := [(53, op_putA 11 8), (56, op_aload 0 1), (57, op_ic 150 3), (60, op_newa 13 2), (62, op_putA 11 9), (65, op_aload 0 1), (66, op_ic 150 3), (69, op_newa 13 2), (71, op_putA 11 10), (74, op_aload 0 1), (75, op_ic 150 3), (78, op_newa 13 2), (80, op_putA 11 11), (83, op_aload 0 1), (84, op_ic 30 2), (86, op_newa 13 2), (88, op_putA 11 12), (91, op_aload 0 1), (92, op_ic 30 2), (94, op_newa 13 2), (96, op_putA 11 13), (99, op_aload 0 1), (100, op_ic 30 2), (102, op_newa 13 2), (104, op_putA 11 14)]
set_option maxRecDepth 100000 in
theorem gl_170_1 : jm_gl "FrescoWallModel" prog_14_method_1_code 2 (Option.none : Option Jvm.ClassFile.FieldType) true cl_170_1 :=
  jm_gc (pu_putA _ _) (sn_putAF (jm_dc dc_170_1 0 rfl) flw_11_25 rfl rfl) (
  jm_gc (pu_aload _ _) (sn_aload_n (i := 0) (jm_dc dc_170_1 1 rfl)) (
  jm_gc (pu_ic _ _) (sn_sipush (jm_dc dc_170_1 2 rfl) (by decide)) (
  jm_gc (pu_newa _ _) (sn_newI (jm_dc dc_170_1 3 rfl) (kc_tb 91 (by decide +kernel))) (
  jm_gc (pu_putA _ _) (sn_putAF (jm_dc dc_170_1 4 rfl) flw_11_28 rfl rfl) (
  jm_gc (pu_aload _ _) (sn_aload_n (i := 0) (jm_dc dc_170_1 5 rfl)) (
  jm_gc (pu_ic _ _) (sn_sipush (jm_dc dc_170_1 6 rfl) (by decide)) (
  jm_gc (pu_newa _ _) (sn_newI (jm_dc dc_170_1 7 rfl) (kc_tb 91 (by decide +kernel))) (
  jm_gc (pu_putA _ _) (sn_putAF (jm_dc dc_170_1 8 rfl) flw_11_31 rfl rfl) (
  jm_gc (pu_aload _ _) (sn_aload_n (i := 0) (jm_dc dc_170_1 9 rfl)) (
  jm_gc (pu_ic _ _) (sn_sipush (jm_dc dc_170_1 10 rfl) (by decide)) (
  jm_gc (pu_newa _ _) (sn_newI (jm_dc dc_170_1 11 rfl) (kc_tb 91 (by decide +kernel))) (
  jm_gc (pu_putA _ _) (sn_putAF (jm_dc dc_170_1 12 rfl) flw_11_34 rfl rfl) (
  jm_gc (pu_aload _ _) (sn_aload_n (i := 0) (jm_dc dc_170_1 13 rfl)) (
  jm_gc (pu_ic _ _) (sn_bipush (jm_dc dc_170_1 14 rfl) (by decide)) (
  jm_gc (pu_newa _ _) (sn_newI (jm_dc dc_170_1 15 rfl) (kc_tb 91 (by decide +kernel))) (
  jm_gc (pu_putA _ _) (sn_putAF (jm_dc dc_170_1 16 rfl) flw_11_37 rfl rfl) (
  jm_gc (pu_aload _ _) (sn_aload_n (i := 0) (jm_dc dc_170_1 17 rfl)) (
  jm_gc (pu_ic _ _) (sn_bipush (jm_dc dc_170_1 18 rfl) (by decide)) (
  jm_gc (pu_newa _ _) (sn_newI (jm_dc dc_170_1 19 rfl) (kc_tb 91 (by decide +kernel))) (
  jm_gc (pu_putA _ _) (sn_putAF (jm_dc dc_170_1 20 rfl) flw_11_40 rfl rfl) (
  jm_gc (pu_aload _ _) (sn_aload_n (i := 0) (jm_dc dc_170_1 21 rfl)) (
  jm_gc (pu_ic _ _) (sn_bipush (jm_dc dc_170_1 22 rfl) (by decide)) (
  jm_gc (pu_newa _ _) (sn_newI (jm_dc dc_170_1 23 rfl) (kc_tb 91 (by decide +kernel))) (
  jm_gc (pu_putA _ _) (sn_putAF (jm_dc dc_170_1 24 rfl) flw_11_43 rfl rfl) (
  jm_gn)))))))))))))))))))))))))
theorem dc_170_2 : ([(107, .aload_n 0, 1), (108, .bipush 30, 2), (110, .newarray .int, 2), (112, .putfield 46, 3), (115, .aload_n 0, 1), (116, .bipush 30, 2), (118, .newarray .int, 2), (120, .putfield 49, 3), (123, .aload_n 0, 1), (124, .ldc 52, 2), (126, .newarray .int, 2), (128, .putfield 53, 3), (131, .aload_n 0, 1), (132, .ldc 52, 2), (134, .newarray .int, 2), (136, .putfield 56, 3), (139, .aload_n 0, 1), (140, .ldc 52, 2), (142, .newarray .boolean, 2), (144, .putfield 59, 3), (147, .aload_n 0, 1), (148, .bipush 100, 2), (150, .newarray .int, 2), (152, .putfield 63, 3), (155, .aload_n 0, 1)] : List (Nat × Instr × Nat)).all (fun e => decide (decode prog_14_method_1_code e.1 = .ok e.2)) = true := by decide +kernel
abbrev cl_170_2 : List (Nat × jm_O) := [(107, op_aload 0 1), (108, op_ic 30 2), (110, op_newa 13 2), (112, op_putA 11 15), (115, op_aload 0 1), (116, op_ic 30 2), (118, op_newa 13 2), (120, op_putA 11 16), (123, op_aload 0 1), (124, op_ic 48000 2), (126, op_newa 13 2), (128, op_putA 11 17), (131, op_aload 0 1), (132, op_ic 48000 2), (134, op_newa 13 2), (136, op_putA 11 18), (139, op_aload 0 1), (140, op_ic 48000 2), (142, op_newa 15 2), (144, op_putA 11 19), (147, op_aload 0 1), (148, op_ic 100 2), (150, op_newa 13 2), (152, op_putA 11 21), (155, op_aload 0 1)]
set_option maxRecDepth 100000 in
theorem gl_170_2 : jm_gl "FrescoWallModel" prog_14_method_1_code 2 (Option.none : Option Jvm.ClassFile.FieldType) true cl_170_2 :=
  jm_gc (pu_aload _ _) (sn_aload_n (i := 0) (jm_dc dc_170_2 0 rfl)) (
  jm_gc (pu_ic _ _) (sn_bipush (jm_dc dc_170_2 1 rfl) (by decide)) (
  jm_gc (pu_newa _ _) (sn_newI (jm_dc dc_170_2 2 rfl) (kc_tb 91 (by decide +kernel))) (
  jm_gc (pu_putA _ _) (sn_putAF (jm_dc dc_170_2 3 rfl) flw_11_46 rfl rfl) (
  jm_gc (pu_aload _ _) (sn_aload_n (i := 0) (jm_dc dc_170_2 4 rfl)) (
  jm_gc (pu_ic _ _) (sn_bipush (jm_dc dc_170_2 5 rfl) (by decide)) (
  jm_gc (pu_newa _ _) (sn_newI (jm_dc dc_170_2 6 rfl) (kc_tb 91 (by decide +kernel))) (
  jm_gc (pu_putA _ _) (sn_putAF (jm_dc dc_170_2 7 rfl) flw_11_49 rfl rfl) (
  jm_gc (pu_aload _ _) (sn_aload_n (i := 0) (jm_dc dc_170_2 8 rfl)) (
  jm_gc (pu_ic _ _) (sn_ldc (jm_dc dc_170_2 9 rfl) (kc_tb 1263 (by decide +kernel))) (
  jm_gc (pu_newa _ _) (sn_newI (jm_dc dc_170_2 10 rfl) (kc_tb 91 (by decide +kernel))) (
  jm_gc (pu_putA _ _) (sn_putAF (jm_dc dc_170_2 11 rfl) flw_11_53 rfl rfl) (
  jm_gc (pu_aload _ _) (sn_aload_n (i := 0) (jm_dc dc_170_2 12 rfl)) (
  jm_gc (pu_ic _ _) (sn_ldc (jm_dc dc_170_2 13 rfl) (kc_tb 1263 (by decide +kernel))) (
  jm_gc (pu_newa _ _) (sn_newI (jm_dc dc_170_2 14 rfl) (kc_tb 91 (by decide +kernel))) (
  jm_gc (pu_putA _ _) (sn_putAF (jm_dc dc_170_2 15 rfl) flw_11_56 rfl rfl) (
  jm_gc (pu_aload _ _) (sn_aload_n (i := 0) (jm_dc dc_170_2 16 rfl)) (
  jm_gc (pu_ic _ _) (sn_ldc (jm_dc dc_170_2 17 rfl) (kc_tb 1263 (by decide +kernel))) (
  jm_gc (pu_newa _ _) (sn_newZ (jm_dc dc_170_2 18 rfl) (kc_tb 380 (by decide +kernel))) (
  jm_gc (pu_putA _ _) (sn_putAF (jm_dc dc_170_2 19 rfl) flw_11_59 rfl rfl) (
  jm_gc (pu_aload _ _) (sn_aload_n (i := 0) (jm_dc dc_170_2 20 rfl)) (
  jm_gc (pu_ic _ _) (sn_bipush (jm_dc dc_170_2 21 rfl) (by decide)) (
  jm_gc (pu_newa _ _) (sn_newI (jm_dc dc_170_2 22 rfl) (kc_tb 91 (by decide +kernel))) (
  jm_gc (pu_putA _ _) (sn_putAF (jm_dc dc_170_2 23 rfl) flw_11_63 rfl rfl) (
  jm_gc (pu_aload _ _) (sn_aload_n (i := 0) (jm_dc dc_170_2 24 rfl)) (
  jm_gn)))))))))))))))))))))))))
theorem dc_170_3 : ([(156, .ldc 66, 2), (158, .newarray .int, 2), (160, .putfield 67, 3), (163, .aload_n 0, 1), (164, .ldc 66, 2), (166, .newarray .int, 2), (168, .putfield 70, 3), (171, .aload_n 0, 1), (172, .bipush 60, 2), (174, .newarray .int, 2), (176, .putfield 73, 3), (179, .aload_n 0, 1), (180, .bipush 60, 2), (182, .newarray .int, 2), (184, .putfield 76, 3), (187, .aload_n 0, 1), (188, .bipush 60, 2), (190, .newarray .int, 2), (192, .putfield 79, 3), (195, .aload_n 0, 1), (196, .bipush 60, 2), (198, .newarray .int, 2), (200, .putfield 82, 3), (203, .aload_n 0, 1), (204, .bipush 60, 2)] : List (Nat × Instr × Nat)).all (fun e => decide (decode prog_14_method_1_code e.1 = .ok e.2)) = true := by decide +kernel
abbrev cl_170_3 : List (Nat × jm_O) := [(156, op_ic 57600 2), (158, op_newa 13 2), (160, op_putA 11 22), (163, op_aload 0 1), (164, op_ic 57600 2), (166, op_newa 13 2), (168, op_putA 11 23), (171, op_aload 0 1), (172, op_ic 60 2), (174, op_newa 13 2), (176, op_putA 11 25), (179, op_aload 0 1), (180, op_ic 60 2), (182, op_newa 13 2), (184, op_putA 11 26), (187, op_aload 0 1), (188, op_ic 60 2), (190, op_newa 13 2), (192, op_putA 11 27), (195, op_aload 0 1), (196, op_ic 60 2), (198, op_newa 13 2), (200, op_putA 11 28), (203, op_aload 0 1), (204, op_ic 60 2)]
set_option maxRecDepth 100000 in
theorem gl_170_3 : jm_gl "FrescoWallModel" prog_14_method_1_code 2 (Option.none : Option Jvm.ClassFile.FieldType) true cl_170_3 :=
  jm_gc (pu_ic _ _) (sn_ldc (jm_dc dc_170_3 0 rfl) (kc_tb 1264 (by decide +kernel))) (
  jm_gc (pu_newa _ _) (sn_newI (jm_dc dc_170_3 1 rfl) (kc_tb 91 (by decide +kernel))) (
  jm_gc (pu_putA _ _) (sn_putAF (jm_dc dc_170_3 2 rfl) flw_11_67 rfl rfl) (
  jm_gc (pu_aload _ _) (sn_aload_n (i := 0) (jm_dc dc_170_3 3 rfl)) (
  jm_gc (pu_ic _ _) (sn_ldc (jm_dc dc_170_3 4 rfl) (kc_tb 1264 (by decide +kernel))) (
  jm_gc (pu_newa _ _) (sn_newI (jm_dc dc_170_3 5 rfl) (kc_tb 91 (by decide +kernel))) (
  jm_gc (pu_putA _ _) (sn_putAF (jm_dc dc_170_3 6 rfl) flw_11_70 rfl rfl) (
  jm_gc (pu_aload _ _) (sn_aload_n (i := 0) (jm_dc dc_170_3 7 rfl)) (
  jm_gc (pu_ic _ _) (sn_bipush (jm_dc dc_170_3 8 rfl) (by decide)) (
  jm_gc (pu_newa _ _) (sn_newI (jm_dc dc_170_3 9 rfl) (kc_tb 91 (by decide +kernel))) (
  jm_gc (pu_putA _ _) (sn_putAF (jm_dc dc_170_3 10 rfl) flw_11_73 rfl rfl) (
  jm_gc (pu_aload _ _) (sn_aload_n (i := 0) (jm_dc dc_170_3 11 rfl)) (
  jm_gc (pu_ic _ _) (sn_bipush (jm_dc dc_170_3 12 rfl) (by decide)) (
  jm_gc (pu_newa _ _) (sn_newI (jm_dc dc_170_3 13 rfl) (kc_tb 91 (by decide +kernel))) (
  jm_gc (pu_putA _ _) (sn_putAF (jm_dc dc_170_3 14 rfl) flw_11_76 rfl rfl) (
  jm_gc (pu_aload _ _) (sn_aload_n (i := 0) (jm_dc dc_170_3 15 rfl)) (
  jm_gc (pu_ic _ _) (sn_bipush (jm_dc dc_170_3 16 rfl) (by decide)) (
  jm_gc (pu_newa _ _) (sn_newI (jm_dc dc_170_3 17 rfl) (kc_tb 91 (by decide +kernel))) (
  jm_gc (pu_putA _ _) (sn_putAF (jm_dc dc_170_3 18 rfl) flw_11_79 rfl rfl) (
  jm_gc (pu_aload _ _) (sn_aload_n (i := 0) (jm_dc dc_170_3 19 rfl)) (
  jm_gc (pu_ic _ _) (sn_bipush (jm_dc dc_170_3 20 rfl) (by decide)) (
  jm_gc (pu_newa _ _) (sn_newI (jm_dc dc_170_3 21 rfl) (kc_tb 91 (by decide +kernel))) (
  jm_gc (pu_putA _ _) (sn_putAF (jm_dc dc_170_3 22 rfl) flw_11_82 rfl rfl) (
  jm_gc (pu_aload _ _) (sn_aload_n (i := 0) (jm_dc dc_170_3 23 rfl)) (
  jm_gc (pu_ic _ _) (sn_bipush (jm_dc dc_170_3 24 rfl) (by decide)) (
  jm_gn)))))))))))))))))))))))))
theorem dc_170_4 : ([(206, .newarray .boolean, 2), (208, .putfield 85, 3), (211, .aload_n 0, 1), (212, .bipush 30, 2), (214, .newarray .boolean, 2), (216, .putfield 88, 3), (219, .aload_n 0, 1), (220, .bipush 30, 2), (222, .newarray .boolean, 2), (224, .putfield 91, 3), (227, .aload_n 0, 1), (228, .bipush 30, 2), (230, .newarray .int, 2), (232, .putfield 94, 3), (235, .aload_n 0, 1), (236, .bipush 30, 2), (238, .newarray .int, 2), (240, .putfield 97, 3), (243, .aload_n 0, 1), (244, .bipush 30, 2), (246, .newarray .int, 2), (248, .putfield 100, 3), (251, .aload_n 0, 1), (252, .bipush 60, 2), (254, .newarray .int, 2)] : List (Nat × Instr × Nat)).all (fun e => decide (decode prog_14_method_1_code e.1 = .ok e.2)) = true := by decide +kernel
abbrev cl_170_4 : List (Nat × jm_O) := [(206, op_newa 15 2), (208, op_putA 11 29), (211, op_aload 0 1), (212, op_ic 30 2), (214, op_newa 15 2), (216, op_putA 11 30), (219, op_aload 0 1), (220, op_ic 30 2), (222, op_newa 15 2), (224, op_putA 11 31), (227, op_aload 0 1), (228, op_ic 30 2), (230, op_newa 13 2), (232, op_putA 11 32), (235, op_aload 0 1), (236, op_ic 30 2), (238, op_newa 13 2), (240, op_putA 11 33), (243, op_aload 0 1), (244, op_ic 30 2), (246, op_newa 13 2), (248, op_putA 11 34), (251, op_aload 0 1), (252, op_ic 60 2), (254, op_newa 13 2)]
set_option maxRecDepth 100000 in
theorem gl_170_4 : jm_gl "FrescoWallModel" prog_14_method_1_code 2 (Option.none : Option Jvm.ClassFile.FieldType) true cl_170_4 :=
  jm_gc (pu_newa _ _) (sn_newZ (jm_dc dc_170_4 0 rfl) (kc_tb 380 (by decide +kernel))) (
  jm_gc (pu_putA _ _) (sn_putAF (jm_dc dc_170_4 1 rfl) flw_11_85 rfl rfl) (
  jm_gc (pu_aload _ _) (sn_aload_n (i := 0) (jm_dc dc_170_4 2 rfl)) (
  jm_gc (pu_ic _ _) (sn_bipush (jm_dc dc_170_4 3 rfl) (by decide)) (
  jm_gc (pu_newa _ _) (sn_newZ (jm_dc dc_170_4 4 rfl) (kc_tb 380 (by decide +kernel))) (
  jm_gc (pu_putA _ _) (sn_putAF (jm_dc dc_170_4 5 rfl) flw_11_88 rfl rfl) (
  jm_gc (pu_aload _ _) (sn_aload_n (i := 0) (jm_dc dc_170_4 6 rfl)) (
  jm_gc (pu_ic _ _) (sn_bipush (jm_dc dc_170_4 7 rfl) (by decide)) (
  jm_gc (pu_newa _ _) (sn_newZ (jm_dc dc_170_4 8 rfl) (kc_tb 380 (by decide +kernel))) (
  jm_gc (pu_putA _ _) (sn_putAF (jm_dc dc_170_4 9 rfl) flw_11_91 rfl rfl) (
  jm_gc (pu_aload _ _) (sn_aload_n (i := 0) (jm_dc dc_170_4 10 rfl)) (
  jm_gc (pu_ic _ _) (sn_bipush (jm_dc dc_170_4 11 rfl) (by decide)) (
  jm_gc (pu_newa _ _) (sn_newI (jm_dc dc_170_4 12 rfl) (kc_tb 91 (by decide +kernel))) (
  jm_gc (pu_putA _ _) (sn_putAF (jm_dc dc_170_4 13 rfl) flw_11_94 rfl rfl) (
  jm_gc (pu_aload _ _) (sn_aload_n (i := 0) (jm_dc dc_170_4 14 rfl)) (
  jm_gc (pu_ic _ _) (sn_bipush (jm_dc dc_170_4 15 rfl) (by decide)) (
  jm_gc (pu_newa _ _) (sn_newI (jm_dc dc_170_4 16 rfl) (kc_tb 91 (by decide +kernel))) (
  jm_gc (pu_putA _ _) (sn_putAF (jm_dc dc_170_4 17 rfl) flw_11_97 rfl rfl) (
  jm_gc (pu_aload _ _) (sn_aload_n (i := 0) (jm_dc dc_170_4 18 rfl)) (
  jm_gc (pu_ic _ _) (sn_bipush (jm_dc dc_170_4 19 rfl) (by decide)) (
  jm_gc (pu_newa _ _) (sn_newI (jm_dc dc_170_4 20 rfl) (kc_tb 91 (by decide +kernel))) (
  jm_gc (pu_putA _ _) (sn_putAF (jm_dc dc_170_4 21 rfl) flw_11_100 rfl rfl) (
  jm_gc (pu_aload _ _) (sn_aload_n (i := 0) (jm_dc dc_170_4 22 rfl)) (
  jm_gc (pu_ic _ _) (sn_bipush (jm_dc dc_170_4 23 rfl) (by decide)) (
  jm_gc (pu_newa _ _) (sn_newI (jm_dc dc_170_4 24 rfl) (kc_tb 91 (by decide +kernel))) (
  jm_gn)))))))))))))))))))))))))
theorem dc_170_5 : ([(256, .putfield 103, 3), (259, .aload_n 0, 1), (260, .sipush 240, 3), (263, .newarray .int, 2), (265, .putfield 106, 3), (268, .aload_n 0, 1), (269, .sipush 240, 3), (272, .newarray .int, 2), (274, .putfield 109, 3), (277, .aload_n 0, 1), (278, .bipush 30, 2), (280, .newarray .int, 2), (282, .putfield 112, 3), (285, .aload_n 0, 1), (286, .bipush 30, 2), (288, .newarray .int, 2), (290, .putfield 115, 3), (293, .aload_n 0, 1), (294, .bipush 30, 2), (296, .newarray .int, 2), (298, .putfield 118, 3), (301, .aload_n 0, 1), (302, .bipush 30, 2), (304, .newarray .int, 2), (306, .putfield 121, 3)] : List (Nat × Instr × Nat)).all (fun e => decide (decode prog_14_method_1_code e.1 = .ok e.2)) = true := by decide +kernel
abbrev cl_170_5 : List (Nat × jm_O) := [(256, op_putA 11 39), (259, op_aload 0 1), (260, op_ic 240 3), (263, op_newa 13 2), (265, op_putA 11 43), (268, op_aload 0 1), (269, op_ic 240 3), (272, op_newa 13 2), (274, op_putA 11 44), (277, op_aload 0 1), (278, op_ic 30 2), (280, op_newa 13 2), (282, op_putA 11 45), (285, op_aload 0 1), (286, op_ic 30 2), (288, op_newa 13 2), (290, op_putA 11 46), (293, op_aload 0 1), (294, op_ic 30 2), (296, op_newa 13 2), (298, op_putA 11 47), (301, op_aload 0 1), (302, op_ic 30 2), (304, op_newa 13 2), (306, op_putA 11 48)]
set_option maxRecDepth 100000 in
theorem gl_170_5 : jm_gl "FrescoWallModel" prog_14_method_1_code 2 (Option.none : Option Jvm.ClassFile.FieldType) true cl_170_5 :=
  jm_gc (pu_putA _ _) (sn_putAF (jm_dc dc_170_5 0 rfl) flw_11_103 rfl rfl) (
  jm_gc (pu_aload _ _) (sn_aload_n (i := 0) (jm_dc dc_170_5 1 rfl)) (
  jm_gc (pu_ic _ _) (sn_sipush (jm_dc dc_170_5 2 rfl) (by decide)) (
  jm_gc (pu_newa _ _) (sn_newI (jm_dc dc_170_5 3 rfl) (kc_tb 91 (by decide +kernel))) (
  jm_gc (pu_putA _ _) (sn_putAF (jm_dc dc_170_5 4 rfl) flw_11_106 rfl rfl) (
  jm_gc (pu_aload _ _) (sn_aload_n (i := 0) (jm_dc dc_170_5 5 rfl)) (
  jm_gc (pu_ic _ _) (sn_sipush (jm_dc dc_170_5 6 rfl) (by decide)) (
  jm_gc (pu_newa _ _) (sn_newI (jm_dc dc_170_5 7 rfl) (kc_tb 91 (by decide +kernel))) (
  jm_gc (pu_putA _ _) (sn_putAF (jm_dc dc_170_5 8 rfl) flw_11_109 rfl rfl) (
  jm_gc (pu_aload _ _) (sn_aload_n (i := 0) (jm_dc dc_170_5 9 rfl)) (
  jm_gc (pu_ic _ _) (sn_bipush (jm_dc dc_170_5 10 rfl) (by decide)) (
  jm_gc (pu_newa _ _) (sn_newI (jm_dc dc_170_5 11 rfl) (kc_tb 91 (by decide +kernel))) (
  jm_gc (pu_putA _ _) (sn_putAF (jm_dc dc_170_5 12 rfl) flw_11_112 rfl rfl) (
  jm_gc (pu_aload _ _) (sn_aload_n (i := 0) (jm_dc dc_170_5 13 rfl)) (
  jm_gc (pu_ic _ _) (sn_bipush (jm_dc dc_170_5 14 rfl) (by decide)) (
  jm_gc (pu_newa _ _) (sn_newI (jm_dc dc_170_5 15 rfl) (kc_tb 91 (by decide +kernel))) (
  jm_gc (pu_putA _ _) (sn_putAF (jm_dc dc_170_5 16 rfl) flw_11_115 rfl rfl) (
  jm_gc (pu_aload _ _) (sn_aload_n (i := 0) (jm_dc dc_170_5 17 rfl)) (
  jm_gc (pu_ic _ _) (sn_bipush (jm_dc dc_170_5 18 rfl) (by decide)) (
  jm_gc (pu_newa _ _) (sn_newI (jm_dc dc_170_5 19 rfl) (kc_tb 91 (by decide +kernel))) (
  jm_gc (pu_putA _ _) (sn_putAF (jm_dc dc_170_5 20 rfl) flw_11_118 rfl rfl) (
  jm_gc (pu_aload _ _) (sn_aload_n (i := 0) (jm_dc dc_170_5 21 rfl)) (
  jm_gc (pu_ic _ _) (sn_bipush (jm_dc dc_170_5 22 rfl) (by decide)) (
  jm_gc (pu_newa _ _) (sn_newI (jm_dc dc_170_5 23 rfl) (kc_tb 91 (by decide +kernel))) (
  jm_gc (pu_putA _ _) (sn_putAF (jm_dc dc_170_5 24 rfl) flw_11_121 rfl rfl) (
  jm_gn)))))))))))))))))))))))))
theorem dc_170_6 : ([(309, .aload_n 0, 1), (310, .bipush 60, 2), (312, .newarray .boolean, 2), (314, .putfield 124, 3), (317, .aload_n 0, 1), (318, .bipush 30, 2), (320, .newarray .int, 2), (322, .putfield 127, 3), (325, .aload_n 0, 1), (326, .bipush 60, 2), (328, .newarray .int, 2), (330, .putfield 130, 3), (333, .aload_n 0, 1), (334, .bipush 30, 2), (336, .newarray .int, 2), (338, .putfield 133, 3), (341, .aload_n 0, 1), (342, .bipush 30, 2), (344, .newarray .int, 2), (346, .putfield 136, 3), (349, .aload_n 0, 1), (350, .bipush 30, 2), (352, .newarray .int, 2), (354, .putfield 139, 3), (357, .aload_n 0, 1)] : List (Nat × Instr × Nat)).all (fun e => decide (decode prog_14_method_1_code e.1 = .ok e.2)) = true := by decide +kernel
abbrev cl_170_6 : List (Nat × jm_O) := [(309, op_aload 0 1), (310, op_ic 60 2), (312, op_newa 15 2), (314, op_putA 11 52), (317, op_aload 0 1), (318, op_ic 30 2), (320, op_newa 13 2), (322, op_putA 11 53), (325, op_aload 0 1), (326, op_ic 60 2), (328, op_newa 13 2), (330, op_putA 11 54), (333, op_aload 0 1), (334, op_ic 30 2), (336, op_newa 13 2), (338, op_putA 11 56), (341, op_aload 0 1), (342, op_ic 30 2), (344, op_newa 13 2), (346, op_putA 11 57), (349, op_aload 0 1), (350, op_ic 30 2), (352, op_newa 13 2), (354, op_putA 11 58), (357, op_aload 0 1)]
set_option maxRecDepth 100000 in
theorem gl_170_6 : jm_gl "FrescoWallModel" prog_14_method_1_code 2 (Option.none : Option Jvm.ClassFile.FieldType) true cl_170_6 :=
  jm_gc (pu_aload _ _) (sn_aload_n (i := 0) (jm_dc dc_170_6 0 rfl)) (
  jm_gc (pu_ic _ _) (sn_bipush (jm_dc dc_170_6 1 rfl) (by decide)) (
  jm_gc (pu_newa _ _) (sn_newZ (jm_dc dc_170_6 2 rfl) (kc_tb 380 (by decide +kernel))) (
  jm_gc (pu_putA _ _) (sn_putAF (jm_dc dc_170_6 3 rfl) flw_11_124 rfl rfl) (
  jm_gc (pu_aload _ _) (sn_aload_n (i := 0) (jm_dc dc_170_6 4 rfl)) (
  jm_gc (pu_ic _ _) (sn_bipush (jm_dc dc_170_6 5 rfl) (by decide)) (
  jm_gc (pu_newa _ _) (sn_newI (jm_dc dc_170_6 6 rfl) (kc_tb 91 (by decide +kernel))) (
  jm_gc (pu_putA _ _) (sn_putAF (jm_dc dc_170_6 7 rfl) flw_11_127 rfl rfl) (
  jm_gc (pu_aload _ _) (sn_aload_n (i := 0) (jm_dc dc_170_6 8 rfl)) (
  jm_gc (pu_ic _ _) (sn_bipush (jm_dc dc_170_6 9 rfl) (by decide)) (
  jm_gc (pu_newa _ _) (sn_newI (jm_dc dc_170_6 10 rfl) (kc_tb 91 (by decide +kernel))) (
  jm_gc (pu_putA _ _) (sn_putAF (jm_dc dc_170_6 11 rfl) flw_11_130 rfl rfl) (
  jm_gc (pu_aload _ _) (sn_aload_n (i := 0) (jm_dc dc_170_6 12 rfl)) (
  jm_gc (pu_ic _ _) (sn_bipush (jm_dc dc_170_6 13 rfl) (by decide)) (
  jm_gc (pu_newa _ _) (sn_newI (jm_dc dc_170_6 14 rfl) (kc_tb 91 (by decide +kernel))) (
  jm_gc (pu_putA _ _) (sn_putAF (jm_dc dc_170_6 15 rfl) flw_11_133 rfl rfl) (
  jm_gc (pu_aload _ _) (sn_aload_n (i := 0) (jm_dc dc_170_6 16 rfl)) (
  jm_gc (pu_ic _ _) (sn_bipush (jm_dc dc_170_6 17 rfl) (by decide)) (
  jm_gc (pu_newa _ _) (sn_newI (jm_dc dc_170_6 18 rfl) (kc_tb 91 (by decide +kernel))) (
  jm_gc (pu_putA _ _) (sn_putAF (jm_dc dc_170_6 19 rfl) flw_11_136 rfl rfl) (
  jm_gc (pu_aload _ _) (sn_aload_n (i := 0) (jm_dc dc_170_6 20 rfl)) (
  jm_gc (pu_ic _ _) (sn_bipush (jm_dc dc_170_6 21 rfl) (by decide)) (
  jm_gc (pu_newa _ _) (sn_newI (jm_dc dc_170_6 22 rfl) (kc_tb 91 (by decide +kernel))) (
  jm_gc (pu_putA _ _) (sn_putAF (jm_dc dc_170_6 23 rfl) flw_11_139 rfl rfl) (
  jm_gc (pu_aload _ _) (sn_aload_n (i := 0) (jm_dc dc_170_6 24 rfl)) (
  jm_gn)))))))))))))))))))))))))
theorem dc_170_7 : ([(358, .sipush 256, 3), (361, .newarray .int, 2), (363, .putfield 142, 3), (366, .aload_n 0, 1), (367, .sipush 256, 3), (370, .newarray .int, 2), (372, .putfield 145, 3), (375, .aload_n 0, 1), (376, .iconst 3, 1), (377, .newarray .int, 2), (379, .putfield 148, 3), (382, .aload_n 0, 1), (383, .iconst 3, 1), (384, .newarray .int, 2), (386, .putfield 151, 3), (389, .aload_n 0, 1), (390, .iconst 3, 1), (391, .newarray .int, 2), (393, .putfield 154, 3), (396, .aload_n 0, 1), (397, .iconst 3, 1), (398, .newarray .int, 2), (400, .putfield 157, 3), (403, .aload_n 0, 1), (404, .iconst 3, 1)] : List (Nat × Instr × Nat)).all (fun e => decide (decode prog_14_method_1_code e.1 = .ok e.2)) = true := by decide +kernel
abbrev cl_170_7 : List (Nat × jm_O) := [(358, op_ic 256 3), (361, op_newa 13 2), (363, op_putA 11 64), (366, op_aload 0 1), (367, op_ic 256 3), (370, op_newa 13 2), (372, op_putA 11 65), (375, op_aload 0 1), (376, op_ic 3 1), (377, op_newa 13 2), (379, op_putA 11 68), (382, op_aload 0 1), (383, op_ic 3 1), (384, op_newa 13 2), (386, op_putA 11 69), (389, op_aload 0 1), (390, op_ic 3 1), (391, op_newa 13 2), (393, op_putA 11 70), (396, op_aload 0 1), (397, op_ic 3 1), (398, op_newa 13 2), (400, op_putA 11 71), (403, op_aload 0 1), (404, op_ic 3 1)]
set_option maxRecDepth 100000 in
theorem gl_170_7 : jm_gl "FrescoWallModel" prog_14_method_1_code 2 (Option.none : Option Jvm.ClassFile.FieldType) true cl_170_7 :=
  jm_gc (pu_ic _ _) (sn_sipush (jm_dc dc_170_7 0 rfl) (by decide)) (
  jm_gc (pu_newa _ _) (sn_newI (jm_dc dc_170_7 1 rfl) (kc_tb 91 (by decide +kernel))) (
  jm_gc (pu_putA _ _) (sn_putAF (jm_dc dc_170_7 2 rfl) flw_11_142 rfl rfl) (
  jm_gc (pu_aload _ _) (sn_aload_n (i := 0) (jm_dc dc_170_7 3 rfl)) (
  jm_gc (pu_ic _ _) (sn_sipush (jm_dc dc_170_7 4 rfl) (by decide)) (
  jm_gc (pu_newa _ _) (sn_newI (jm_dc dc_170_7 5 rfl) (kc_tb 91 (by decide +kernel))) (
  jm_gc (pu_putA _ _) (sn_putAF (jm_dc dc_170_7 6 rfl) flw_11_145 rfl rfl) (
  jm_gc (pu_aload _ _) (sn_aload_n (i := 0) (jm_dc dc_170_7 7 rfl)) (
  jm_gc (pu_ic _ _) (sn_iconst (jm_dc dc_170_7 8 rfl) (by decide)) (
  jm_gc (pu_newa _ _) (sn_newI (jm_dc dc_170_7 9 rfl) (kc_tb 91 (by decide +kernel))) (
  jm_gc (pu_putA _ _) (sn_putAF (jm_dc dc_170_7 10 rfl) flw_11_148 rfl rfl) (
  jm_gc (pu_aload _ _) (sn_aload_n (i := 0) (jm_dc dc_170_7 11 rfl)) (
  jm_gc (pu_ic _ _) (sn_iconst (jm_dc dc_170_7 12 rfl) (by decide)) (
  jm_gc (pu_newa _ _) (sn_newI (jm_dc dc_170_7 13 rfl) (kc_tb 91 (by decide +kernel))) (
  jm_gc (pu_putA _ _) (sn_putAF (jm_dc dc_170_7 14 rfl) flw_11_151 rfl rfl) (
  jm_gc (pu_aload _ _) (sn_aload_n (i := 0) (jm_dc dc_170_7 15 rfl)) (
  jm_gc (pu_ic _ _) (sn_iconst (jm_dc dc_170_7 16 rfl) (by decide)) (
  jm_gc (pu_newa _ _) (sn_newI (jm_dc dc_170_7 17 rfl) (kc_tb 91 (by decide +kernel))) (
  jm_gc (pu_putA _ _) (sn_putAF (jm_dc dc_170_7 18 rfl) flw_11_154 rfl rfl) (
  jm_gc (pu_aload _ _) (sn_aload_n (i := 0) (jm_dc dc_170_7 19 rfl)) (
  jm_gc (pu_ic _ _) (sn_iconst (jm_dc dc_170_7 20 rfl) (by decide)) (
  jm_gc (pu_newa _ _) (sn_newI (jm_dc dc_170_7 21 rfl) (kc_tb 91 (by decide +kernel))) (
  jm_gc (pu_putA _ _) (sn_putAF (jm_dc dc_170_7 22 rfl) flw_11_157 rfl rfl) (
  jm_gc (pu_aload _ _) (sn_aload_n (i := 0) (jm_dc dc_170_7 23 rfl)) (
  jm_gc (pu_ic _ _) (sn_iconst (jm_dc dc_170_7 24 rfl) (by decide)) (
  jm_gn)))))))))))))))))))))))))
theorem dc_170_8 : ([(405, .newarray .int, 2), (407, .putfield 160, 3), (410, .aload_n 0, 1), (411, .iconst 3, 1), (412, .newarray .int, 2), (414, .putfield 163, 3), (417, .aload_n 0, 1), (418, .iconst 3, 1), (419, .newarray .int, 2), (421, .putfield 166, 3), (424, .aload_n 0, 1), (425, .iconst 3, 1), (426, .newarray .int, 2), (428, .putfield 169, 3), (431, .aload_n 0, 1), (432, .iconst 3, 1), (433, .newarray .int, 2), (435, .putfield 172, 3), (438, .aload_n 0, 1), (439, .iconst 3, 1), (440, .newarray .int, 2), (442, .putfield 175, 3), (445, .aload_n 0, 1), (446, .iconst 3, 1), (447, .newarray .int, 2)] : List (Nat × Instr × Nat)).all (fun e => decide (decode prog_14_method_1_code e.1 = .ok e.2)) = true := by decide +kernel
abbrev cl_170_8 : List (Nat × jm_O) := [(405, op_newa 13 2), (407, op_putA 11 74), (410, op_aload 0 1), (411, op_ic 3 1), (412, op_newa 13 2), (414, op_putA 11 75), (417, op_aload 0 1), (418, op_ic 3 1), (419, op_newa 13 2), (421, op_putA 11 76), (424, op_aload 0 1), (425, op_ic 3 1), (426, op_newa 13 2), (428, op_putA 11 78), (431, op_aload 0 1), (432, op_ic 3 1), (433, op_newa 13 2), (435, op_putA 11 79), (438, op_aload 0 1), (439, op_ic 3 1), (440, op_newa 13 2), (442, op_putA 11 80), (445, op_aload 0 1), (446, op_ic 3 1), (447, op_newa 13 2)]
set_option maxRecDepth 100000 in
theorem gl_170_8 : jm_gl "FrescoWallModel" prog_14_method_1_code 2 (Option.none : Option Jvm.ClassFile.FieldType) true cl_170_8 :=
  jm_gc (pu_newa _ _) (sn_newI (jm_dc dc_170_8 0 rfl) (kc_tb 91 (by decide +kernel))) (
  jm_gc (pu_putA _ _) (sn_putAF (jm_dc dc_170_8 1 rfl) flw_11_160 rfl rfl) (
  jm_gc (pu_aload _ _) (sn_aload_n (i := 0) (jm_dc dc_170_8 2 rfl)) (
  jm_gc (pu_ic _ _) (sn_iconst (jm_dc dc_170_8 3 rfl) (by decide)) (
  jm_gc (pu_newa _ _) (sn_newI (jm_dc dc_170_8 4 rfl) (kc_tb 91 (by decide +kernel))) (
  jm_gc (pu_putA _ _) (sn_putAF (jm_dc dc_170_8 5 rfl) flw_11_163 rfl rfl) (
  jm_gc (pu_aload _ _) (sn_aload_n (i := 0) (jm_dc dc_170_8 6 rfl)) (
  jm_gc (pu_ic _ _) (sn_iconst (jm_dc dc_170_8 7 rfl) (by decide)) (
  jm_gc (pu_newa _ _) (sn_newI (jm_dc dc_170_8 8 rfl) (kc_tb 91 (by decide +kernel))) (
  jm_gc (pu_putA _ _) (sn_putAF (jm_dc dc_170_8 9 rfl) flw_11_166 rfl rfl) (
  jm_gc (pu_aload _ _) (sn_aload_n (i := 0) (jm_dc dc_170_8 10 rfl)) (
  jm_gc (pu_ic _ _) (sn_iconst (jm_dc dc_170_8 11 rfl) (by decide)) (
  jm_gc (pu_newa _ _) (sn_newI (jm_dc dc_170_8 12 rfl) (kc_tb 91 (by decide +kernel))) (
  jm_gc (pu_putA _ _) (sn_putAF (jm_dc dc_170_8 13 rfl) flw_11_169 rfl rfl) (
  jm_gc (pu_aload _ _) (sn_aload_n (i := 0) (jm_dc dc_170_8 14 rfl)) (
  jm_gc (pu_ic _ _) (sn_iconst (jm_dc dc_170_8 15 rfl) (by decide)) (
  jm_gc (pu_newa _ _) (sn_newI (jm_dc dc_170_8 16 rfl) (kc_tb 91 (by decide +kernel))) (
  jm_gc (pu_putA _ _) (sn_putAF (jm_dc dc_170_8 17 rfl) flw_11_172 rfl rfl) (
  jm_gc (pu_aload _ _) (sn_aload_n (i := 0) (jm_dc dc_170_8 18 rfl)) (
  jm_gc (pu_ic _ _) (sn_iconst (jm_dc dc_170_8 19 rfl) (by decide)) (
  jm_gc (pu_newa _ _) (sn_newI (jm_dc dc_170_8 20 rfl) (kc_tb 91 (by decide +kernel))) (
  jm_gc (pu_putA _ _) (sn_putAF (jm_dc dc_170_8 21 rfl) flw_11_175 rfl rfl) (
  jm_gc (pu_aload _ _) (sn_aload_n (i := 0) (jm_dc dc_170_8 22 rfl)) (
  jm_gc (pu_ic _ _) (sn_iconst (jm_dc dc_170_8 23 rfl) (by decide)) (
  jm_gc (pu_newa _ _) (sn_newI (jm_dc dc_170_8 24 rfl) (kc_tb 91 (by decide +kernel))) (
  jm_gn)))))))))))))))))))))))))
theorem dc_170_9 : ([(449, .putfield 178, 3), (452, .aload_n 0, 1), (453, .bipush 30, 2), (455, .newarray .boolean, 2), (457, .putfield 181, 3), (460, .aload_n 0, 1), (461, .bipush 30, 2), (463, .newarray .boolean, 2), (465, .putfield 184, 3), (468, .aload_n 0, 1), (469, .bipush 30, 2), (471, .newarray .int, 2), (473, .putfield 187, 3), (476, .aload_n 0, 1), (477, .bipush 100, 2), (479, .newarray .int, 2), (481, .putfield 190, 3), (484, .aload_n 0, 1), (485, .bipush 100, 2), (487, .newarray .int, 2), (489, .putfield 193, 3), (492, .aload_n 0, 1), (493, .bipush 100, 2), (495, .newarray .int, 2), (497, .putfield 196, 3)] : List (Nat × Instr × Nat)).all (fun e => decide (decode prog_14_method_1_code e.1 = .ok e.2)) = true := by decide +kernel
abbrev cl_170_9 : List (Nat × jm_O) := [(449, op_putA 11 81), (452, op_aload 0 1), (453, op_ic 30 2), (455, op_newa 15 2), (457, op_putA 11 82), (460, op_aload 0 1), (461, op_ic 30 2), (463, op_newa 15 2), (465, op_putA 11 83), (468, op_aload 0 1), (469, op_ic 30 2), (471, op_newa 13 2), (473, op_putA 11 85), (476, op_aload 0 1), (477, op_ic 100 2), (479, op_newa 13 2), (481, op_putA 11 88), (484, op_aload 0 1), (485, op_ic 100 2), (487, op_newa 13 2), (489, op_putA 11 89), (492, op_aload 0 1), (493, op_ic 100 2), (495, op_newa 13 2), (497, op_putA 11 90)]
set_option maxRecDepth 100000 in
theorem gl_170_9 : jm_gl "FrescoWallModel" prog_14_method_1_code 2 (Option.none : Option Jvm.ClassFile.FieldType) true cl_170_9 :=
  jm_gc (pu_putA _ _) (sn_putAF (jm_dc dc_170_9 0 rfl) flw_11_178 rfl rfl) (
  jm_gc (pu_aload _ _) (sn_aload_n (i := 0) (jm_dc dc_170_9 1 rfl)) (
  jm_gc (pu_ic _ _) (sn_bipush (jm_dc dc_170_9 2 rfl) (by decide)) (
  jm_gc (pu_newa _ _) (sn_newZ (jm_dc dc_170_9 3 rfl) (kc_tb 380 (by decide +kernel))) (
  jm_gc (pu_putA _ _) (sn_putAF (jm_dc dc_170_9 4 rfl) flw_11_181 rfl rfl) (
  jm_gc (pu_aload _ _) (sn_aload_n (i := 0) (jm_dc dc_170_9 5 rfl)) (
  jm_gc (pu_ic _ _) (sn_bipush (jm_dc dc_170_9 6 rfl) (by decide)) (
  jm_gc (pu_newa _ _) (sn_newZ (jm_dc dc_170_9 7 rfl) (kc_tb 380 (by decide +kernel))) (
  jm_gc (pu_putA _ _) (sn_putAF (jm_dc dc_170_9 8 rfl) flw_11_184 rfl rfl) (
  jm_gc (pu_aload _ _) (sn_aload_n (i := 0) (jm_dc dc_170_9 9 rfl)) (
  jm_gc (pu_ic _ _) (sn_bipush (jm_dc dc_170_9 10 rfl) (by decide)) (
  jm_gc (pu_newa _ _) (sn_newI (jm_dc dc_170_9 11 rfl) (kc_tb 91 (by decide +kernel))) (
  jm_gc (pu_putA _ _) (sn_putAF (jm_dc dc_170_9 12 rfl) flw_11_187 rfl rfl) (
  jm_gc (pu_aload _ _) (sn_aload_n (i := 0) (jm_dc dc_170_9 13 rfl)) (
  jm_gc (pu_ic _ _) (sn_bipush (jm_dc dc_170_9 14 rfl) (by decide)) (
  jm_gc (pu_newa _ _) (sn_newI (jm_dc dc_170_9 15 rfl) (kc_tb 91 (by decide +kernel))) (
  jm_gc (pu_putA _ _) (sn_putAF (jm_dc dc_170_9 16 rfl) flw_11_190 rfl rfl) (
  jm_gc (pu_aload _ _) (sn_aload_n (i := 0) (jm_dc dc_170_9 17 rfl)) (
  jm_gc (pu_ic _ _) (sn_bipush (jm_dc dc_170_9 18 rfl) (by decide)) (
  jm_gc (pu_newa _ _) (sn_newI (jm_dc dc_170_9 19 rfl) (kc_tb 91 (by decide +kernel))) (
  jm_gc (pu_putA _ _) (sn_putAF (jm_dc dc_170_9 20 rfl) flw_11_193 rfl rfl) (
  jm_gc (pu_aload _ _) (sn_aload_n (i := 0) (jm_dc dc_170_9 21 rfl)) (
  jm_gc (pu_ic _ _) (sn_bipush (jm_dc dc_170_9 22 rfl) (by decide)) (
  jm_gc (pu_newa _ _) (sn_newI (jm_dc dc_170_9 23 rfl) (kc_tb 91 (by decide +kernel))) (
  jm_gc (pu_putA _ _) (sn_putAF (jm_dc dc_170_9 24 rfl) flw_11_196 rfl rfl) (
  jm_gn)))))))))))))))))))))))))
theorem dc_170_10 : ([(500, .aload_n 0, 1), (501, .bipush 60, 2), (503, .newarray .int, 2), (505, .putfield 199, 3), (508, .aload_n 0, 1), (509, .bipush 60, 2), (511, .newarray .int, 2), (513, .putfield 202, 3), (516, .aload_n 0, 1), (517, .sipush 7168, 3), (520, .newarray .int, 2), (522, .putfield 205, 3), (525, .aload_n 0, 1), (526, .bipush 6, 2), (528, .newarray .int, 2), (530, .putfield 208, 3), (533, .iconst 0, 1), (534, .istore_n 1, 1), (535, .iload_n 1, 1), (536, .bipush 10, 2), (538, .if_icmp .ge 20, 3), (541, .aload_n 0, 1), (542, .getfield 63, 3), (545, .bipush 11, 2), (547, .iload_n 1, 1)] : List (Nat × Instr × Nat)).all (fun e => decide (decode prog_14_method_1_code e.1 = .ok e.2)) = true := by decide +kernel
abbrev cl_170_10 : List (Nat × jm_O) := [(500, op_aload 0 1), (501, op_ic 60 2), (503, op_newa 13 2), (505, op_putA 11 91), (508, op_aload 0 1), (509, op_ic 60 2), (511, op_newa 13 2), (513, op_putA 11 92), (516, op_aload 0 1), (517, op_ic 7168 3), (520, op_newa 13 2), (522, op_putA 11 93), (525, op_aload 0 1), (526, op_ic 6 2), (528, op_newa 13 2), (530, op_putA 11 94), (533, op_ic 0 1), (534, op_istore 1 1), (535, op_iload 1 1), (536, op_ic 10 2), (538, op_cge 558), (541, op_aload 0 1), (542, op_getA 11 21), (545, op_ic 11 2), (547, op_iload 1 1)]
set_option maxRecDepth 100000 in
theorem gl_170_10 : jm_gl "FrescoWallModel" prog_14_method_1_code 2 (Option.none : Option Jvm.ClassFile.FieldType) true cl_170_10 :=
  jm_gc (pu_aload _ _) (sn_aload_n (i := 0) (jm_dc dc_170_10 0 rfl)) (
  jm_gc (pu_ic _ _) (sn_bipush (jm_dc dc_170_10 1 rfl) (by decide)) (
  jm_gc (pu_newa _ _) (sn_newI (jm_dc dc_170_10 2 rfl) (kc_tb 91 (by decide +kernel))) (
  jm_gc (pu_putA _ _) (sn_putAF (jm_dc dc_170_10 3 rfl) flw_11_199 rfl rfl) (
  jm_gc (pu_aload _ _) (sn_aload_n (i := 0) (jm_dc dc_170_10 4 rfl)) (
  jm_gc (pu_ic _ _) (sn_bipush (jm_dc dc_170_10 5 rfl) (by decide)) (
  jm_gc (pu_newa _ _) (sn_newI (jm_dc dc_170_10 6 rfl) (kc_tb 91 (by decide +kernel))) (
  jm_gc (pu_putA _ _) (sn_putAF (jm_dc dc_170_10 7 rfl) flw_11_202 rfl rfl) (
  jm_gc (pu_aload _ _) (sn_aload_n (i := 0) (jm_dc dc_170_10 8 rfl)) (
  jm_gc (pu_ic _ _) (sn_sipush (jm_dc dc_170_10 9 rfl) (by decide)) (
  jm_gc (pu_newa _ _) (sn_newI (jm_dc dc_170_10 10 rfl) (kc_tb 91 (by decide +kernel))) (
  jm_gc (pu_putA _ _) (sn_putAF (jm_dc dc_170_10 11 rfl) flw_11_205 rfl rfl) (
  jm_gc (pu_aload _ _) (sn_aload_n (i := 0) (jm_dc dc_170_10 12 rfl)) (
  jm_gc (pu_ic _ _) (sn_bipush (jm_dc dc_170_10 13 rfl) (by decide)) (
  jm_gc (pu_newa _ _) (sn_newI (jm_dc dc_170_10 14 rfl) (kc_tb 91 (by decide +kernel))) (
  jm_gc (pu_putA _ _) (sn_putAF (jm_dc dc_170_10 15 rfl) flw_11_208 rfl rfl) (
  jm_gc (pu_ic _ _) (sn_iconst (jm_dc dc_170_10 16 rfl) (by decide)) (
  jm_gc (pu_istore _ _) (sn_istore_n (i := 1) (jm_dc dc_170_10 17 rfl)) (
  jm_gc (pu_iload _ _) (sn_iload_n (i := 1) (jm_dc dc_170_10 18 rfl)) (
  jm_gc (pu_ic _ _) (sn_bipush (jm_dc dc_170_10 19 rfl) (by decide)) (
  jm_gc (pu_cge _) (sn_cge (jm_dc dc_170_10 20 rfl) (by decide)) (
  jm_gc (pu_aload _ _) (sn_aload_n (i := 0) (jm_dc dc_170_10 21 rfl)) (
  jm_gc (pu_getA _ _) (sn_getA (jm_dc dc_170_10 22 rfl) fl_11_63 rfl) (
  jm_gc (pu_ic _ _) (sn_bipush (jm_dc dc_170_10 23 rfl) (by decide)) (
  jm_gc (pu_iload _ _) (sn_iload_n (i := 1) (jm_dc dc_170_10 24 rfl)) (
  jm_gn)))))))))))))))))))))))))
theorem dc_170_11 : ([(548, .imul, 1), (549, .bipush 9, 2), (551, .iastore, 1), (552, .iinc 1 1, 3), (555, .goto (-20), 3), (558, .return_, 1)] : List (Nat × Instr × Nat)).all (fun e => decide (decode prog_14_method_1_code e.1 = .ok e.2)) = true := by decide +kernel
abbrev cl_170_11 : List (Nat × jm_O) := [(548, op_ibin (fun x y => x * y)), (549, op_ic 9 2), (551, op_iast), (552, op_iinc 1 1), (555, op_goto 535), (558, op_vret)]
set_option maxRecDepth 100000 in
theorem gl_170_11 : jm_gl "FrescoWallModel" prog_14_method_1_code 2 (Option.none : Option Jvm.ClassFile.FieldType) true cl_170_11 :=
  jm_gc (pu_ibin _) (sn_imul (jm_dc dc_170_11 0 rfl)) (
  jm_gc (pu_ic _ _) (sn_bipush (jm_dc dc_170_11 1 rfl) (by decide)) (
  jm_gc (pu_iast) (sn_iast (jm_dc dc_170_11 2 rfl)) (
  jm_gc (pu_iinc _ _) (sn_iinc (jm_dc dc_170_11 3 rfl) (by decide)) (
  jm_gc (pu_goto _) (sn_goto (jm_dc dc_170_11 4 rfl) (by decide)) (
  jm_gc (pu_vret) (sn_vret (jm_dc dc_170_11 5 rfl) rfl) (
  jm_gn))))))
theorem dc_171_0 : ([(0, .iload_n 0, 1), (1, .iload_n 1, 1), (2, .if_icmp .lt 12, 3), (5, .iload_n 0, 1), (6, .iload_n 2, 1), (7, .if_icmp .gt 7, 3), (10, .iconst 1, 1), (11, .goto 4, 3), (14, .iconst 0, 1), (15, .ireturn, 1)] : List (Nat × Instr × Nat)).all (fun e => decide (decode prog_14_method_3_code e.1 = .ok e.2)) = true := by decide +kernel
abbrev cl_171_0 : List (Nat × jm_O) := [(0, op_iload 0 1), (1, op_iload 1 1), (2, op_clt 14), (5, op_iload 0 1), (6, op_iload 2 1), (7, op_cgt 14), (10, op_ic 1 1), (11, op_goto 15), (14, op_ic 0 1), (15, op_zret)]
set_option maxRecDepth 100000 in
theorem gl_171_0 : jm_gl "FrescoWallModel" prog_14_method_3_code 3 (Option.some Jvm.ClassFile.FieldType.boolean) false cl_171_0 :=
  jm_gc (pu_iload _ _) (sn_iload_n (i := 0) (jm_dc dc_171_0 0 rfl)) (
  jm_gc (pu_iload _ _) (sn_iload_n (i := 1) (jm_dc dc_171_0 1 rfl)) (
  jm_gc (pu_clt _) (sn_clt (jm_dc dc_171_0 2 rfl) (by decide)) (
  jm_gc (pu_iload _ _) (sn_iload_n (i := 0) (jm_dc dc_171_0 3 rfl)) (
  jm_gc (pu_iload _ _) (sn_iload_n (i := 2) (jm_dc dc_171_0 4 rfl)) (
  jm_gc (pu_cgt _) (sn_cgt (jm_dc dc_171_0 5 rfl) (by decide)) (
  jm_gc (pu_ic _ _) (sn_iconst (jm_dc dc_171_0 6 rfl) (by decide)) (
  jm_gc (pu_goto _) (sn_goto (jm_dc dc_171_0 7 rfl) (by decide)) (
  jm_gc (pu_ic _ _) (sn_iconst (jm_dc dc_171_0 8 rfl) (by decide)) (
  jm_gc (pu_zret) (sn_zret (jm_dc dc_171_0 9 rfl) rfl) (
  jm_gn))))))))))
theorem dc_172_0 : ([(0, .iload_n 1, 1), (1, .iconst 0, 1), (2, .aload_n 0, 1), (3, .getfield 215, 3), (6, .iconst 1, 1), (7, .isub, 1), (8, .invokestatic 218, 3), (11, .ireturn, 1)] : List (Nat × Instr × Nat)).all (fun e => decide (decode prog_14_method_4_code e.1 = .ok e.2)) = true := by decide +kernel
abbrev cl_172_0 : List (Nat × jm_O) := [(0, op_iload 1 1), (1, op_ic 0 1), (2, op_aload 0 1), (3, op_getI 11 3), (6, op_ic 1 1), (7, op_ibin (fun x y => x - y)), (8, op_callS 171 3), (11, op_zret)]
set_option maxRecDepth 100000 in
theorem gl_172_0 : jm_gl "FrescoWallModel" prog_14_method_4_code 2 (Option.some Jvm.ClassFile.FieldType.boolean) false cl_172_0 :=
  jm_gc (pu_iload _ _) (sn_iload_n (i := 1) (jm_dc dc_172_0 0 rfl)) (
  jm_gc (pu_ic _ _) (sn_iconst (jm_dc dc_172_0 1 rfl) (by decide)) (
  jm_gc (pu_aload _ _) (sn_aload_n (i := 0) (jm_dc dc_172_0 2 rfl)) (
  jm_gc (pu_getI _ _) (sn_getI (jm_dc dc_172_0 3 rfl) fl_11_215 (Or.inl rfl)) (
  jm_gc (pu_ic _ _) (sn_iconst (jm_dc dc_172_0 4 rfl) (by decide)) (
  jm_gc (pu_ibin _) (sn_isub (jm_dc dc_172_0 5 rfl)) (
  jm_gc (pu_callS _ _) (sn_callS (jm_dc dc_172_0 6 rfl) lk_11_218) (
  jm_gc (pu_zret) (sn_zret (jm_dc dc_172_0 7 rfl) rfl) (
  jm_gn))))))))
theorem dc_173_0 : ([(0, .aload_n 0, 1), (1, .iload_n 1, 1), (2, .invokevirtual 222, 3), (5, .ifCond .eq 23, 3), (8, .iload_n 2, 1), (9, .iconst 0, 1), (10, .aload_n 0, 1), (11, .getfield 13, 3), (14, .iload_n 1, 1), (15, .iaload, 1), (16, .iconst 1, 1), (17, .isub, 1), (18, .invokestatic 218, 3), (21, .ifCond .eq 7, 3), (24, .iconst 1, 1), (25, .goto 4, 3), (28, .iconst 0, 1), (29, .ireturn, 1)] : List (Nat × Instr × Nat)).all (fun e => decide (decode prog_14_method_5_code e.1 = .ok e.2)) = true := by decide +kernel
abbrev cl_173_0 : List (Nat × jm_O) := [(0, op_aload 0 1), (1, op_iload 1 1), (2, op_callV 11 172 2), (5, op_ifeq 28), (8, op_iload 2 1), (9, op_ic 0 1), (10, op_aload 0 1), (11, op_getA 11 4), (14, op_iload 1 1), (15, op_iald 13), (16, op_ic 1 1), (17, op_ibin (fun x y => x - y)), (18, op_callS 171 3), (21, op_ifeq 28), (24, op_ic 1 1), (25, op_goto 29), (28, op_ic 0 1), (29, op_zret)]
set_option maxRecDepth 100000 in
theorem gl_173_0 : jm_gl "FrescoWallModel" prog_14_method_5_code 3 (Option.some Jvm.ClassFile.FieldType.boolean) false cl_173_0 :=
  jm_gc (pu_aload _ _) (sn_aload_n (i := 0) (jm_dc dc_173_0 0 rfl)) (
  jm_gc (pu_iload _ _) (sn_iload_n (i := 1) (jm_dc dc_173_0 1 rfl)) (
  jm_gc (pu_callV _ _ _) (sn_callV (jm_dc dc_173_0 2 rfl) lk_11_222) (
  jm_gc (pu_ifeq _) (sn_ifeq (jm_dc dc_173_0 3 rfl) (by decide)) (
  jm_gc (pu_iload _ _) (sn_iload_n (i := 2) (jm_dc dc_173_0 4 rfl)) (
  jm_gc (pu_ic _ _) (sn_iconst (jm_dc dc_173_0 5 rfl) (by decide)) (
  jm_gc (pu_aload _ _) (sn_aload_n (i := 0) (jm_dc dc_173_0 6 rfl)) (
  jm_gc (pu_getA _ _) (sn_getA (jm_dc dc_173_0 7 rfl) fl_11_13 rfl) (
  jm_gc (pu_iload _ _) (sn_iload_n (i := 1) (jm_dc dc_173_0 8 rfl)) (
  jm_gc (pu_iald _) (sn_iald (jm_dc dc_173_0 9 rfl)) (
  jm_gc (pu_ic _ _) (sn_iconst (jm_dc dc_173_0 10 rfl) (by decide)) (
  jm_gc (pu_ibin _) (sn_isub (jm_dc dc_173_0 11 rfl)) (
  jm_gc (pu_callS _ _) (sn_callS (jm_dc dc_173_0 12 rfl) lk_11_218) (
  jm_gc (pu_ifeq _) (sn_ifeq (jm_dc dc_173_0 13 rfl) (by decide)) (
  jm_gc (pu_ic _ _) (sn_iconst (jm_dc dc_173_0 14 rfl) (by decide)) (
  jm_gc (pu_goto _) (sn_goto (jm_dc dc_173_0 15 rfl) (by decide)) (
  jm_gc (pu_ic _ _) (sn_iconst (jm_dc dc_173_0 16 rfl) (by decide)) (
  jm_gc (pu_zret) (sn_zret (jm_dc dc_173_0 17 rfl) rfl) (
  jm_gn))))))))))))))))))
theorem dc_174_0 : ([(0, .iload_n 3, 1), (1, .iconst 1, 1), (2, .bipush 8, 2), (4, .invokestatic 218, 3), (7, .ifCond .ne 6, 3), (10, .bipush (-2), 2), (12, .ireturn, 1), (13, .aload_n 0, 1), (14, .getfield 226, 3), (17, .iload_n 3, 1), (18, .iadd, 1), (19, .sipush 240, 3), (22, .if_icmp .le 6, 3), (25, .bipush (-4), 2), (27, .ireturn, 1), (28, .iload_n 3, 1), (29, .iconst 1, 1), (30, .isub, 1), (31, .istore 4, 2), (33, .iload 4, 2), (35, .ifCond .lt 40, 3), (38, .aload_n 0, 1), (39, .getfield 7, 3), (42, .aload_n 0, 1), (43, .getfield 226, 3)] : List (Nat × Instr × Nat)).all (fun e => decide (decode prog_14_method_6_code e.1 = .ok e.2)) = true := by decide +kernel
abbrev cl_174_0 : List (Nat × jm_O) := [(0, op_iload 3 1), (1, op_ic 1 1), (2, op_ic 8 2), (4, op_callS 171 3), (7, op_ifne 13), (10, op_ic (-2) 2), (12, op_iret), (13, op_aload 0 1), (14, op_getI 11 2), (17, op_iload 3 1), (18, op_ibin (fun x y => x + y)), (19, op_ic 240 3), (22, op_cle 28), (25, op_ic (-4) 2), (27, op_iret), (28, op_iload 3 1), (29, op_ic 1 1), (30, op_ibin (fun x y => x - y)), (31, op_istore 4 2), (33, op_iload 4 2), (35, op_iflt 75), (38, op_aload 0 1), (39, op_getA 11 1), (42, op_aload 0 1), (43, op_getI 11 2)]
set_option maxRecDepth 100000 in
theorem gl_174_0 : jm_gl "FrescoWallModel" prog_14_method_6_code 5 (Option.some Jvm.ClassFile.FieldType.int) false cl_174_0 :=
  jm_gc (pu_iload _ _) (sn_iload_n (i := 3) (jm_dc dc_174_0 0 rfl)) (
  jm_gc (pu_ic _ _) (sn_iconst (jm_dc dc_174_0 1 rfl) (by decide)) (
  jm_gc (pu_ic _ _) (sn_bipush (jm_dc dc_174_0 2 rfl) (by decide)) (
  jm_gc (pu_callS _ _) (sn_callS (jm_dc dc_174_0 3 rfl) lk_11_218) (
  jm_gc (pu_ifne _) (sn_ifne (jm_dc dc_174_0 4 rfl) (by decide)) (
  jm_gc (pu_ic _ _) (sn_bipush (jm_dc dc_174_0 5 rfl) (by decide)) (
  jm_gc (pu_iret) (sn_iret (jm_dc dc_174_0 6 rfl) rfl) (
  jm_gc (pu_aload _ _) (sn_aload_n (i := 0) (jm_dc dc_174_0 7 rfl)) (
  jm_gc (pu_getI _ _) (sn_getI (jm_dc dc_174_0 8 rfl) fl_11_226 (Or.inl rfl)) (
  jm_gc (pu_iload _ _) (sn_iload_n (i := 3) (jm_dc dc_174_0 9 rfl)) (
  jm_gc (pu_ibin _) (sn_iadd (jm_dc dc_174_0 10 rfl)) (
  jm_gc (pu_ic _ _) (sn_sipush (jm_dc dc_174_0 11 rfl) (by decide)) (
  jm_gc (pu_cle _) (sn_cle (jm_dc dc_174_0 12 rfl) (by decide)) (
  jm_gc (pu_ic _ _) (sn_bipush (jm_dc dc_174_0 13 rfl) (by decide)) (
  jm_gc (pu_iret) (sn_iret (jm_dc dc_174_0 14 rfl) rfl) (
  jm_gc (pu_iload _ _) (sn_iload_n (i := 3) (jm_dc dc_174_0 15 rfl)) (
  jm_gc (pu_ic _ _) (sn_iconst (jm_dc dc_174_0 16 rfl) (by decide)) (
  jm_gc (pu_ibin _) (sn_isub (jm_dc dc_174_0 17 rfl)) (
  jm_gc (pu_istore _ _) (sn_istore (jm_dc dc_174_0 18 rfl)) (
  jm_gc (pu_iload _ _) (sn_iload (jm_dc dc_174_0 19 rfl)) (
  jm_gc (pu_iflt _) (sn_iflt (jm_dc dc_174_0 20 rfl) (by decide)) (
  jm_gc (pu_aload _ _) (sn_aload_n (i := 0) (jm_dc dc_174_0 21 rfl)) (
  jm_gc (pu_getA _ _) (sn_getA (jm_dc dc_174_0 22 rfl) fl_11_7 rfl) (
  jm_gc (pu_aload _ _) (sn_aload_n (i := 0) (jm_dc dc_174_0 23 rfl)) (
  jm_gc (pu_getI _ _) (sn_getI (jm_dc dc_174_0 24 rfl) fl_11_226 (Or.inl rfl)) (
  jm_gn)))))))))))))))))))))))))
theorem dc_174_1 : ([(46, .lload_n 1, 1), (47, .bipush 8, 2), (49, .iload 4, 2), (51, .imul, 1), (52, .lshr, 1), (53, .ldc2_w 229, 3), (56, .land, 1), (57, .l2i, 1), (58, .iastore, 1), (59, .aload_n 0, 1), (60, .dup, 1), (61, .getfield 226, 3), (64, .iconst 1, 1), (65, .iadd, 1), (66, .putfield 226, 3), (69, .iinc 4 (-1), 3), (72, .goto (-39), 3), (75, .aload_n 0, 1), (76, .getfield 226, 3), (79, .ireturn, 1)] : List (Nat × Instr × Nat)).all (fun e => decide (decode prog_14_method_6_code e.1 = .ok e.2)) = true := by decide +kernel
abbrev cl_174_1 : List (Nat × jm_O) := [(46, op_lload 1 1), (47, op_ic 8 2), (49, op_iload 4 2), (51, op_ibin (fun x y => x * y)), (52, op_lsh (fun x y => x >>> (y.toInt64 &&& 63))), (53, op_lc 255 3), (56, op_lbin (fun x y => x &&& y)), (57, op_l2i), (58, op_iast), (59, op_aload 0 1), (60, op_dup), (61, op_getI 11 2), (64, op_ic 1 1), (65, op_ibin (fun x y => x + y)), (66, op_putI 11 2), (69, op_iinc 4 (-1)), (72, op_goto 33), (75, op_aload 0 1), (76, op_getI 11 2), (79, op_iret)]
set_option maxRecDepth 100000 in
theorem gl_174_1 : jm_gl "FrescoWallModel" prog_14_method_6_code 5 (Option.some Jvm.ClassFile.FieldType.int) false cl_174_1 :=
  jm_gc (pu_lload _ _) (sn_lload_n (i := 1) (jm_dc dc_174_1 0 rfl)) (
  jm_gc (pu_ic _ _) (sn_bipush (jm_dc dc_174_1 1 rfl) (by decide)) (
  jm_gc (pu_iload _ _) (sn_iload (jm_dc dc_174_1 2 rfl)) (
  jm_gc (pu_ibin _) (sn_imul (jm_dc dc_174_1 3 rfl)) (
  jm_gc (pu_lsh _) (sn_lshr (jm_dc dc_174_1 4 rfl)) (
  jm_gc (pu_lc _ _) (sn_ldc2 (jm_dc dc_174_1 5 rfl) (kc_tb 1557 (by decide +kernel))) (
  jm_gc (pu_lbin _) (sn_land (jm_dc dc_174_1 6 rfl)) (
  jm_gc (pu_l2i) (sn_l2i (jm_dc dc_174_1 7 rfl)) (
  jm_gc (pu_iast) (sn_iast (jm_dc dc_174_1 8 rfl)) (
  jm_gc (pu_aload _ _) (sn_aload_n (i := 0) (jm_dc dc_174_1 9 rfl)) (
  jm_gc (pu_dup) (sn_dup (jm_dc dc_174_1 10 rfl)) (
  jm_gc (pu_getI _ _) (sn_getI (jm_dc dc_174_1 11 rfl) fl_11_226 (Or.inl rfl)) (
  jm_gc (pu_ic _ _) (sn_iconst (jm_dc dc_174_1 12 rfl) (by decide)) (
  jm_gc (pu_ibin _) (sn_iadd (jm_dc dc_174_1 13 rfl)) (
  jm_gc (pu_putI _ _) (sn_putI (jm_dc dc_174_1 14 rfl) flw_11_226 rfl) (
  jm_gc (pu_iinc _ _) (sn_iinc (jm_dc dc_174_1 15 rfl) (by decide)) (
  jm_gc (pu_goto _) (sn_goto (jm_dc dc_174_1 16 rfl) (by decide)) (
  jm_gc (pu_aload _ _) (sn_aload_n (i := 0) (jm_dc dc_174_1 17 rfl)) (
  jm_gc (pu_getI _ _) (sn_getI (jm_dc dc_174_1 18 rfl) fl_11_226 (Or.inl rfl)) (
  jm_gc (pu_iret) (sn_iret (jm_dc dc_174_1 19 rfl) rfl) (
  jm_gn))))))))))))))))))))
theorem dc_175_0 : ([(0, .aload_n 0, 1), (1, .getfield 231, 3), (4, .aload_n 0, 1), (5, .getfield 226, 3), (8, .if_icmp .ge 15, 3), (11, .aload_n 0, 1), (12, .getfield 7, 3), (15, .aload_n 0, 1), (16, .getfield 231, 3), (19, .iaload, 1), (20, .goto 4, 3), (23, .iconst (-1), 1), (24, .ireturn, 1)] : List (Nat × Instr × Nat)).all (fun e => decide (decode prog_14_method_7_code e.1 = .ok e.2)) = true := by decide +kernel
abbrev cl_175_0 : List (Nat × jm_O) := [(0, op_aload 0 1), (1, op_getI 11 40), (4, op_aload 0 1), (5, op_getI 11 2), (8, op_cge 23), (11, op_aload 0 1), (12, op_getA 11 1), (15, op_aload 0 1), (16, op_getI 11 40), (19, op_iald 13), (20, op_goto 24), (23, op_ic (-1) 1), (24, op_iret)]
set_option maxRecDepth 100000 in
theorem gl_175_0 : jm_gl "FrescoWallModel" prog_14_method_7_code 1 (Option.some Jvm.ClassFile.FieldType.int) false cl_175_0 :=
  jm_gc (pu_aload _ _) (sn_aload_n (i := 0) (jm_dc dc_175_0 0 rfl)) (
  jm_gc (pu_getI _ _) (sn_getI (jm_dc dc_175_0 1 rfl) fl_11_231 (Or.inl rfl)) (
  jm_gc (pu_aload _ _) (sn_aload_n (i := 0) (jm_dc dc_175_0 2 rfl)) (
  jm_gc (pu_getI _ _) (sn_getI (jm_dc dc_175_0 3 rfl) fl_11_226 (Or.inl rfl)) (
  jm_gc (pu_cge _) (sn_cge (jm_dc dc_175_0 4 rfl) (by decide)) (
  jm_gc (pu_aload _ _) (sn_aload_n (i := 0) (jm_dc dc_175_0 5 rfl)) (
  jm_gc (pu_getA _ _) (sn_getA (jm_dc dc_175_0 6 rfl) fl_11_7 rfl) (
  jm_gc (pu_aload _ _) (sn_aload_n (i := 0) (jm_dc dc_175_0 7 rfl)) (
  jm_gc (pu_getI _ _) (sn_getI (jm_dc dc_175_0 8 rfl) fl_11_231 (Or.inl rfl)) (
  jm_gc (pu_iald _) (sn_iald (jm_dc dc_175_0 9 rfl)) (
  jm_gc (pu_goto _) (sn_goto (jm_dc dc_175_0 10 rfl) (by decide)) (
  jm_gc (pu_ic _ _) (sn_iconst (jm_dc dc_175_0 11 rfl) (by decide)) (
  jm_gc (pu_iret) (sn_iret (jm_dc dc_175_0 12 rfl) rfl) (
  jm_gn)))))))))))))
theorem dc_176_0 : ([(0, .aload_n 0, 1), (1, .invokevirtual 234, 3), (4, .bipush 48, 2), (6, .bipush 57, 2), (8, .invokestatic 218, 3), (11, .ireturn, 1)] : List (Nat × Instr × Nat)).all (fun e => decide (decode prog_14_method_8_code e.1 = .ok e.2)) = true := by decide +kernel
abbrev cl_176_0 : List (Nat × jm_O) := [(0, op_aload 0 1), (1, op_callV 11 175 1), (4, op_ic 48 2), (6, op_ic 57 2), (8, op_callS 171 3), (11, op_zret)]
set_option maxRecDepth 100000 in
theorem gl_176_0 : jm_gl "FrescoWallModel" prog_14_method_8_code 1 (Option.some Jvm.ClassFile.FieldType.boolean) false cl_176_0 :=
  jm_gc (pu_aload _ _) (sn_aload_n (i := 0) (jm_dc dc_176_0 0 rfl)) (
  jm_gc (pu_callV _ _ _) (sn_callV (jm_dc dc_176_0 1 rfl) lk_11_234) (
  jm_gc (pu_ic _ _) (sn_bipush (jm_dc dc_176_0 2 rfl) (by decide)) (
  jm_gc (pu_ic _ _) (sn_bipush (jm_dc dc_176_0 3 rfl) (by decide)) (
  jm_gc (pu_callS _ _) (sn_callS (jm_dc dc_176_0 4 rfl) lk_11_218) (
  jm_gc (pu_zret) (sn_zret (jm_dc dc_176_0 5 rfl) rfl) (
  jm_gn))))))
theorem dc_177_0 : ([(0, .aload_n 0, 1), (1, .aload_n 0, 1), (2, .getfield 238, 3), (5, .ifCond .ne 11, 3), (8, .aload_n 0, 1), (9, .invokevirtual 234, 3), (12, .iload_n 1, 1), (13, .if_icmp .eq 7, 3), (16, .iconst 1, 1), (17, .goto 4, 3), (20, .iconst 0, 1), (21, .putfield 238, 3), (24, .aload_n 0, 1), (25, .dup, 1), (26, .getfield 231, 3), (29, .aload_n 0, 1), (30, .getfield 238, 3), (33, .ifCond .eq 7, 3), (36, .iconst 0, 1), (37, .goto 4, 3), (40, .iconst 1, 1), (41, .iadd, 1), (42, .putfield 231, 3), (45, .return_, 1)] : List (Nat × Instr × Nat)).all (fun e => decide (decode prog_14_method_9_code e.1 = .ok e.2)) = true := by decide +kernel
abbrev cl_177_0 : List (Nat × jm_O) := [(0, op_aload 0 1), (1, op_aload 0 1), (2, op_getI 11 41), (5, op_ifne 16), (8, op_aload 0 1), (9, op_callV 11 175 1), (12, op_iload 1 1), (13, op_ceq 20), (16, op_ic 1 1), (17, op_goto 21), (20, op_ic 0 1), (21, op_putZ 11 41), (24, op_aload 0 1), (25, op_dup), (26, op_getI 11 40), (29, op_aload 0 1), (30, op_getI 11 41), (33, op_ifeq 40), (36, op_ic 0 1), (37, op_goto 41), (40, op_ic 1 1), (41, op_ibin (fun x y => x + y)), (42, op_putI 11 40), (45, op_vret)]
set_option maxRecDepth 100000 in
theorem gl_177_0 : jm_gl "FrescoWallModel" prog_14_method_9_code 2 (Option.none : Option Jvm.ClassFile.FieldType) false cl_177_0 :=
  jm_gc (pu_aload _ _) (sn_aload_n (i := 0) (jm_dc dc_177_0 0 rfl)) (
  jm_gc (pu_aload _ _) (sn_aload_n (i := 0) (jm_dc dc_177_0 1 rfl)) (
  jm_gc (pu_getI _ _) (sn_getI (jm_dc dc_177_0 2 rfl) fl_11_238 (Or.inr rfl)) (
  jm_gc (pu_ifne _) (sn_ifne (jm_dc dc_177_0 3 rfl) (by decide)) (
  jm_gc (pu_aload _ _) (sn_aload_n (i := 0) (jm_dc dc_177_0 4 rfl)) (
  jm_gc (pu_callV _ _ _) (sn_callV (jm_dc dc_177_0 5 rfl) lk_11_234) (
  jm_gc (pu_iload _ _) (sn_iload_n (i := 1) (jm_dc dc_177_0 6 rfl)) (
  jm_gc (pu_ceq _) (sn_ceq (jm_dc dc_177_0 7 rfl) (by decide)) (
  jm_gc (pu_ic _ _) (sn_iconst (jm_dc dc_177_0 8 rfl) (by decide)) (
  jm_gc (pu_goto _) (sn_goto (jm_dc dc_177_0 9 rfl) (by decide)) (
  jm_gc (pu_ic _ _) (sn_iconst (jm_dc dc_177_0 10 rfl) (by decide)) (
  jm_gc (pu_putZ _ _) (sn_putZ (jm_dc dc_177_0 11 rfl) flw_11_238 rfl) (
  jm_gc (pu_aload _ _) (sn_aload_n (i := 0) (jm_dc dc_177_0 12 rfl)) (
  jm_gc (pu_dup) (sn_dup (jm_dc dc_177_0 13 rfl)) (
  jm_gc (pu_getI _ _) (sn_getI (jm_dc dc_177_0 14 rfl) fl_11_231 (Or.inl rfl)) (
  jm_gc (pu_aload _ _) (sn_aload_n (i := 0) (jm_dc dc_177_0 15 rfl)) (
  jm_gc (pu_getI _ _) (sn_getI (jm_dc dc_177_0 16 rfl) fl_11_238 (Or.inr rfl)) (
  jm_gc (pu_ifeq _) (sn_ifeq (jm_dc dc_177_0 17 rfl) (by decide)) (
  jm_gc (pu_ic _ _) (sn_iconst (jm_dc dc_177_0 18 rfl) (by decide)) (
  jm_gc (pu_goto _) (sn_goto (jm_dc dc_177_0 19 rfl) (by decide)) (
  jm_gc (pu_ic _ _) (sn_iconst (jm_dc dc_177_0 20 rfl) (by decide)) (
  jm_gc (pu_ibin _) (sn_iadd (jm_dc dc_177_0 21 rfl)) (
  jm_gc (pu_putI _ _) (sn_putI (jm_dc dc_177_0 22 rfl) flw_11_231 rfl) (
  jm_gc (pu_vret) (sn_vret (jm_dc dc_177_0 23 rfl) rfl) (
  jm_gn))))))))))))))))))))))))
theorem dc_178_0 : ([(0, .aload_n 0, 1), (1, .aload_n 0, 1), (2, .getfield 238, 3), (5, .ifCond .ne 10, 3), (8, .aload_n 0, 1), (9, .invokevirtual 242, 3), (12, .ifCond .ne 7, 3), (15, .iconst 1, 1), (16, .goto 4, 3), (19, .iconst 0, 1), (20, .putfield 238, 3), (23, .aload_n 0, 1), (24, .getfield 238, 3), (27, .ifCond .eq 7, 3), (30, .iconst 0, 1), (31, .goto 10, 3), (34, .aload_n 0, 1), (35, .invokevirtual 234, 3), (38, .bipush 48, 2), (40, .isub, 1), (41, .istore_n 1, 1), (42, .aload_n 0, 1), (43, .dup, 1), (44, .getfield 231, 3), (47, .aload_n 0, 1)] : List (Nat × Instr × Nat)).all (fun e => decide (decode prog_14_method_10_code e.1 = .ok e.2)) = true := by decide +kernel
abbrev cl_178_0 : List (Nat × jm_O) := [(0, op_aload 0 1), (1, op_aload 0 1), (2, op_getI 11 41), (5, op_ifne 15), (8, op_aload 0 1), (9, op_callV 11 176 1), (12, op_ifne 19), (15, op_ic 1 1), (16, op_goto 20), (19, op_ic 0 1), (20, op_putZ 11 41), (23, op_aload 0 1), (24, op_getI 11 41), (27, op_ifeq 34), (30, op_ic 0 1), (31, op_goto 41), (34, op_aload 0 1), (35, op_callV 11 175 1), (38, op_ic 48 2), (40, op_ibin (fun x y => x - y)), (41, op_istore 1 1), (42, op_aload 0 1), (43, op_dup), (44, op_getI 11 40), (47, op_aload 0 1)]
set_option maxRecDepth 100000 in
theorem gl_178_0 : jm_gl "FrescoWallModel" prog_14_method_10_code 2 (Option.some Jvm.ClassFile.FieldType.int) false cl_178_0 :=
  jm_gc (pu_aload _ _) (sn_aload_n (i := 0) (jm_dc dc_178_0 0 rfl)) (
  jm_gc (pu_aload _ _) (sn_aload_n (i := 0) (jm_dc dc_178_0 1 rfl)) (
  jm_gc (pu_getI _ _) (sn_getI (jm_dc dc_178_0 2 rfl) fl_11_238 (Or.inr rfl)) (
  jm_gc (pu_ifne _) (sn_ifne (jm_dc dc_178_0 3 rfl) (by decide)) (
  jm_gc (pu_aload _ _) (sn_aload_n (i := 0) (jm_dc dc_178_0 4 rfl)) (
  jm_gc (pu_callV _ _ _) (sn_callV (jm_dc dc_178_0 5 rfl) lk_11_242) (
  jm_gc (pu_ifne _) (sn_ifne (jm_dc dc_178_0 6 rfl) (by decide)) (
  jm_gc (pu_ic _ _) (sn_iconst (jm_dc dc_178_0 7 rfl) (by decide)) (
  jm_gc (pu_goto _) (sn_goto (jm_dc dc_178_0 8 rfl) (by decide)) (
  jm_gc (pu_ic _ _) (sn_iconst (jm_dc dc_178_0 9 rfl) (by decide)) (
  jm_gc (pu_putZ _ _) (sn_putZ (jm_dc dc_178_0 10 rfl) flw_11_238 rfl) (
  jm_gc (pu_aload _ _) (sn_aload_n (i := 0) (jm_dc dc_178_0 11 rfl)) (
  jm_gc (pu_getI _ _) (sn_getI (jm_dc dc_178_0 12 rfl) fl_11_238 (Or.inr rfl)) (
  jm_gc (pu_ifeq _) (sn_ifeq (jm_dc dc_178_0 13 rfl) (by decide)) (
  jm_gc (pu_ic _ _) (sn_iconst (jm_dc dc_178_0 14 rfl) (by decide)) (
  jm_gc (pu_goto _) (sn_goto (jm_dc dc_178_0 15 rfl) (by decide)) (
  jm_gc (pu_aload _ _) (sn_aload_n (i := 0) (jm_dc dc_178_0 16 rfl)) (
  jm_gc (pu_callV _ _ _) (sn_callV (jm_dc dc_178_0 17 rfl) lk_11_234) (
  jm_gc (pu_ic _ _) (sn_bipush (jm_dc dc_178_0 18 rfl) (by decide)) (
  jm_gc (pu_ibin _) (sn_isub (jm_dc dc_178_0 19 rfl)) (
  jm_gc (pu_istore _ _) (sn_istore_n (i := 1) (jm_dc dc_178_0 20 rfl)) (
  jm_gc (pu_aload _ _) (sn_aload_n (i := 0) (jm_dc dc_178_0 21 rfl)) (
  jm_gc (pu_dup) (sn_dup (jm_dc dc_178_0 22 rfl)) (
  jm_gc (pu_getI _ _) (sn_getI (jm_dc dc_178_0 23 rfl) fl_11_231 (Or.inl rfl)) (
  jm_gc (pu_aload _ _) (sn_aload_n (i := 0) (jm_dc dc_178_0 24 rfl)) (
  jm_gn)))))))))))))))))))))))))
theorem dc_178_1 : ([(48, .getfield 238, 3), (51, .ifCond .eq 7, 3), (54, .iconst 0, 1), (55, .goto 4, 3), (58, .iconst 1, 1), (59, .iadd, 1), (60, .putfield 231, 3), (63, .iload_n 1, 1), (64, .ireturn, 1)] : List (Nat × Instr × Nat)).all (fun e => decide (decode prog_14_method_10_code e.1 = .ok e.2)) = true := by decide +kernel
abbrev cl_178_1 : List (Nat × jm_O) := [(48, op_getI 11 41), (51, op_ifeq 58), (54, op_ic 0 1), (55, op_goto 59), (58, op_ic 1 1), (59, op_ibin (fun x y => x + y)), (60, op_putI 11 40), (63, op_iload 1 1), (64, op_iret)]
set_option maxRecDepth 100000 in
theorem gl_178_1 : jm_gl "FrescoWallModel" prog_14_method_10_code 2 (Option.some Jvm.ClassFile.FieldType.int) false cl_178_1 :=
  jm_gc (pu_getI _ _) (sn_getI (jm_dc dc_178_1 0 rfl) fl_11_238 (Or.inr rfl)) (
  jm_gc (pu_ifeq _) (sn_ifeq (jm_dc dc_178_1 1 rfl) (by decide)) (
  jm_gc (pu_ic _ _) (sn_iconst (jm_dc dc_178_1 2 rfl) (by decide)) (
  jm_gc (pu_goto _) (sn_goto (jm_dc dc_178_1 3 rfl) (by decide)) (
  jm_gc (pu_ic _ _) (sn_iconst (jm_dc dc_178_1 4 rfl) (by decide)) (
  jm_gc (pu_ibin _) (sn_iadd (jm_dc dc_178_1 5 rfl)) (
  jm_gc (pu_putI _ _) (sn_putI (jm_dc dc_178_1 6 rfl) flw_11_231 rfl) (
  jm_gc (pu_iload _ _) (sn_iload_n (i := 1) (jm_dc dc_178_1 7 rfl)) (
  jm_gc (pu_iret) (sn_iret (jm_dc dc_178_1 8 rfl) rfl) (
  jm_gn)))))))))
theorem dc_179_0 : ([(0, .aload_n 0, 1), (1, .getfield 238, 3), (4, .ifCond .ne 16, 3), (7, .aload_n 0, 1), (8, .invokevirtual 234, 3), (11, .bipush 45, 2), (13, .if_icmp .ne 7, 3), (16, .iconst 1, 1), (17, .goto 4, 3), (20, .iconst 0, 1), (21, .istore_n 1, 1), (22, .aload_n 0, 1), (23, .dup, 1), (24, .getfield 231, 3), (27, .iload_n 1, 1), (28, .ifCond .eq 7, 3), (31, .iconst 1, 1), (32, .goto 4, 3), (35, .iconst 0, 1), (36, .iadd, 1), (37, .putfield 231, 3), (40, .aload_n 0, 1), (41, .aload_n 0, 1), (42, .getfield 238, 3), (45, .ifCond .ne 16, 3)] : List (Nat × Instr × Nat)).all (fun e => decide (decode prog_14_method_11_code e.1 = .ok e.2)) = true := by decide +kernel
abbrev cl_179_0 : List (Nat × jm_O) := [(0, op_aload 0 1), (1, op_getI 11 41), (4, op_ifne 20), (7, op_aload 0 1), (8, op_callV 11 175 1), (11, op_ic 45 2), (13, op_cne 20), (16, op_ic 1 1), (17, op_goto 21), (20, op_ic 0 1), (21, op_istore 1 1), (22, op_aload 0 1), (23, op_dup), (24, op_getI 11 40), (27, op_iload 1 1), (28, op_ifeq 35), (31, op_ic 1 1), (32, op_goto 36), (35, op_ic 0 1), (36, op_ibin (fun x y => x + y)), (37, op_putI 11 40), (40, op_aload 0 1), (41, op_aload 0 1), (42, op_getI 11 41), (45, op_ifne 61)]
set_option maxRecDepth 100000 in
theorem gl_179_0 : jm_gl "FrescoWallModel" prog_14_method_11_code 4 (Option.some Jvm.ClassFile.FieldType.int) false cl_179_0 :=
  jm_gc (pu_aload _ _) (sn_aload_n (i := 0) (jm_dc dc_179_0 0 rfl)) (
  jm_gc (pu_getI _ _) (sn_getI (jm_dc dc_179_0 1 rfl) fl_11_238 (Or.inr rfl)) (
  jm_gc (pu_ifne _) (sn_ifne (jm_dc dc_179_0 2 rfl) (by decide)) (
  jm_gc (pu_aload _ _) (sn_aload_n (i := 0) (jm_dc dc_179_0 3 rfl)) (
  jm_gc (pu_callV _ _ _) (sn_callV (jm_dc dc_179_0 4 rfl) lk_11_234) (
  jm_gc (pu_ic _ _) (sn_bipush (jm_dc dc_179_0 5 rfl) (by decide)) (
  jm_gc (pu_cne _) (sn_cne (jm_dc dc_179_0 6 rfl) (by decide)) (
  jm_gc (pu_ic _ _) (sn_iconst (jm_dc dc_179_0 7 rfl) (by decide)) (
  jm_gc (pu_goto _) (sn_goto (jm_dc dc_179_0 8 rfl) (by decide)) (
  jm_gc (pu_ic _ _) (sn_iconst (jm_dc dc_179_0 9 rfl) (by decide)) (
  jm_gc (pu_istore _ _) (sn_istore_n (i := 1) (jm_dc dc_179_0 10 rfl)) (
  jm_gc (pu_aload _ _) (sn_aload_n (i := 0) (jm_dc dc_179_0 11 rfl)) (
  jm_gc (pu_dup) (sn_dup (jm_dc dc_179_0 12 rfl)) (
  jm_gc (pu_getI _ _) (sn_getI (jm_dc dc_179_0 13 rfl) fl_11_231 (Or.inl rfl)) (
  jm_gc (pu_iload _ _) (sn_iload_n (i := 1) (jm_dc dc_179_0 14 rfl)) (
  jm_gc (pu_ifeq _) (sn_ifeq (jm_dc dc_179_0 15 rfl) (by decide)) (
  jm_gc (pu_ic _ _) (sn_iconst (jm_dc dc_179_0 16 rfl) (by decide)) (
  jm_gc (pu_goto _) (sn_goto (jm_dc dc_179_0 17 rfl) (by decide)) (
  jm_gc (pu_ic _ _) (sn_iconst (jm_dc dc_179_0 18 rfl) (by decide)) (
  jm_gc (pu_ibin _) (sn_iadd (jm_dc dc_179_0 19 rfl)) (
  jm_gc (pu_putI _ _) (sn_putI (jm_dc dc_179_0 20 rfl) flw_11_231 rfl) (
  jm_gc (pu_aload _ _) (sn_aload_n (i := 0) (jm_dc dc_179_0 21 rfl)) (
  jm_gc (pu_aload _ _) (sn_aload_n (i := 0) (jm_dc dc_179_0 22 rfl)) (
  jm_gc (pu_getI _ _) (sn_getI (jm_dc dc_179_0 23 rfl) fl_11_238 (Or.inr rfl)) (
  jm_gc (pu_ifne _) (sn_ifne (jm_dc dc_179_0 24 rfl) (by decide)) (
  jm_gn)))))))))))))))))))))))))
theorem dc_179_1 : ([(48, .iload_n 1, 1), (49, .ifCond .eq 16, 3), (52, .aload_n 0, 1), (53, .invokevirtual 234, 3), (56, .bipush 48, 2), (58, .if_icmp .ne 7, 3), (61, .iconst 1, 1), (62, .goto 4, 3), (65, .iconst 0, 1), (66, .putfield 238, 3), (69, .aload_n 0, 1), (70, .invokevirtual 246, 3), (73, .istore_n 2, 1), (74, .aload_n 0, 1), (75, .getfield 238, 3), (78, .ifCond .ne 65, 3), (81, .iload_n 2, 1), (82, .ifCond .le 61, 3), (85, .aload_n 0, 1), (86, .invokevirtual 242, 3), (89, .ifCond .eq 54, 3), (92, .bipush 10, 2), (94, .iload_n 2, 1), (95, .imul, 1), (96, .aload_n 0, 1)] : List (Nat × Instr × Nat)).all (fun e => decide (decode prog_14_method_11_code e.1 = .ok e.2)) = true := by decide +kernel
abbrev cl_179_1 : List (Nat × jm_O) := [(48, op_iload 1 1), (49, op_ifeq 65), (52, op_aload 0 1), (53, op_callV 11 175 1), (56, op_ic 48 2), (58, op_cne 65), (61, op_ic 1 1), (62, op_goto 66), (65, op_ic 0 1), (66, op_putZ 11 41), (69, op_aload 0 1), (70, op_callV 11 178 1), (73, op_istore 2 1), (74, op_aload 0 1), (75, op_getI 11 41), (78, op_ifne 143), (81, op_iload 2 1), (82, op_ifle 143), (85, op_aload 0 1), (86, op_callV 11 176 1), (89, op_ifeq 143), (92, op_ic 10 2), (94, op_iload 2 1), (95, op_ibin (fun x y => x * y)), (96, op_aload 0 1)]
set_option maxRecDepth 100000 in
theorem gl_179_1 : jm_gl "FrescoWallModel" prog_14_method_11_code 4 (Option.some Jvm.ClassFile.FieldType.int) false cl_179_1 :=
  jm_gc (pu_iload _ _) (sn_iload_n (i := 1) (jm_dc dc_179_1 0 rfl)) (
  jm_gc (pu_ifeq _) (sn_ifeq (jm_dc dc_179_1 1 rfl) (by decide)) (
  jm_gc (pu_aload _ _) (sn_aload_n (i := 0) (jm_dc dc_179_1 2 rfl)) (
  jm_gc (pu_callV _ _ _) (sn_callV (jm_dc dc_179_1 3 rfl) lk_11_234) (
  jm_gc (pu_ic _ _) (sn_bipush (jm_dc dc_179_1 4 rfl) (by decide)) (
  jm_gc (pu_cne _) (sn_cne (jm_dc dc_179_1 5 rfl) (by decide)) (
  jm_gc (pu_ic _ _) (sn_iconst (jm_dc dc_179_1 6 rfl) (by decide)) (
  jm_gc (pu_goto _) (sn_goto (jm_dc dc_179_1 7 rfl) (by decide)) (
  jm_gc (pu_ic _ _) (sn_iconst (jm_dc dc_179_1 8 rfl) (by decide)) (
  jm_gc (pu_putZ _ _) (sn_putZ (jm_dc dc_179_1 9 rfl) flw_11_238 rfl) (
  jm_gc (pu_aload _ _) (sn_aload_n (i := 0) (jm_dc dc_179_1 10 rfl)) (
  jm_gc (pu_callV _ _ _) (sn_callV (jm_dc dc_179_1 11 rfl) lk_11_246) (
  jm_gc (pu_istore _ _) (sn_istore_n (i := 2) (jm_dc dc_179_1 12 rfl)) (
  jm_gc (pu_aload _ _) (sn_aload_n (i := 0) (jm_dc dc_179_1 13 rfl)) (
  jm_gc (pu_getI _ _) (sn_getI (jm_dc dc_179_1 14 rfl) fl_11_238 (Or.inr rfl)) (
  jm_gc (pu_ifne _) (sn_ifne (jm_dc dc_179_1 15 rfl) (by decide)) (
  jm_gc (pu_iload _ _) (sn_iload_n (i := 2) (jm_dc dc_179_1 16 rfl)) (
  jm_gc (pu_ifle _) (sn_ifle (jm_dc dc_179_1 17 rfl) (by decide)) (
  jm_gc (pu_aload _ _) (sn_aload_n (i := 0) (jm_dc dc_179_1 18 rfl)) (
  jm_gc (pu_callV _ _ _) (sn_callV (jm_dc dc_179_1 19 rfl) lk_11_242) (
  jm_gc (pu_ifeq _) (sn_ifeq (jm_dc dc_179_1 20 rfl) (by decide)) (
  jm_gc (pu_ic _ _) (sn_bipush (jm_dc dc_179_1 21 rfl) (by decide)) (
  jm_gc (pu_iload _ _) (sn_iload_n (i := 2) (jm_dc dc_179_1 22 rfl)) (
  jm_gc (pu_ibin _) (sn_imul (jm_dc dc_179_1 23 rfl)) (
  jm_gc (pu_aload _ _) (sn_aload_n (i := 0) (jm_dc dc_179_1 24 rfl)) (
  jm_gn)))))))))))))))))))))))))
theorem dc_179_2 : ([(97, .invokevirtual 234, 3), (100, .iadd, 1), (101, .bipush 48, 2), (103, .isub, 1), (104, .istore_n 3, 1), (105, .aload_n 0, 1), (106, .iload_n 3, 1), (107, .bipush 20, 2), (109, .if_icmp .le 7, 3), (112, .iconst 1, 1), (113, .goto 4, 3), (116, .iconst 0, 1), (117, .putfield 238, 3), (120, .iload_n 3, 1), (121, .istore_n 2, 1), (122, .aload_n 0, 1), (123, .dup, 1), (124, .getfield 231, 3), (127, .aload_n 0, 1), (128, .getfield 238, 3), (131, .ifCond .eq 7, 3), (134, .iconst 0, 1), (135, .goto 4, 3), (138, .iconst 1, 1), (139, .iadd, 1)] : List (Nat × Instr × Nat)).all (fun e => decide (decode prog_14_method_11_code e.1 = .ok e.2)) = true := by decide +kernel
abbrev cl_179_2 : List (Nat × jm_O) := [(97, op_callV 11 175 1), (100, op_ibin (fun x y => x + y)), (101, op_ic 48 2), (103, op_ibin (fun x y => x - y)), (104, op_istore 3 1), (105, op_aload 0 1), (106, op_iload 3 1), (107, op_ic 20 2), (109, op_cle 116), (112, op_ic 1 1), (113, op_goto 117), (116, op_ic 0 1), (117, op_putZ 11 41), (120, op_iload 3 1), (121, op_istore 2 1), (122, op_aload 0 1), (123, op_dup), (124, op_getI 11 40), (127, op_aload 0 1), (128, op_getI 11 41), (131, op_ifeq 138), (134, op_ic 0 1), (135, op_goto 139), (138, op_ic 1 1), (139, op_ibin (fun x y => x + y))]
set_option maxRecDepth 100000 in
theorem gl_179_2 : jm_gl "FrescoWallModel" prog_14_method_11_code 4 (Option.some Jvm.ClassFile.FieldType.int) false cl_179_2 :=
  jm_gc (pu_callV _ _ _) (sn_callV (jm_dc dc_179_2 0 rfl) lk_11_234) (
  jm_gc (pu_ibin _) (sn_iadd (jm_dc dc_179_2 1 rfl)) (
  jm_gc (pu_ic _ _) (sn_bipush (jm_dc dc_179_2 2 rfl) (by decide)) (
  jm_gc (pu_ibin _) (sn_isub (jm_dc dc_179_2 3 rfl)) (
  jm_gc (pu_istore _ _) (sn_istore_n (i := 3) (jm_dc dc_179_2 4 rfl)) (
  jm_gc (pu_aload _ _) (sn_aload_n (i := 0) (jm_dc dc_179_2 5 rfl)) (
  jm_gc (pu_iload _ _) (sn_iload_n (i := 3) (jm_dc dc_179_2 6 rfl)) (
  jm_gc (pu_ic _ _) (sn_bipush (jm_dc dc_179_2 7 rfl) (by decide)) (
  jm_gc (pu_cle _) (sn_cle (jm_dc dc_179_2 8 rfl) (by decide)) (
  jm_gc (pu_ic _ _) (sn_iconst (jm_dc dc_179_2 9 rfl) (by decide)) (
  jm_gc (pu_goto _) (sn_goto (jm_dc dc_179_2 10 rfl) (by decide)) (
  jm_gc (pu_ic _ _) (sn_iconst (jm_dc dc_179_2 11 rfl) (by decide)) (
  jm_gc (pu_putZ _ _) (sn_putZ (jm_dc dc_179_2 12 rfl) flw_11_238 rfl) (
  jm_gc (pu_iload _ _) (sn_iload_n (i := 3) (jm_dc dc_179_2 13 rfl)) (
  jm_gc (pu_istore _ _) (sn_istore_n (i := 2) (jm_dc dc_179_2 14 rfl)) (
  jm_gc (pu_aload _ _) (sn_aload_n (i := 0) (jm_dc dc_179_2 15 rfl)) (
  jm_gc (pu_dup) (sn_dup (jm_dc dc_179_2 16 rfl)) (
  jm_gc (pu_getI _ _) (sn_getI (jm_dc dc_179_2 17 rfl) fl_11_231 (Or.inl rfl)) (
  jm_gc (pu_aload _ _) (sn_aload_n (i := 0) (jm_dc dc_179_2 18 rfl)) (
  jm_gc (pu_getI _ _) (sn_getI (jm_dc dc_179_2 19 rfl) fl_11_238 (Or.inr rfl)) (
  jm_gc (pu_ifeq _) (sn_ifeq (jm_dc dc_179_2 20 rfl) (by decide)) (
  jm_gc (pu_ic _ _) (sn_iconst (jm_dc dc_179_2 21 rfl) (by decide)) (
  jm_gc (pu_goto _) (sn_goto (jm_dc dc_179_2 22 rfl) (by decide)) (
  jm_gc (pu_ic _ _) (sn_iconst (jm_dc dc_179_2 23 rfl) (by decide)) (
  jm_gc (pu_ibin _) (sn_iadd (jm_dc dc_179_2 24 rfl)) (
  jm_gn)))))))))))))))))))))))))
theorem dc_179_3 : ([(140, .putfield 231, 3), (143, .iload_n 1, 1), (144, .ifCond .eq 8, 3), (147, .iload_n 2, 1), (148, .ineg, 1), (149, .goto 4, 3), (152, .iload_n 2, 1), (153, .ireturn, 1)] : List (Nat × Instr × Nat)).all (fun e => decide (decode prog_14_method_11_code e.1 = .ok e.2)) = true := by decide +kernel
abbrev cl_179_3 : List (Nat × jm_O) := [(140, op_putI 11 40), (143, op_iload 1 1), (144, op_ifeq 152), (147, op_iload 2 1), (148, op_iun (fun x => -x)), (149, op_goto 153), (152, op_iload 2 1), (153, op_iret)]
set_option maxRecDepth 100000 in
theorem gl_179_3 : jm_gl "FrescoWallModel" prog_14_method_11_code 4 (Option.some Jvm.ClassFile.FieldType.int) false cl_179_3 :=
  jm_gc (pu_putI _ _) (sn_putI (jm_dc dc_179_3 0 rfl) flw_11_231 rfl) (
  jm_gc (pu_iload _ _) (sn_iload_n (i := 1) (jm_dc dc_179_3 1 rfl)) (
  jm_gc (pu_ifeq _) (sn_ifeq (jm_dc dc_179_3 2 rfl) (by decide)) (
  jm_gc (pu_iload _ _) (sn_iload_n (i := 2) (jm_dc dc_179_3 3 rfl)) (
  jm_gc (pu_iun _) (sn_ineg (jm_dc dc_179_3 4 rfl)) (
  jm_gc (pu_goto _) (sn_goto (jm_dc dc_179_3 5 rfl) (by decide)) (
  jm_gc (pu_iload _ _) (sn_iload_n (i := 2) (jm_dc dc_179_3 6 rfl)) (
  jm_gc (pu_iret) (sn_iret (jm_dc dc_179_3 7 rfl) rfl) (
  jm_gn))))))))
theorem dc_180_0 : ([(0, .bipush 8, 2), (2, .aload_n 0, 1), (3, .getfield 215, 3), (6, .imul, 1), (7, .aload_n 0, 1), (8, .getfield 13, 3), (11, .aload_n 0, 1), (12, .getfield 215, 3), (15, .iaload, 1), (16, .iadd, 1), (17, .istore_n 1, 1), (18, .aload_n 0, 1), (19, .getfield 16, 3), (22, .iload_n 1, 1), (23, .aload_n 0, 1), (24, .invokevirtual 249, 3), (27, .iastore, 1), (28, .aload_n 0, 1), (29, .bipush 44, 2), (31, .invokevirtual 252, 3), (34, .aload_n 0, 1), (35, .getfield 19, 3), (38, .iload_n 1, 1), (39, .aload_n 0, 1), (40, .invokevirtual 249, 3)] : List (Nat × Instr × Nat)).all (fun e => decide (decode prog_14_method_12_code e.1 = .ok e.2)) = true := by decide +kernel
abbrev cl_180_0 : List (Nat × jm_O) := [(0, op_ic 8 2), (2, op_aload 0 1), (3, op_getI 11 3), (6, op_ibin (fun x y => x * y)), (7, op_aload 0 1), (8, op_getA 11 4), (11, op_aload 0 1), (12, op_getI 11 3), (15, op_iald 13), (16, op_ibin (fun x y => x + y)), (17, op_istore 1 1), (18, op_aload 0 1), (19, op_getA 11 5), (22, op_iload 1 1), (23, op_aload 0 1), (24, op_callV 11 179 1), (27, op_iast), (28, op_aload 0 1), (29, op_ic 44 2), (31, op_callV 11 177 2), (34, op_aload 0 1), (35, op_getA 11 6), (38, op_iload 1 1), (39, op_aload 0 1), (40, op_callV 11 179 1)]
set_option maxRecDepth 100000 in
theorem gl_180_0 : jm_gl "FrescoWallModel" prog_14_method_12_code 2 (Option.none : Option Jvm.ClassFile.FieldType) false cl_180_0 :=
  jm_gc (pu_ic _ _) (sn_bipush (jm_dc dc_180_0 0 rfl) (by decide)) (
  jm_gc (pu_aload _ _) (sn_aload_n (i := 0) (jm_dc dc_180_0 1 rfl)) (
  jm_gc (pu_getI _ _) (sn_getI (jm_dc dc_180_0 2 rfl) fl_11_215 (Or.inl rfl)) (
  jm_gc (pu_ibin _) (sn_imul (jm_dc dc_180_0 3 rfl)) (
  jm_gc (pu_aload _ _) (sn_aload_n (i := 0) (jm_dc dc_180_0 4 rfl)) (
  jm_gc (pu_getA _ _) (sn_getA (jm_dc dc_180_0 5 rfl) fl_11_13 rfl) (
  jm_gc (pu_aload _ _) (sn_aload_n (i := 0) (jm_dc dc_180_0 6 rfl)) (
  jm_gc (pu_getI _ _) (sn_getI (jm_dc dc_180_0 7 rfl) fl_11_215 (Or.inl rfl)) (
  jm_gc (pu_iald _) (sn_iald (jm_dc dc_180_0 8 rfl)) (
  jm_gc (pu_ibin _) (sn_iadd (jm_dc dc_180_0 9 rfl)) (
  jm_gc (pu_istore _ _) (sn_istore_n (i := 1) (jm_dc dc_180_0 10 rfl)) (
  jm_gc (pu_aload _ _) (sn_aload_n (i := 0) (jm_dc dc_180_0 11 rfl)) (
  jm_gc (pu_getA _ _) (sn_getA (jm_dc dc_180_0 12 rfl) fl_11_16 rfl) (
  jm_gc (pu_iload _ _) (sn_iload_n (i := 1) (jm_dc dc_180_0 13 rfl)) (
  jm_gc (pu_aload _ _) (sn_aload_n (i := 0) (jm_dc dc_180_0 14 rfl)) (
  jm_gc (pu_callV _ _ _) (sn_callV (jm_dc dc_180_0 15 rfl) lk_11_249) (
  jm_gc (pu_iast) (sn_iast (jm_dc dc_180_0 16 rfl)) (
  jm_gc (pu_aload _ _) (sn_aload_n (i := 0) (jm_dc dc_180_0 17 rfl)) (
  jm_gc (pu_ic _ _) (sn_bipush (jm_dc dc_180_0 18 rfl) (by decide)) (
  jm_gc (pu_callV _ _ _) (sn_callV (jm_dc dc_180_0 19 rfl) lk_11_252) (
  jm_gc (pu_aload _ _) (sn_aload_n (i := 0) (jm_dc dc_180_0 20 rfl)) (
  jm_gc (pu_getA _ _) (sn_getA (jm_dc dc_180_0 21 rfl) fl_11_19 rfl) (
  jm_gc (pu_iload _ _) (sn_iload_n (i := 1) (jm_dc dc_180_0 22 rfl)) (
  jm_gc (pu_aload _ _) (sn_aload_n (i := 0) (jm_dc dc_180_0 23 rfl)) (
  jm_gc (pu_callV _ _ _) (sn_callV (jm_dc dc_180_0 24 rfl) lk_11_249) (
  jm_gn)))))))))))))))))))))))))
theorem dc_180_1 : ([(43, .iastore, 1), (44, .aload_n 0, 1), (45, .bipush 58, 2), (47, .invokevirtual 252, 3), (50, .aload_n 0, 1), (51, .getfield 22, 3), (54, .iload_n 1, 1), (55, .aload_n 0, 1), (56, .invokevirtual 246, 3), (59, .iastore, 1), (60, .aload_n 0, 1), (61, .getfield 13, 3), (64, .aload_n 0, 1), (65, .getfield 215, 3), (68, .dup2, 1), (69, .iaload, 1), (70, .iconst 1, 1), (71, .iadd, 1), (72, .iastore, 1), (73, .return_, 1)] : List (Nat × Instr × Nat)).all (fun e => decide (decode prog_14_method_12_code e.1 = .ok e.2)) = true := by decide +kernel
abbrev cl_180_1 : List (Nat × jm_O) := [(43, op_iast), (44, op_aload 0 1), (45, op_ic 58 2), (47, op_callV 11 177 2), (50, op_aload 0 1), (51, op_getA 11 7), (54, op_iload 1 1), (55, op_aload 0 1), (56, op_callV 11 178 1), (59, op_iast), (60, op_aload 0 1), (61, op_getA 11 4), (64, op_aload 0 1), (65, op_getI 11 3), (68, op_dup2), (69, op_iald 13), (70, op_ic 1 1), (71, op_ibin (fun x y => x + y)), (72, op_iast), (73, op_vret)]
set_option maxRecDepth 100000 in
theorem gl_180_1 : jm_gl "FrescoWallModel" prog_14_method_12_code 2 (Option.none : Option Jvm.ClassFile.FieldType) false cl_180_1 :=
  jm_gc (pu_iast) (sn_iast (jm_dc dc_180_1 0 rfl)) (
  jm_gc (pu_aload _ _) (sn_aload_n (i := 0) (jm_dc dc_180_1 1 rfl)) (
  jm_gc (pu_ic _ _) (sn_bipush (jm_dc dc_180_1 2 rfl) (by decide)) (
  jm_gc (pu_callV _ _ _) (sn_callV (jm_dc dc_180_1 3 rfl) lk_11_252) (
  jm_gc (pu_aload _ _) (sn_aload_n (i := 0) (jm_dc dc_180_1 4 rfl)) (
  jm_gc (pu_getA _ _) (sn_getA (jm_dc dc_180_1 5 rfl) fl_11_22 rfl) (
  jm_gc (pu_iload _ _) (sn_iload_n (i := 1) (jm_dc dc_180_1 6 rfl)) (
  jm_gc (pu_aload _ _) (sn_aload_n (i := 0) (jm_dc dc_180_1 7 rfl)) (
  jm_gc (pu_callV _ _ _) (sn_callV (jm_dc dc_180_1 8 rfl) lk_11_246) (
  jm_gc (pu_iast) (sn_iast (jm_dc dc_180_1 9 rfl)) (
  jm_gc (pu_aload _ _) (sn_aload_n (i := 0) (jm_dc dc_180_1 10 rfl)) (
  jm_gc (pu_getA _ _) (sn_getA (jm_dc dc_180_1 11 rfl) fl_11_13 rfl) (
  jm_gc (pu_aload _ _) (sn_aload_n (i := 0) (jm_dc dc_180_1 12 rfl)) (
  jm_gc (pu_getI _ _) (sn_getI (jm_dc dc_180_1 13 rfl) fl_11_215 (Or.inl rfl)) (
  jm_gc (pu_dup2) (sn_dup2 (jm_dc dc_180_1 14 rfl)) (
  jm_gc (pu_iald _) (sn_iald (jm_dc dc_180_1 15 rfl)) (
  jm_gc (pu_ic _ _) (sn_iconst (jm_dc dc_180_1 16 rfl) (by decide)) (
  jm_gc (pu_ibin _) (sn_iadd (jm_dc dc_180_1 17 rfl)) (
  jm_gc (pu_iast) (sn_iast (jm_dc dc_180_1 18 rfl)) (
  jm_gc (pu_vret) (sn_vret (jm_dc dc_180_1 19 rfl) rfl) (
  jm_gn))))))))))))))))))))
theorem dc_181_0 : ([(0, .iconst 5, 1), (1, .aload_n 0, 1), (2, .getfield 215, 3), (5, .imul, 1), (6, .aload_n 0, 1), (7, .getfield 25, 3), (10, .aload_n 0, 1), (11, .getfield 215, 3), (14, .iaload, 1), (15, .iadd, 1), (16, .istore_n 1, 1), (17, .aload_n 0, 1), (18, .bipush 124, 2), (20, .invokevirtual 252, 3), (23, .aload_n 0, 1), (24, .getfield 28, 3), (27, .iload_n 1, 1), (28, .aload_n 0, 1), (29, .invokevirtual 249, 3), (32, .iastore, 1), (33, .aload_n 0, 1), (34, .bipush 44, 2), (36, .invokevirtual 252, 3), (39, .aload_n 0, 1), (40, .getfield 31, 3)] : List (Nat × Instr × Nat)).all (fun e => decide (decode prog_14_method_13_code e.1 = .ok e.2)) = true := by decide +kernel
abbrev cl_181_0 : List (Nat × jm_O) := [(0, op_ic 5 1), (1, op_aload 0 1), (2, op_getI 11 3), (5, op_ibin (fun x y => x * y)), (6, op_aload 0 1), (7, op_getA 11 8), (10, op_aload 0 1), (11, op_getI 11 3), (14, op_iald 13), (15, op_ibin (fun x y => x + y)), (16, op_istore 1 1), (17, op_aload 0 1), (18, op_ic 124 2), (20, op_callV 11 177 2), (23, op_aload 0 1), (24, op_getA 11 9), (27, op_iload 1 1), (28, op_aload 0 1), (29, op_callV 11 179 1), (32, op_iast), (33, op_aload 0 1), (34, op_ic 44 2), (36, op_callV 11 177 2), (39, op_aload 0 1), (40, op_getA 11 10)]
set_option maxRecDepth 100000 in
theorem gl_181_0 : jm_gl "FrescoWallModel" prog_14_method_13_code 2 (Option.none : Option Jvm.ClassFile.FieldType) false cl_181_0 :=
  jm_gc (pu_ic _ _) (sn_iconst (jm_dc dc_181_0 0 rfl) (by decide)) (
  jm_gc (pu_aload _ _) (sn_aload_n (i := 0) (jm_dc dc_181_0 1 rfl)) (
  jm_gc (pu_getI _ _) (sn_getI (jm_dc dc_181_0 2 rfl) fl_11_215 (Or.inl rfl)) (
  jm_gc (pu_ibin _) (sn_imul (jm_dc dc_181_0 3 rfl)) (
  jm_gc (pu_aload _ _) (sn_aload_n (i := 0) (jm_dc dc_181_0 4 rfl)) (
  jm_gc (pu_getA _ _) (sn_getA (jm_dc dc_181_0 5 rfl) fl_11_25 rfl) (
  jm_gc (pu_aload _ _) (sn_aload_n (i := 0) (jm_dc dc_181_0 6 rfl)) (
  jm_gc (pu_getI _ _) (sn_getI (jm_dc dc_181_0 7 rfl) fl_11_215 (Or.inl rfl)) (
  jm_gc (pu_iald _) (sn_iald (jm_dc dc_181_0 8 rfl)) (
  jm_gc (pu_ibin _) (sn_iadd (jm_dc dc_181_0 9 rfl)) (
  jm_gc (pu_istore _ _) (sn_istore_n (i := 1) (jm_dc dc_181_0 10 rfl)) (
  jm_gc (pu_aload _ _) (sn_aload_n (i := 0) (jm_dc dc_181_0 11 rfl)) (
  jm_gc (pu_ic _ _) (sn_bipush (jm_dc dc_181_0 12 rfl) (by decide)) (
  jm_gc (pu_callV _ _ _) (sn_callV (jm_dc dc_181_0 13 rfl) lk_11_252) (
  jm_gc (pu_aload _ _) (sn_aload_n (i := 0) (jm_dc dc_181_0 14 rfl)) (
  jm_gc (pu_getA _ _) (sn_getA (jm_dc dc_181_0 15 rfl) fl_11_28 rfl) (
  jm_gc (pu_iload _ _) (sn_iload_n (i := 1) (jm_dc dc_181_0 16 rfl)) (
  jm_gc (pu_aload _ _) (sn_aload_n (i := 0) (jm_dc dc_181_0 17 rfl)) (
  jm_gc (pu_callV _ _ _) (sn_callV (jm_dc dc_181_0 18 rfl) lk_11_249) (
  jm_gc (pu_iast) (sn_iast (jm_dc dc_181_0 19 rfl)) (
  jm_gc (pu_aload _ _) (sn_aload_n (i := 0) (jm_dc dc_181_0 20 rfl)) (
  jm_gc (pu_ic _ _) (sn_bipush (jm_dc dc_181_0 21 rfl) (by decide)) (
  jm_gc (pu_callV _ _ _) (sn_callV (jm_dc dc_181_0 22 rfl) lk_11_252) (
  jm_gc (pu_aload _ _) (sn_aload_n (i := 0) (jm_dc dc_181_0 23 rfl)) (
  jm_gc (pu_getA _ _) (sn_getA (jm_dc dc_181_0 24 rfl) fl_11_31 rfl) (
  jm_gn)))))))))))))))))))))))))
theorem dc_181_1 : ([(43, .iload_n 1, 1), (44, .aload_n 0, 1), (45, .invokevirtual 249, 3), (48, .iastore, 1), (49, .aload_n 0, 1), (50, .bipush 61, 2), (52, .invokevirtual 252, 3), (55, .aload_n 0, 1), (56, .getfield 34, 3), (59, .iload_n 1, 1), (60, .aload_n 0, 1), (61, .invokevirtual 246, 3), (64, .iastore, 1), (65, .aload_n 0, 1), (66, .getfield 25, 3), (69, .aload_n 0, 1), (70, .getfield 215, 3), (73, .dup2, 1), (74, .iaload, 1), (75, .iconst 1, 1), (76, .iadd, 1), (77, .iastore, 1), (78, .return_, 1)] : List (Nat × Instr × Nat)).all (fun e => decide (decode prog_14_method_13_code e.1 = .ok e.2)) = true := by decide +kernel
abbrev cl_181_1 : List (Nat × jm_O) := [(43, op_iload 1 1), (44, op_aload 0 1), (45, op_callV 11 179 1), (48, op_iast), (49, op_aload 0 1), (50, op_ic 61 2), (52, op_callV 11 177 2), (55, op_aload 0 1), (56, op_getA 11 11), (59, op_iload 1 1), (60, op_aload 0 1), (61, op_callV 11 178 1), (64, op_iast), (65, op_aload 0 1), (66, op_getA 11 8), (69, op_aload 0 1), (70, op_getI 11 3), (73, op_dup2), (74, op_iald 13), (75, op_ic 1 1), (76, op_ibin (fun x y => x + y)), (77, op_iast), (78, op_vret)]
set_option maxRecDepth 100000 in
theorem gl_181_1 : jm_gl "FrescoWallModel" prog_14_method_13_code 2 (Option.none : Option Jvm.ClassFile.FieldType) false cl_181_1 :=
  jm_gc (pu_iload _ _) (sn_iload_n (i := 1) (jm_dc dc_181_1 0 rfl)) (
  jm_gc (pu_aload _ _) (sn_aload_n (i := 0) (jm_dc dc_181_1 1 rfl)) (
  jm_gc (pu_callV _ _ _) (sn_callV (jm_dc dc_181_1 2 rfl) lk_11_249) (
  jm_gc (pu_iast) (sn_iast (jm_dc dc_181_1 3 rfl)) (
  jm_gc (pu_aload _ _) (sn_aload_n (i := 0) (jm_dc dc_181_1 4 rfl)) (
  jm_gc (pu_ic _ _) (sn_bipush (jm_dc dc_181_1 5 rfl) (by decide)) (
  jm_gc (pu_callV _ _ _) (sn_callV (jm_dc dc_181_1 6 rfl) lk_11_252) (
  jm_gc (pu_aload _ _) (sn_aload_n (i := 0) (jm_dc dc_181_1 7 rfl)) (
  jm_gc (pu_getA _ _) (sn_getA (jm_dc dc_181_1 8 rfl) fl_11_34 rfl) (
  jm_gc (pu_iload _ _) (sn_iload_n (i := 1) (jm_dc dc_181_1 9 rfl)) (
  jm_gc (pu_aload _ _) (sn_aload_n (i := 0) (jm_dc dc_181_1 10 rfl)) (
  jm_gc (pu_callV _ _ _) (sn_callV (jm_dc dc_181_1 11 rfl) lk_11_246) (
  jm_gc (pu_iast) (sn_iast (jm_dc dc_181_1 12 rfl)) (
  jm_gc (pu_aload _ _) (sn_aload_n (i := 0) (jm_dc dc_181_1 13 rfl)) (
  jm_gc (pu_getA _ _) (sn_getA (jm_dc dc_181_1 14 rfl) fl_11_25 rfl) (
  jm_gc (pu_aload _ _) (sn_aload_n (i := 0) (jm_dc dc_181_1 15 rfl)) (
  jm_gc (pu_getI _ _) (sn_getI (jm_dc dc_181_1 16 rfl) fl_11_215 (Or.inl rfl)) (
  jm_gc (pu_dup2) (sn_dup2 (jm_dc dc_181_1 17 rfl)) (
  jm_gc (pu_iald _) (sn_iald (jm_dc dc_181_1 18 rfl)) (
  jm_gc (pu_ic _ _) (sn_iconst (jm_dc dc_181_1 19 rfl) (by decide)) (
  jm_gc (pu_ibin _) (sn_iadd (jm_dc dc_181_1 20 rfl)) (
  jm_gc (pu_iast) (sn_iast (jm_dc dc_181_1 21 rfl)) (
  jm_gc (pu_vret) (sn_vret (jm_dc dc_181_1 22 rfl) rfl) (
  jm_gn)))))))))))))))))))))))
theorem dc_182_0 : ([(0, .aload_n 0, 1), (1, .iconst 0, 1), (2, .putfield 231, 3), (5, .aload_n 0, 1), (6, .iconst 0, 1), (7, .putfield 238, 3), (10, .aload_n 0, 1), (11, .getfield 13, 3), (14, .aload_n 0, 1), (15, .getfield 215, 3), (18, .iconst 0, 1), (19, .iastore, 1), (20, .aload_n 0, 1), (21, .getfield 25, 3), (24, .aload_n 0, 1), (25, .getfield 215, 3), (28, .iconst 0, 1), (29, .iastore, 1), (30, .aload_n 0, 1), (31, .invokevirtual 256, 3), (34, .aload_n 0, 1), (35, .getfield 238, 3), (38, .ifCond .ne 59, 3), (41, .aload_n 0, 1), (42, .getfield 13, 3)] : List (Nat × Instr × Nat)).all (fun e => decide (decode prog_14_method_14_code e.1 = .ok e.2)) = true := by decide +kernel
abbrev cl_182_0 : List (Nat × jm_O) := [(0, op_aload 0 1), (1, op_ic 0 1), (2, op_putI 11 40), (5, op_aload 0 1), (6, op_ic 0 1), (7, op_putZ 11 41), (10, op_aload 0 1), (11, op_getA 11 4), (14, op_aload 0 1), (15, op_getI 11 3), (18, op_ic 0 1), (19, op_iast), (20, op_aload 0 1), (21, op_getA 11 8), (24, op_aload 0 1), (25, op_getI 11 3), (28, op_ic 0 1), (29, op_iast), (30, op_aload 0 1), (31, op_callV 11 180 1), (34, op_aload 0 1), (35, op_getI 11 41), (38, op_ifne 97), (41, op_aload 0 1), (42, op_getA 11 4)]
set_option maxRecDepth 100000 in
theorem gl_182_0 : jm_gl "FrescoWallModel" prog_14_method_14_code 1 (Option.none : Option Jvm.ClassFile.FieldType) false cl_182_0 :=
  jm_gc (pu_aload _ _) (sn_aload_n (i := 0) (jm_dc dc_182_0 0 rfl)) (
  jm_gc (pu_ic _ _) (sn_iconst (jm_dc dc_182_0 1 rfl) (by decide)) (
  jm_gc (pu_putI _ _) (sn_putI (jm_dc dc_182_0 2 rfl) flw_11_231 rfl) (
  jm_gc (pu_aload _ _) (sn_aload_n (i := 0) (jm_dc dc_182_0 3 rfl)) (
  jm_gc (pu_ic _ _) (sn_iconst (jm_dc dc_182_0 4 rfl) (by decide)) (
  jm_gc (pu_putZ _ _) (sn_putZ (jm_dc dc_182_0 5 rfl) flw_11_238 rfl) (
  jm_gc (pu_aload _ _) (sn_aload_n (i := 0) (jm_dc dc_182_0 6 rfl)) (
  jm_gc (pu_getA _ _) (sn_getA (jm_dc dc_182_0 7 rfl) fl_11_13 rfl) (
  jm_gc (pu_aload _ _) (sn_aload_n (i := 0) (jm_dc dc_182_0 8 rfl)) (
  jm_gc (pu_getI _ _) (sn_getI (jm_dc dc_182_0 9 rfl) fl_11_215 (Or.inl rfl)) (
  jm_gc (pu_ic _ _) (sn_iconst (jm_dc dc_182_0 10 rfl) (by decide)) (
  jm_gc (pu_iast) (sn_iast (jm_dc dc_182_0 11 rfl)) (
  jm_gc (pu_aload _ _) (sn_aload_n (i := 0) (jm_dc dc_182_0 12 rfl)) (
  jm_gc (pu_getA _ _) (sn_getA (jm_dc dc_182_0 13 rfl) fl_11_25 rfl) (
  jm_gc (pu_aload _ _) (sn_aload_n (i := 0) (jm_dc dc_182_0 14 rfl)) (
  jm_gc (pu_getI _ _) (sn_getI (jm_dc dc_182_0 15 rfl) fl_11_215 (Or.inl rfl)) (
  jm_gc (pu_ic _ _) (sn_iconst (jm_dc dc_182_0 16 rfl) (by decide)) (
  jm_gc (pu_iast) (sn_iast (jm_dc dc_182_0 17 rfl)) (
  jm_gc (pu_aload _ _) (sn_aload_n (i := 0) (jm_dc dc_182_0 18 rfl)) (
  jm_gc (pu_callV _ _ _) (sn_callV (jm_dc dc_182_0 19 rfl) lk_11_256) (
  jm_gc (pu_aload _ _) (sn_aload_n (i := 0) (jm_dc dc_182_0 20 rfl)) (
  jm_gc (pu_getI _ _) (sn_getI (jm_dc dc_182_0 21 rfl) fl_11_238 (Or.inr rfl)) (
  jm_gc (pu_ifne _) (sn_ifne (jm_dc dc_182_0 22 rfl) (by decide)) (
  jm_gc (pu_aload _ _) (sn_aload_n (i := 0) (jm_dc dc_182_0 23 rfl)) (
  jm_gc (pu_getA _ _) (sn_getA (jm_dc dc_182_0 24 rfl) fl_11_13 rfl) (
  jm_gn)))))))))))))))))))))))))
theorem dc_182_1 : ([(45, .aload_n 0, 1), (46, .getfield 215, 3), (49, .iaload, 1), (50, .bipush 8, 2), (52, .if_icmp .ge 45, 3), (55, .aload_n 0, 1), (56, .getfield 13, 3), (59, .aload_n 0, 1), (60, .getfield 215, 3), (63, .iaload, 1), (64, .iconst 3, 1), (65, .if_icmp .lt 12, 3), (68, .aload_n 0, 1), (69, .invokevirtual 234, 3), (72, .bipush 59, 2), (74, .if_icmp .ne 23, 3), (77, .aload_n 0, 1), (78, .bipush 59, 2), (80, .invokevirtual 252, 3), (83, .aload_n 0, 1), (84, .getfield 238, 3), (87, .ifCond .ne (-53), 3), (90, .aload_n 0, 1), (91, .invokevirtual 256, 3), (94, .goto (-60), 3)] : List (Nat × Instr × Nat)).all (fun e => decide (decode prog_14_method_14_code e.1 = .ok e.2)) = true := by decide +kernel
abbrev cl_182_1 : List (Nat × jm_O) := [(45, op_aload 0 1), (46, op_getI 11 3), (49, op_iald 13), (50, op_ic 8 2), (52, op_cge 97), (55, op_aload 0 1), (56, op_getA 11 4), (59, op_aload 0 1), (60, op_getI 11 3), (63, op_iald 13), (64, op_ic 3 1), (65, op_clt 77), (68, op_aload 0 1), (69, op_callV 11 175 1), (72, op_ic 59 2), (74, op_cne 97), (77, op_aload 0 1), (78, op_ic 59 2), (80, op_callV 11 177 2), (83, op_aload 0 1), (84, op_getI 11 41), (87, op_ifne 34), (90, op_aload 0 1), (91, op_callV 11 180 1), (94, op_goto 34)]
set_option maxRecDepth 100000 in
theorem gl_182_1 : jm_gl "FrescoWallModel" prog_14_method_14_code 1 (Option.none : Option Jvm.ClassFile.FieldType) false cl_182_1 :=
  jm_gc (pu_aload _ _) (sn_aload_n (i := 0) (jm_dc dc_182_1 0 rfl)) (
  jm_gc (pu_getI _ _) (sn_getI (jm_dc dc_182_1 1 rfl) fl_11_215 (Or.inl rfl)) (
  jm_gc (pu_iald _) (sn_iald (jm_dc dc_182_1 2 rfl)) (
  jm_gc (pu_ic _ _) (sn_bipush (jm_dc dc_182_1 3 rfl) (by decide)) (
  jm_gc (pu_cge _) (sn_cge (jm_dc dc_182_1 4 rfl) (by decide)) (
  jm_gc (pu_aload _ _) (sn_aload_n (i := 0) (jm_dc dc_182_1 5 rfl)) (
  jm_gc (pu_getA _ _) (sn_getA (jm_dc dc_182_1 6 rfl) fl_11_13 rfl) (
  jm_gc (pu_aload _ _) (sn_aload_n (i := 0) (jm_dc dc_182_1 7 rfl)) (
  jm_gc (pu_getI _ _) (sn_getI (jm_dc dc_182_1 8 rfl) fl_11_215 (Or.inl rfl)) (
  jm_gc (pu_iald _) (sn_iald (jm_dc dc_182_1 9 rfl)) (
  jm_gc (pu_ic _ _) (sn_iconst (jm_dc dc_182_1 10 rfl) (by decide)) (
  jm_gc (pu_clt _) (sn_clt (jm_dc dc_182_1 11 rfl) (by decide)) (
  jm_gc (pu_aload _ _) (sn_aload_n (i := 0) (jm_dc dc_182_1 12 rfl)) (
  jm_gc (pu_callV _ _ _) (sn_callV (jm_dc dc_182_1 13 rfl) lk_11_234) (
  jm_gc (pu_ic _ _) (sn_bipush (jm_dc dc_182_1 14 rfl) (by decide)) (
  jm_gc (pu_cne _) (sn_cne (jm_dc dc_182_1 15 rfl) (by decide)) (
  jm_gc (pu_aload _ _) (sn_aload_n (i := 0) (jm_dc dc_182_1 16 rfl)) (
  jm_gc (pu_ic _ _) (sn_bipush (jm_dc dc_182_1 17 rfl) (by decide)) (
  jm_gc (pu_callV _ _ _) (sn_callV (jm_dc dc_182_1 18 rfl) lk_11_252) (
  jm_gc (pu_aload _ _) (sn_aload_n (i := 0) (jm_dc dc_182_1 19 rfl)) (
  jm_gc (pu_getI _ _) (sn_getI (jm_dc dc_182_1 20 rfl) fl_11_238 (Or.inr rfl)) (
  jm_gc (pu_ifne _) (sn_ifne (jm_dc dc_182_1 21 rfl) (by decide)) (
  jm_gc (pu_aload _ _) (sn_aload_n (i := 0) (jm_dc dc_182_1 22 rfl)) (
  jm_gc (pu_callV _ _ _) (sn_callV (jm_dc dc_182_1 23 rfl) lk_11_256) (
  jm_gc (pu_goto _) (sn_goto (jm_dc dc_182_1 24 rfl) (by decide)) (
  jm_gn)))))))))))))))))))))))))
theorem dc_182_2 : ([(97, .aload_n 0, 1), (98, .getfield 238, 3), (101, .ifCond .ne 32, 3), (104, .aload_n 0, 1), (105, .getfield 25, 3), (108, .aload_n 0, 1), (109, .getfield 215, 3), (112, .iaload, 1), (113, .iconst 5, 1), (114, .if_icmp .ge 19, 3), (117, .aload_n 0, 1), (118, .invokevirtual 234, 3), (121, .bipush 124, 2), (123, .if_icmp .ne 10, 3), (126, .aload_n 0, 1), (127, .invokevirtual 259, 3), (130, .goto (-33), 3), (133, .aload_n 0, 1), (134, .aload_n 0, 1), (135, .getfield 238, 3), (138, .ifCond .ne 14, 3), (141, .aload_n 0, 1), (142, .getfield 231, 3), (145, .aload_n 0, 1), (146, .getfield 226, 3)] : List (Nat × Instr × Nat)).all (fun e => decide (decode prog_14_method_14_code e.1 = .ok e.2)) = true := by decide +kernel
abbrev cl_182_2 : List (Nat × jm_O) := [(97, op_aload 0 1), (98, op_getI 11 41), (101, op_ifne 133), (104, op_aload 0 1), (105, op_getA 11 8), (108, op_aload 0 1), (109, op_getI 11 3), (112, op_iald 13), (113, op_ic 5 1), (114, op_cge 133), (117, op_aload 0 1), (118, op_callV 11 175 1), (121, op_ic 124 2), (123, op_cne 133), (126, op_aload 0 1), (127, op_callV 11 181 1), (130, op_goto 97), (133, op_aload 0 1), (134, op_aload 0 1), (135, op_getI 11 41), (138, op_ifne 152), (141, op_aload 0 1), (142, op_getI 11 40), (145, op_aload 0 1), (146, op_getI 11 2)]
set_option maxRecDepth 100000 in
theorem gl_182_2 : jm_gl "FrescoWallModel" prog_14_method_14_code 1 (Option.none : Option Jvm.ClassFile.FieldType) false cl_182_2 :=
  jm_gc (pu_aload _ _) (sn_aload_n (i := 0) (jm_dc dc_182_2 0 rfl)) (
  jm_gc (pu_getI _ _) (sn_getI (jm_dc dc_182_2 1 rfl) fl_11_238 (Or.inr rfl)) (
  jm_gc (pu_ifne _) (sn_ifne (jm_dc dc_182_2 2 rfl) (by decide)) (
  jm_gc (pu_aload _ _) (sn_aload_n (i := 0) (jm_dc dc_182_2 3 rfl)) (
  jm_gc (pu_getA _ _) (sn_getA (jm_dc dc_182_2 4 rfl) fl_11_25 rfl) (
  jm_gc (pu_aload _ _) (sn_aload_n (i := 0) (jm_dc dc_182_2 5 rfl)) (
  jm_gc (pu_getI _ _) (sn_getI (jm_dc dc_182_2 6 rfl) fl_11_215 (Or.inl rfl)) (
  jm_gc (pu_iald _) (sn_iald (jm_dc dc_182_2 7 rfl)) (
  jm_gc (pu_ic _ _) (sn_iconst (jm_dc dc_182_2 8 rfl) (by decide)) (
  jm_gc (pu_cge _) (sn_cge (jm_dc dc_182_2 9 rfl) (by decide)) (
  jm_gc (pu_aload _ _) (sn_aload_n (i := 0) (jm_dc dc_182_2 10 rfl)) (
  jm_gc (pu_callV _ _ _) (sn_callV (jm_dc dc_182_2 11 rfl) lk_11_234) (
  jm_gc (pu_ic _ _) (sn_bipush (jm_dc dc_182_2 12 rfl) (by decide)) (
  jm_gc (pu_cne _) (sn_cne (jm_dc dc_182_2 13 rfl) (by decide)) (
  jm_gc (pu_aload _ _) (sn_aload_n (i := 0) (jm_dc dc_182_2 14 rfl)) (
  jm_gc (pu_callV _ _ _) (sn_callV (jm_dc dc_182_2 15 rfl) lk_11_259) (
  jm_gc (pu_goto _) (sn_goto (jm_dc dc_182_2 16 rfl) (by decide)) (
  jm_gc (pu_aload _ _) (sn_aload_n (i := 0) (jm_dc dc_182_2 17 rfl)) (
  jm_gc (pu_aload _ _) (sn_aload_n (i := 0) (jm_dc dc_182_2 18 rfl)) (
  jm_gc (pu_getI _ _) (sn_getI (jm_dc dc_182_2 19 rfl) fl_11_238 (Or.inr rfl)) (
  jm_gc (pu_ifne _) (sn_ifne (jm_dc dc_182_2 20 rfl) (by decide)) (
  jm_gc (pu_aload _ _) (sn_aload_n (i := 0) (jm_dc dc_182_2 21 rfl)) (
  jm_gc (pu_getI _ _) (sn_getI (jm_dc dc_182_2 22 rfl) fl_11_231 (Or.inl rfl)) (
  jm_gc (pu_aload _ _) (sn_aload_n (i := 0) (jm_dc dc_182_2 23 rfl)) (
  jm_gc (pu_getI _ _) (sn_getI (jm_dc dc_182_2 24 rfl) fl_11_226 (Or.inl rfl)) (
  jm_gn)))))))))))))))))))))))))
theorem dc_182_3 : ([(149, .if_icmp .eq 7, 3), (152, .iconst 1, 1), (153, .goto 4, 3), (156, .iconst 0, 1), (157, .putfield 238, 3), (160, .return_, 1)] : List (Nat × Instr × Nat)).all (fun e => decide (decode prog_14_method_14_code e.1 = .ok e.2)) = true := by decide +kernel
abbrev cl_182_3 : List (Nat × jm_O) := [(149, op_ceq 156), (152, op_ic 1 1), (153, op_goto 157), (156, op_ic 0 1), (157, op_putZ 11 41), (160, op_vret)]
set_option maxRecDepth 100000 in
theorem gl_182_3 : jm_gl "FrescoWallModel" prog_14_method_14_code 1 (Option.none : Option Jvm.ClassFile.FieldType) false cl_182_3 :=
  jm_gc (pu_ceq _) (sn_ceq (jm_dc dc_182_3 0 rfl) (by decide)) (
  jm_gc (pu_ic _ _) (sn_iconst (jm_dc dc_182_3 1 rfl) (by decide)) (
  jm_gc (pu_goto _) (sn_goto (jm_dc dc_182_3 2 rfl) (by decide)) (
  jm_gc (pu_ic _ _) (sn_iconst (jm_dc dc_182_3 3 rfl) (by decide)) (
  jm_gc (pu_putZ _ _) (sn_putZ (jm_dc dc_182_3 4 rfl) flw_11_238 rfl) (
  jm_gc (pu_vret) (sn_vret (jm_dc dc_182_3 5 rfl) rfl) (
  jm_gn))))))
theorem dc_183_0 : ([(0, .iload_n 0, 1), (1, .iload_n 3, 1), (2, .imul, 1), (3, .iload_n 1, 1), (4, .iload_n 2, 1), (5, .imul, 1), (6, .isub, 1), (7, .ireturn, 1)] : List (Nat × Instr × Nat)).all (fun e => decide (decode prog_14_method_15_code e.1 = .ok e.2)) = true := by decide +kernel
abbrev cl_183_0 : List (Nat × jm_O) := [(0, op_iload 0 1), (1, op_iload 3 1), (2, op_ibin (fun x y => x * y)), (3, op_iload 1 1), (4, op_iload 2 1), (5, op_ibin (fun x y => x * y)), (6, op_ibin (fun x y => x - y)), (7, op_iret)]
set_option maxRecDepth 100000 in
theorem gl_183_0 : jm_gl "FrescoWallModel" prog_14_method_15_code 4 (Option.some Jvm.ClassFile.FieldType.int) false cl_183_0 :=
  jm_gc (pu_iload _ _) (sn_iload_n (i := 0) (jm_dc dc_183_0 0 rfl)) (
  jm_gc (pu_iload _ _) (sn_iload_n (i := 3) (jm_dc dc_183_0 1 rfl)) (
  jm_gc (pu_ibin _) (sn_imul (jm_dc dc_183_0 2 rfl)) (
  jm_gc (pu_iload _ _) (sn_iload_n (i := 1) (jm_dc dc_183_0 3 rfl)) (
  jm_gc (pu_iload _ _) (sn_iload_n (i := 2) (jm_dc dc_183_0 4 rfl)) (
  jm_gc (pu_ibin _) (sn_imul (jm_dc dc_183_0 5 rfl)) (
  jm_gc (pu_ibin _) (sn_isub (jm_dc dc_183_0 6 rfl)) (
  jm_gc (pu_iret) (sn_iret (jm_dc dc_183_0 7 rfl) rfl) (
  jm_gn))))))))
theorem dc_184_0 : ([(0, .bipush 8, 2), (2, .iload_n 1, 1), (3, .imul, 1), (4, .iload_n 2, 1), (5, .iconst 1, 1), (6, .iadd, 1), (7, .aload_n 0, 1), (8, .getfield 13, 3), (11, .iload_n 1, 1), (12, .iaload, 1), (13, .irem, 1), (14, .iadd, 1), (15, .ireturn, 1)] : List (Nat × Instr × Nat)).all (fun e => decide (decode prog_14_method_16_code e.1 = .ok e.2)) = true := by decide +kernel
abbrev cl_184_0 : List (Nat × jm_O) := [(0, op_ic 8 2), (2, op_iload 1 1), (3, op_ibin (fun x y => x * y)), (4, op_iload 2 1), (5, op_ic 1 1), (6, op_ibin (fun x y => x + y)), (7, op_aload 0 1), (8, op_getA 11 4), (11, op_iload 1 1), (12, op_iald 13), (13, op_idz (fun x y => x - x / y * y)), (14, op_ibin (fun x y => x + y)), (15, op_iret)]
set_option maxRecDepth 100000 in
theorem gl_184_0 : jm_gl "FrescoWallModel" prog_14_method_16_code 3 (Option.some Jvm.ClassFile.FieldType.int) false cl_184_0 :=
  jm_gc (pu_ic _ _) (sn_bipush (jm_dc dc_184_0 0 rfl) (by decide)) (
  jm_gc (pu_iload _ _) (sn_iload_n (i := 1) (jm_dc dc_184_0 1 rfl)) (
  jm_gc (pu_ibin _) (sn_imul (jm_dc dc_184_0 2 rfl)) (
  jm_gc (pu_iload _ _) (sn_iload_n (i := 2) (jm_dc dc_184_0 3 rfl)) (
  jm_gc (pu_ic _ _) (sn_iconst (jm_dc dc_184_0 4 rfl) (by decide)) (
  jm_gc (pu_ibin _) (sn_iadd (jm_dc dc_184_0 5 rfl)) (
  jm_gc (pu_aload _ _) (sn_aload_n (i := 0) (jm_dc dc_184_0 6 rfl)) (
  jm_gc (pu_getA _ _) (sn_getA (jm_dc dc_184_0 7 rfl) fl_11_13 rfl) (
  jm_gc (pu_iload _ _) (sn_iload_n (i := 1) (jm_dc dc_184_0 8 rfl)) (
  jm_gc (pu_iald _) (sn_iald (jm_dc dc_184_0 9 rfl)) (
  jm_gc (pu_idz _) (sn_irem (jm_dc dc_184_0 10 rfl)) (
  jm_gc (pu_ibin _) (sn_iadd (jm_dc dc_184_0 11 rfl)) (
  jm_gc (pu_iret) (sn_iret (jm_dc dc_184_0 12 rfl) rfl) (
  jm_gn)))))))))))))
theorem dc_185_0 : ([(0, .aload_n 0, 1), (1, .getfield 16, 3), (4, .aload_n 0, 1), (5, .iload_n 1, 1), (6, .iload_n 2, 1), (7, .invokevirtual 262, 3), (10, .iaload, 1), (11, .aload_n 0, 1), (12, .getfield 16, 3), (15, .bipush 8, 2), (17, .iload_n 1, 1), (18, .imul, 1), (19, .iload_n 2, 1), (20, .iadd, 1), (21, .iaload, 1), (22, .isub, 1), (23, .ireturn, 1)] : List (Nat × Instr × Nat)).all (fun e => decide (decode prog_14_method_17_code e.1 = .ok e.2)) = true := by decide +kernel
abbrev cl_185_0 : List (Nat × jm_O) := [(0, op_aload 0 1), (1, op_getA 11 5), (4, op_aload 0 1), (5, op_iload 1 1), (6, op_iload 2 1), (7, op_callV 11 184 3), (10, op_iald 13), (11, op_aload 0 1), (12, op_getA 11 5), (15, op_ic 8 2), (17, op_iload 1 1), (18, op_ibin (fun x y => x * y)), (19, op_iload 2 1), (20, op_ibin (fun x y => x + y)), (21, op_iald 13), (22, op_ibin (fun x y => x - y)), (23, op_iret)]
set_option maxRecDepth 100000 in
theorem gl_185_0 : jm_gl "FrescoWallModel" prog_14_method_17_code 3 (Option.some Jvm.ClassFile.FieldType.int) false cl_185_0 :=
  jm_gc (pu_aload _ _) (sn_aload_n (i := 0) (jm_dc dc_185_0 0 rfl)) (
  jm_gc (pu_getA _ _) (sn_getA (jm_dc dc_185_0 1 rfl) fl_11_16 rfl) (
  jm_gc (pu_aload _ _) (sn_aload_n (i := 0) (jm_dc dc_185_0 2 rfl)) (
  jm_gc (pu_iload _ _) (sn_iload_n (i := 1) (jm_dc dc_185_0 3 rfl)) (
  jm_gc (pu_iload _ _) (sn_iload_n (i := 2) (jm_dc dc_185_0 4 rfl)) (
  jm_gc (pu_callV _ _ _) (sn_callV (jm_dc dc_185_0 5 rfl) lk_11_262) (
  jm_gc (pu_iald _) (sn_iald (jm_dc dc_185_0 6 rfl)) (
  jm_gc (pu_aload _ _) (sn_aload_n (i := 0) (jm_dc dc_185_0 7 rfl)) (
  jm_gc (pu_getA _ _) (sn_getA (jm_dc dc_185_0 8 rfl) fl_11_16 rfl) (
  jm_gc (pu_ic _ _) (sn_bipush (jm_dc dc_185_0 9 rfl) (by decide)) (
  jm_gc (pu_iload _ _) (sn_iload_n (i := 1) (jm_dc dc_185_0 10 rfl)) (
  jm_gc (pu_ibin _) (sn_imul (jm_dc dc_185_0 11 rfl)) (
  jm_gc (pu_iload _ _) (sn_iload_n (i := 2) (jm_dc dc_185_0 12 rfl)) (
  jm_gc (pu_ibin _) (sn_iadd (jm_dc dc_185_0 13 rfl)) (
  jm_gc (pu_iald _) (sn_iald (jm_dc dc_185_0 14 rfl)) (
  jm_gc (pu_ibin _) (sn_isub (jm_dc dc_185_0 15 rfl)) (
  jm_gc (pu_iret) (sn_iret (jm_dc dc_185_0 16 rfl) rfl) (
  jm_gn)))))))))))))))))
theorem dc_186_0 : ([(0, .aload_n 0, 1), (1, .getfield 19, 3), (4, .aload_n 0, 1), (5, .iload_n 1, 1), (6, .iload_n 2, 1), (7, .invokevirtual 262, 3), (10, .iaload, 1), (11, .aload_n 0, 1), (12, .getfield 19, 3), (15, .bipush 8, 2), (17, .iload_n 1, 1), (18, .imul, 1), (19, .iload_n 2, 1), (20, .iadd, 1), (21, .iaload, 1), (22, .isub, 1), (23, .ireturn, 1)] : List (Nat × Instr × Nat)).all (fun e => decide (decode prog_14_method_18_code e.1 = .ok e.2)) = true := by decide +kernel
abbrev cl_186_0 : List (Nat × jm_O) := [(0, op_aload 0 1), (1, op_getA 11 6), (4, op_aload 0 1), (5, op_iload 1 1), (6, op_iload 2 1), (7, op_callV 11 184 3), (10, op_iald 13), (11, op_aload 0 1), (12, op_getA 11 6), (15, op_ic 8 2), (17, op_iload 1 1), (18, op_ibin (fun x y => x * y)), (19, op_iload 2 1), (20, op_ibin (fun x y => x + y)), (21, op_iald 13), (22, op_ibin (fun x y => x - y)), (23, op_iret)]
set_option maxRecDepth 100000 in
theorem gl_186_0 : jm_gl "FrescoWallModel" prog_14_method_18_code 3 (Option.some Jvm.ClassFile.FieldType.int) false cl_186_0 :=
  jm_gc (pu_aload _ _) (sn_aload_n (i := 0) (jm_dc dc_186_0 0 rfl)) (
  jm_gc (pu_getA _ _) (sn_getA (jm_dc dc_186_0 1 rfl) fl_11_19 rfl) (
  jm_gc (pu_aload _ _) (sn_aload_n (i := 0) (jm_dc dc_186_0 2 rfl)) (
  jm_gc (pu_iload _ _) (sn_iload_n (i := 1) (jm_dc dc_186_0 3 rfl)) (
  jm_gc (pu_iload _ _) (sn_iload_n (i := 2) (jm_dc dc_186_0 4 rfl)) (
  jm_gc (pu_callV _ _ _) (sn_callV (jm_dc dc_186_0 5 rfl) lk_11_262) (
  jm_gc (pu_iald _) (sn_iald (jm_dc dc_186_0 6 rfl)) (
  jm_gc (pu_aload _ _) (sn_aload_n (i := 0) (jm_dc dc_186_0 7 rfl)) (
  jm_gc (pu_getA _ _) (sn_getA (jm_dc dc_186_0 8 rfl) fl_11_19 rfl) (
  jm_gc (pu_ic _ _) (sn_bipush (jm_dc dc_186_0 9 rfl) (by decide)) (
  jm_gc (pu_iload _ _) (sn_iload_n (i := 1) (jm_dc dc_186_0 10 rfl)) (
  jm_gc (pu_ibin _) (sn_imul (jm_dc dc_186_0 11 rfl)) (
  jm_gc (pu_iload _ _) (sn_iload_n (i := 2) (jm_dc dc_186_0 12 rfl)) (
  jm_gc (pu_ibin _) (sn_iadd (jm_dc dc_186_0 13 rfl)) (
  jm_gc (pu_iald _) (sn_iald (jm_dc dc_186_0 14 rfl)) (
  jm_gc (pu_ibin _) (sn_isub (jm_dc dc_186_0 15 rfl)) (
  jm_gc (pu_iret) (sn_iret (jm_dc dc_186_0 16 rfl) rfl) (
  jm_gn)))))))))))))))))
theorem dc_187_0 : ([(0, .iload_n 0, 1), (1, .ifCond .le 7, 3), (4, .iconst 1, 1), (5, .goto 12, 3), (8, .iload_n 0, 1), (9, .ifCond .ge 7, 3), (12, .iconst (-1), 1), (13, .goto 4, 3), (16, .iconst 0, 1), (17, .ireturn, 1)] : List (Nat × Instr × Nat)).all (fun e => decide (decode prog_14_method_19_code e.1 = .ok e.2)) = true := by decide +kernel
abbrev cl_187_0 : List (Nat × jm_O) := [(0, op_iload 0 1), (1, op_ifle 8), (4, op_ic 1 1), (5, op_goto 17), (8, op_iload 0 1), (9, op_ifge 16), (12, op_ic (-1) 1), (13, op_goto 17), (16, op_ic 0 1), (17, op_iret)]
set_option maxRecDepth 100000 in
theorem gl_187_0 : jm_gl "FrescoWallModel" prog_14_method_19_code 1 (Option.some Jvm.ClassFile.FieldType.int) false cl_187_0 :=
  jm_gc (pu_iload _ _) (sn_iload_n (i := 0) (jm_dc dc_187_0 0 rfl)) (
  jm_gc (pu_ifle _) (sn_ifle (jm_dc dc_187_0 1 rfl) (by decide)) (
  jm_gc (pu_ic _ _) (sn_iconst (jm_dc dc_187_0 2 rfl) (by decide)) (
  jm_gc (pu_goto _) (sn_goto (jm_dc dc_187_0 3 rfl) (by decide)) (
  jm_gc (pu_iload _ _) (sn_iload_n (i := 0) (jm_dc dc_187_0 4 rfl)) (
  jm_gc (pu_ifge _) (sn_ifge (jm_dc dc_187_0 5 rfl) (by decide)) (
  jm_gc (pu_ic _ _) (sn_iconst (jm_dc dc_187_0 6 rfl) (by decide)) (
  jm_gc (pu_goto _) (sn_goto (jm_dc dc_187_0 7 rfl) (by decide)) (
  jm_gc (pu_ic _ _) (sn_iconst (jm_dc dc_187_0 8 rfl) (by decide)) (
  jm_gc (pu_iret) (sn_iret (jm_dc dc_187_0 9 rfl) rfl) (
  jm_gn))))))))))
theorem dc_188_0 : ([(0, .aload_n 0, 1), (1, .iload_n 1, 1), (2, .iload_n 2, 1), (3, .invokevirtual 266, 3), (6, .aload_n 0, 1), (7, .iload_n 1, 1), (8, .iload_n 2, 1), (9, .invokevirtual 269, 3), (12, .iload_n 3, 1), (13, .aload_n 0, 1), (14, .getfield 16, 3), (17, .bipush 8, 2), (19, .iload_n 1, 1), (20, .imul, 1), (21, .iload_n 2, 1), (22, .iadd, 1), (23, .iaload, 1), (24, .isub, 1), (25, .iload 4, 2), (27, .aload_n 0, 1), (28, .getfield 19, 3), (31, .bipush 8, 2), (33, .iload_n 1, 1), (34, .imul, 1), (35, .iload_n 2, 1)] : List (Nat × Instr × Nat)).all (fun e => decide (decode prog_14_method_20_code e.1 = .ok e.2)) = true := by decide +kernel
abbrev cl_188_0 : List (Nat × jm_O) := [(0, op_aload 0 1), (1, op_iload 1 1), (2, op_iload 2 1), (3, op_callV 11 185 3), (6, op_aload 0 1), (7, op_iload 1 1), (8, op_iload 2 1), (9, op_callV 11 186 3), (12, op_iload 3 1), (13, op_aload 0 1), (14, op_getA 11 5), (17, op_ic 8 2), (19, op_iload 1 1), (20, op_ibin (fun x y => x * y)), (21, op_iload 2 1), (22, op_ibin (fun x y => x + y)), (23, op_iald 13), (24, op_ibin (fun x y => x - y)), (25, op_iload 4 2), (27, op_aload 0 1), (28, op_getA 11 6), (31, op_ic 8 2), (33, op_iload 1 1), (34, op_ibin (fun x y => x * y)), (35, op_iload 2 1)]
set_option maxRecDepth 100000 in
theorem gl_188_0 : jm_gl "FrescoWallModel" prog_14_method_20_code 5 (Option.some Jvm.ClassFile.FieldType.int) false cl_188_0 :=
  jm_gc (pu_aload _ _) (sn_aload_n (i := 0) (jm_dc dc_188_0 0 rfl)) (
  jm_gc (pu_iload _ _) (sn_iload_n (i := 1) (jm_dc dc_188_0 1 rfl)) (
  jm_gc (pu_iload _ _) (sn_iload_n (i := 2) (jm_dc dc_188_0 2 rfl)) (
  jm_gc (pu_callV _ _ _) (sn_callV (jm_dc dc_188_0 3 rfl) lk_11_266) (
  jm_gc (pu_aload _ _) (sn_aload_n (i := 0) (jm_dc dc_188_0 4 rfl)) (
  jm_gc (pu_iload _ _) (sn_iload_n (i := 1) (jm_dc dc_188_0 5 rfl)) (
  jm_gc (pu_iload _ _) (sn_iload_n (i := 2) (jm_dc dc_188_0 6 rfl)) (
  jm_gc (pu_callV _ _ _) (sn_callV (jm_dc dc_188_0 7 rfl) lk_11_269) (
  jm_gc (pu_iload _ _) (sn_iload_n (i := 3) (jm_dc dc_188_0 8 rfl)) (
  jm_gc (pu_aload _ _) (sn_aload_n (i := 0) (jm_dc dc_188_0 9 rfl)) (
  jm_gc (pu_getA _ _) (sn_getA (jm_dc dc_188_0 10 rfl) fl_11_16 rfl) (
  jm_gc (pu_ic _ _) (sn_bipush (jm_dc dc_188_0 11 rfl) (by decide)) (
  jm_gc (pu_iload _ _) (sn_iload_n (i := 1) (jm_dc dc_188_0 12 rfl)) (
  jm_gc (pu_ibin _) (sn_imul (jm_dc dc_188_0 13 rfl)) (
  jm_gc (pu_iload _ _) (sn_iload_n (i := 2) (jm_dc dc_188_0 14 rfl)) (
  jm_gc (pu_ibin _) (sn_iadd (jm_dc dc_188_0 15 rfl)) (
  jm_gc (pu_iald _) (sn_iald (jm_dc dc_188_0 16 rfl)) (
  jm_gc (pu_ibin _) (sn_isub (jm_dc dc_188_0 17 rfl)) (
  jm_gc (pu_iload _ _) (sn_iload (jm_dc dc_188_0 18 rfl)) (
  jm_gc (pu_aload _ _) (sn_aload_n (i := 0) (jm_dc dc_188_0 19 rfl)) (
  jm_gc (pu_getA _ _) (sn_getA (jm_dc dc_188_0 20 rfl) fl_11_19 rfl) (
  jm_gc (pu_ic _ _) (sn_bipush (jm_dc dc_188_0 21 rfl) (by decide)) (
  jm_gc (pu_iload _ _) (sn_iload_n (i := 1) (jm_dc dc_188_0 22 rfl)) (
  jm_gc (pu_ibin _) (sn_imul (jm_dc dc_188_0 23 rfl)) (
  jm_gc (pu_iload _ _) (sn_iload_n (i := 2) (jm_dc dc_188_0 24 rfl)) (
  jm_gn)))))))))))))))))))))))))
theorem dc_188_1 : ([(36, .iadd, 1), (37, .iaload, 1), (38, .isub, 1), (39, .invokestatic 272, 3), (42, .invokestatic 276, 3), (45, .ireturn, 1)] : List (Nat × Instr × Nat)).all (fun e => decide (decode prog_14_method_20_code e.1 = .ok e.2)) = true := by decide +kernel
abbrev cl_188_1 : List (Nat × jm_O) := [(36, op_ibin (fun x y => x + y)), (37, op_iald 13), (38, op_ibin (fun x y => x - y)), (39, op_callS 183 4), (42, op_callS 187 1), (45, op_iret)]
set_option maxRecDepth 100000 in
theorem gl_188_1 : jm_gl "FrescoWallModel" prog_14_method_20_code 5 (Option.some Jvm.ClassFile.FieldType.int) false cl_188_1 :=
  jm_gc (pu_ibin _) (sn_iadd (jm_dc dc_188_1 0 rfl)) (
  jm_gc (pu_iald _) (sn_iald (jm_dc dc_188_1 1 rfl)) (
  jm_gc (pu_ibin _) (sn_isub (jm_dc dc_188_1 2 rfl)) (
  jm_gc (pu_callS _ _) (sn_callS (jm_dc dc_188_1 3 rfl) lk_11_272) (
  jm_gc (pu_callS _ _) (sn_callS (jm_dc dc_188_1 4 rfl) lk_11_276) (
  jm_gc (pu_iret) (sn_iret (jm_dc dc_188_1 5 rfl) rfl) (
  jm_gn))))))
theorem dc_189_0 : ([(0, .bipush 8, 2), (2, .iload_n 1, 1), (3, .imul, 1), (4, .iload_n 2, 1), (5, .iadd, 1), (6, .istore 5, 2), (8, .aload_n 0, 1), (9, .iload_n 1, 1), (10, .iload_n 2, 1), (11, .invokevirtual 262, 3), (14, .istore 6, 2), (16, .iload_n 3, 1), (17, .aload_n 0, 1), (18, .getfield 16, 3), (21, .iload 5, 2), (23, .iaload, 1), (24, .aload_n 0, 1), (25, .getfield 16, 3), (28, .iload 6, 2), (30, .iaload, 1), (31, .invokestatic 280, 3), (34, .aload_n 0, 1), (35, .getfield 16, 3), (38, .iload 5, 2), (40, .iaload, 1)] : List (Nat × Instr × Nat)).all (fun e => decide (decode prog_14_method_21_code e.1 = .ok e.2)) = true := by decide +kernel
abbrev cl_189_0 : List (Nat × jm_O) := [(0, op_ic 8 2), (2, op_iload 1 1), (3, op_ibin (fun x y => x * y)), (4, op_iload 2 1), (5, op_ibin (fun x y => x + y)), (6, op_istore 5 2), (8, op_aload 0 1), (9, op_iload 1 1), (10, op_iload 2 1), (11, op_callV 11 184 3), (14, op_istore 6 2), (16, op_iload 3 1), (17, op_aload 0 1), (18, op_getA 11 5), (21, op_iload 5 2), (23, op_iald 13), (24, op_aload 0 1), (25, op_getA 11 5), (28, op_iload 6 2), (30, op_iald 13), (31, op_mmin), (34, op_aload 0 1), (35, op_getA 11 5), (38, op_iload 5 2), (40, op_iald 13)]
set_option maxRecDepth 100000 in
theorem gl_189_0 : jm_gl "FrescoWallModel" prog_14_method_21_code 8 (Option.some Jvm.ClassFile.FieldType.boolean) false cl_189_0 :=
  jm_gc (pu_ic _ _) (sn_bipush (jm_dc dc_189_0 0 rfl) (by decide)) (
  jm_gc (pu_iload _ _) (sn_iload_n (i := 1) (jm_dc dc_189_0 1 rfl)) (
  jm_gc (pu_ibin _) (sn_imul (jm_dc dc_189_0 2 rfl)) (
  jm_gc (pu_iload _ _) (sn_iload_n (i := 2) (jm_dc dc_189_0 3 rfl)) (
  jm_gc (pu_ibin _) (sn_iadd (jm_dc dc_189_0 4 rfl)) (
  jm_gc (pu_istore _ _) (sn_istore (jm_dc dc_189_0 5 rfl)) (
  jm_gc (pu_aload _ _) (sn_aload_n (i := 0) (jm_dc dc_189_0 6 rfl)) (
  jm_gc (pu_iload _ _) (sn_iload_n (i := 1) (jm_dc dc_189_0 7 rfl)) (
  jm_gc (pu_iload _ _) (sn_iload_n (i := 2) (jm_dc dc_189_0 8 rfl)) (
  jm_gc (pu_callV _ _ _) (sn_callV (jm_dc dc_189_0 9 rfl) lk_11_262) (
  jm_gc (pu_istore _ _) (sn_istore (jm_dc dc_189_0 10 rfl)) (
  jm_gc (pu_iload _ _) (sn_iload_n (i := 3) (jm_dc dc_189_0 11 rfl)) (
  jm_gc (pu_aload _ _) (sn_aload_n (i := 0) (jm_dc dc_189_0 12 rfl)) (
  jm_gc (pu_getA _ _) (sn_getA (jm_dc dc_189_0 13 rfl) fl_11_16 rfl) (
  jm_gc (pu_iload _ _) (sn_iload (jm_dc dc_189_0 14 rfl)) (
  jm_gc (pu_iald _) (sn_iald (jm_dc dc_189_0 15 rfl)) (
  jm_gc (pu_aload _ _) (sn_aload_n (i := 0) (jm_dc dc_189_0 16 rfl)) (
  jm_gc (pu_getA _ _) (sn_getA (jm_dc dc_189_0 17 rfl) fl_11_16 rfl) (
  jm_gc (pu_iload _ _) (sn_iload (jm_dc dc_189_0 18 rfl)) (
  jm_gc (pu_iald _) (sn_iald (jm_dc dc_189_0 19 rfl)) (
  jm_gc (pu_mmin) (sn_mmin (jm_dc dc_189_0 20 rfl) ⟨kc_tb 1625 (by decide +kernel), kc_tb 478 (by decide +kernel), kc_tb 13 (by decide +kernel), kc_tb 479 (by decide +kernel)⟩) (
  jm_gc (pu_aload _ _) (sn_aload_n (i := 0) (jm_dc dc_189_0 21 rfl)) (
  jm_gc (pu_getA _ _) (sn_getA (jm_dc dc_189_0 22 rfl) fl_11_16 rfl) (
  jm_gc (pu_iload _ _) (sn_iload (jm_dc dc_189_0 23 rfl)) (
  jm_gc (pu_iald _) (sn_iald (jm_dc dc_189_0 24 rfl)) (
  jm_gn)))))))))))))))))))))))))
theorem dc_189_1 : ([(41, .aload_n 0, 1), (42, .getfield 16, 3), (45, .iload 6, 2), (47, .iaload, 1), (48, .invokestatic 285, 3), (51, .invokestatic 218, 3), (54, .istore 7, 2), (56, .aload_n 0, 1), (57, .iload_n 1, 1), (58, .iload_n 2, 1), (59, .iload_n 3, 1), (60, .iload 4, 2), (62, .invokevirtual 288, 3), (65, .ifCond .ne 54, 3), (68, .iload 7, 2), (70, .ifCond .eq 49, 3), (73, .iload 4, 2), (75, .aload_n 0, 1), (76, .getfield 19, 3), (79, .iload 5, 2), (81, .iaload, 1), (82, .aload_n 0, 1), (83, .getfield 19, 3), (86, .iload 6, 2), (88, .iaload, 1)] : List (Nat × Instr × Nat)).all (fun e => decide (decode prog_14_method_21_code e.1 = .ok e.2)) = true := by decide +kernel
abbrev cl_189_1 : List (Nat × jm_O) := [(41, op_aload 0 1), (42, op_getA 11 5), (45, op_iload 6 2), (47, op_iald 13), (48, op_mmax), (51, op_callS 171 3), (54, op_istore 7 2), (56, op_aload 0 1), (57, op_iload 1 1), (58, op_iload 2 1), (59, op_iload 3 1), (60, op_iload 4 2), (62, op_callV 11 188 5), (65, op_ifne 119), (68, op_iload 7 2), (70, op_ifeq 119), (73, op_iload 4 2), (75, op_aload 0 1), (76, op_getA 11 6), (79, op_iload 5 2), (81, op_iald 13), (82, op_aload 0 1), (83, op_getA 11 6), (86, op_iload 6 2), (88, op_iald 13)]
set_option maxRecDepth 100000 in
theorem gl_189_1 : jm_gl "FrescoWallModel" prog_14_method_21_code 8 (Option.some Jvm.ClassFile.FieldType.boolean) false cl_189_1 :=
  jm_gc (pu_aload _ _) (sn_aload_n (i := 0) (jm_dc dc_189_1 0 rfl)) (
  jm_gc (pu_getA _ _) (sn_getA (jm_dc dc_189_1 1 rfl) fl_11_16 rfl) (
  jm_gc (pu_iload _ _) (sn_iload (jm_dc dc_189_1 2 rfl)) (
  jm_gc (pu_iald _) (sn_iald (jm_dc dc_189_1 3 rfl)) (
  jm_gc (pu_mmax) (sn_mmax (jm_dc dc_189_1 4 rfl) ⟨kc_tb 1626 (by decide +kernel), kc_tb 481 (by decide +kernel), kc_tb 13 (by decide +kernel), kc_tb 482 (by decide +kernel)⟩) (
  jm_gc (pu_callS _ _) (sn_callS (jm_dc dc_189_1 5 rfl) lk_11_218) (
  jm_gc (pu_istore _ _) (sn_istore (jm_dc dc_189_1 6 rfl)) (
  jm_gc (pu_aload _ _) (sn_aload_n (i := 0) (jm_dc dc_189_1 7 rfl)) (
  jm_gc (pu_iload _ _) (sn_iload_n (i := 1) (jm_dc dc_189_1 8 rfl)) (
  jm_gc (pu_iload _ _) (sn_iload_n (i := 2) (jm_dc dc_189_1 9 rfl)) (
  jm_gc (pu_iload _ _) (sn_iload_n (i := 3) (jm_dc dc_189_1 10 rfl)) (
  jm_gc (pu_iload _ _) (sn_iload (jm_dc dc_189_1 11 rfl)) (
  jm_gc (pu_callV _ _ _) (sn_callV (jm_dc dc_189_1 12 rfl) lk_11_288) (
  jm_gc (pu_ifne _) (sn_ifne (jm_dc dc_189_1 13 rfl) (by decide)) (
  jm_gc (pu_iload _ _) (sn_iload (jm_dc dc_189_1 14 rfl)) (
  jm_gc (pu_ifeq _) (sn_ifeq (jm_dc dc_189_1 15 rfl) (by decide)) (
  jm_gc (pu_iload _ _) (sn_iload (jm_dc dc_189_1 16 rfl)) (
  jm_gc (pu_aload _ _) (sn_aload_n (i := 0) (jm_dc dc_189_1 17 rfl)) (
  jm_gc (pu_getA _ _) (sn_getA (jm_dc dc_189_1 18 rfl) fl_11_19 rfl) (
  jm_gc (pu_iload _ _) (sn_iload (jm_dc dc_189_1 19 rfl)) (
  jm_gc (pu_iald _) (sn_iald (jm_dc dc_189_1 20 rfl)) (
  jm_gc (pu_aload _ _) (sn_aload_n (i := 0) (jm_dc dc_189_1 21 rfl)) (
  jm_gc (pu_getA _ _) (sn_getA (jm_dc dc_189_1 22 rfl) fl_11_19 rfl) (
  jm_gc (pu_iload _ _) (sn_iload (jm_dc dc_189_1 23 rfl)) (
  jm_gc (pu_iald _) (sn_iald (jm_dc dc_189_1 24 rfl)) (
  jm_gn)))))))))))))))))))))))))
theorem dc_189_2 : ([(89, .invokestatic 280, 3), (92, .aload_n 0, 1), (93, .getfield 19, 3), (96, .iload 5, 2), (98, .iaload, 1), (99, .aload_n 0, 1), (100, .getfield 19, 3), (103, .iload 6, 2), (105, .iaload, 1), (106, .invokestatic 285, 3), (109, .invokestatic 218, 3), (112, .ifCond .eq 7, 3), (115, .iconst 1, 1), (116, .goto 4, 3), (119, .iconst 0, 1), (120, .ireturn, 1)] : List (Nat × Instr × Nat)).all (fun e => decide (decode prog_14_method_21_code e.1 = .ok e.2)) = true := by decide +kernel
abbrev cl_189_2 : List (Nat × jm_O) := [(89, op_mmin), (92, op_aload 0 1), (93, op_getA 11 6), (96, op_iload 5 2), (98, op_iald 13), (99, op_aload 0 1), (100, op_getA 11 6), (103, op_iload 6 2), (105, op_iald 13), (106, op_mmax), (109, op_callS 171 3), (112, op_ifeq 119), (115, op_ic 1 1), (116, op_goto 120), (119, op_ic 0 1), (120, op_zret)]
set_option maxRecDepth 100000 in
theorem gl_189_2 : jm_gl "FrescoWallModel" prog_14_method_21_code 8 (Option.some Jvm.ClassFile.FieldType.boolean) false cl_189_2 :=
  jm_gc (pu_mmin) (sn_mmin (jm_dc dc_189_2 0 rfl) ⟨kc_tb 1625 (by decide +kernel), kc_tb 478 (by decide +kernel), kc_tb 13 (by decide +kernel), kc_tb 479 (by decide +kernel)⟩) (
  jm_gc (pu_aload _ _) (sn_aload_n (i := 0) (jm_dc dc_189_2 1 rfl)) (
  jm_gc (pu_getA _ _) (sn_getA (jm_dc dc_189_2 2 rfl) fl_11_19 rfl) (
  jm_gc (pu_iload _ _) (sn_iload (jm_dc dc_189_2 3 rfl)) (
  jm_gc (pu_iald _) (sn_iald (jm_dc dc_189_2 4 rfl)) (
  jm_gc (pu_aload _ _) (sn_aload_n (i := 0) (jm_dc dc_189_2 5 rfl)) (
  jm_gc (pu_getA _ _) (sn_getA (jm_dc dc_189_2 6 rfl) fl_11_19 rfl) (
  jm_gc (pu_iload _ _) (sn_iload (jm_dc dc_189_2 7 rfl)) (
  jm_gc (pu_iald _) (sn_iald (jm_dc dc_189_2 8 rfl)) (
  jm_gc (pu_mmax) (sn_mmax (jm_dc dc_189_2 9 rfl) ⟨kc_tb 1626 (by decide +kernel), kc_tb 481 (by decide +kernel), kc_tb 13 (by decide +kernel), kc_tb 482 (by decide +kernel)⟩) (
  jm_gc (pu_callS _ _) (sn_callS (jm_dc dc_189_2 10 rfl) lk_11_218) (
  jm_gc (pu_ifeq _) (sn_ifeq (jm_dc dc_189_2 11 rfl) (by decide)) (
  jm_gc (pu_ic _ _) (sn_iconst (jm_dc dc_189_2 12 rfl) (by decide)) (
  jm_gc (pu_goto _) (sn_goto (jm_dc dc_189_2 13 rfl) (by decide)) (
  jm_gc (pu_ic _ _) (sn_iconst (jm_dc dc_189_2 14 rfl) (by decide)) (
  jm_gc (pu_zret) (sn_zret (jm_dc dc_189_2 15 rfl) rfl) (
  jm_gn))))))))))))))))
theorem dc_190_0 : ([(0, .bipush 8, 2), (2, .iload_n 1, 1), (3, .imul, 1), (4, .iload_n 2, 1), (5, .iadd, 1), (6, .istore 4, 2), (8, .aload_n 0, 1), (9, .iload_n 1, 1), (10, .iload_n 2, 1), (11, .invokevirtual 262, 3), (14, .istore 5, 2), (16, .bipush 8, 2), (18, .iload_n 1, 1), (19, .imul, 1), (20, .iload_n 3, 1), (21, .iadd, 1), (22, .istore 6, 2), (24, .aload_n 0, 1), (25, .iload_n 1, 1), (26, .iload_n 3, 1), (27, .invokevirtual 262, 3), (30, .istore 7, 2), (32, .aload_n 0, 1), (33, .iload_n 1, 1), (34, .iload_n 2, 1)] : List (Nat × Instr × Nat)).all (fun e => decide (decode prog_14_method_22_code e.1 = .ok e.2)) = true := by decide +kernel
abbrev cl_190_0 : List (Nat × jm_O) := [(0, op_ic 8 2), (2, op_iload 1 1), (3, op_ibin (fun x y => x * y)), (4, op_iload 2 1), (5, op_ibin (fun x y => x + y)), (6, op_istore 4 2), (8, op_aload 0 1), (9, op_iload 1 1), (10, op_iload 2 1), (11, op_callV 11 184 3), (14, op_istore 5 2), (16, op_ic 8 2), (18, op_iload 1 1), (19, op_ibin (fun x y => x * y)), (20, op_iload 3 1), (21, op_ibin (fun x y => x + y)), (22, op_istore 6 2), (24, op_aload 0 1), (25, op_iload 1 1), (26, op_iload 3 1), (27, op_callV 11 184 3), (30, op_istore 7 2), (32, op_aload 0 1), (33, op_iload 1 1), (34, op_iload 2 1)]
set_option maxRecDepth 100000 in
theorem gl_190_0 : jm_gl "FrescoWallModel" prog_14_method_22_code 8 (Option.some Jvm.ClassFile.FieldType.boolean) false cl_190_0 :=
  jm_gc (pu_ic _ _) (sn_bipush (jm_dc dc_190_0 0 rfl) (by decide)) (
  jm_gc (pu_iload _ _) (sn_iload_n (i := 1) (jm_dc dc_190_0 1 rfl)) (
  jm_gc (pu_ibin _) (sn_imul (jm_dc dc_190_0 2 rfl)) (
  jm_gc (pu_iload _ _) (sn_iload_n (i := 2) (jm_dc dc_190_0 3 rfl)) (
  jm_gc (pu_ibin _) (sn_iadd (jm_dc dc_190_0 4 rfl)) (
  jm_gc (pu_istore _ _) (sn_istore (jm_dc dc_190_0 5 rfl)) (
  jm_gc (pu_aload _ _) (sn_aload_n (i := 0) (jm_dc dc_190_0 6 rfl)) (
  jm_gc (pu_iload _ _) (sn_iload_n (i := 1) (jm_dc dc_190_0 7 rfl)) (
  jm_gc (pu_iload _ _) (sn_iload_n (i := 2) (jm_dc dc_190_0 8 rfl)) (
  jm_gc (pu_callV _ _ _) (sn_callV (jm_dc dc_190_0 9 rfl) lk_11_262) (
  jm_gc (pu_istore _ _) (sn_istore (jm_dc dc_190_0 10 rfl)) (
  jm_gc (pu_ic _ _) (sn_bipush (jm_dc dc_190_0 11 rfl) (by decide)) (
  jm_gc (pu_iload _ _) (sn_iload_n (i := 1) (jm_dc dc_190_0 12 rfl)) (
  jm_gc (pu_ibin _) (sn_imul (jm_dc dc_190_0 13 rfl)) (
  jm_gc (pu_iload _ _) (sn_iload_n (i := 3) (jm_dc dc_190_0 14 rfl)) (
  jm_gc (pu_ibin _) (sn_iadd (jm_dc dc_190_0 15 rfl)) (
  jm_gc (pu_istore _ _) (sn_istore (jm_dc dc_190_0 16 rfl)) (
  jm_gc (pu_aload _ _) (sn_aload_n (i := 0) (jm_dc dc_190_0 17 rfl)) (
  jm_gc (pu_iload _ _) (sn_iload_n (i := 1) (jm_dc dc_190_0 18 rfl)) (
  jm_gc (pu_iload _ _) (sn_iload_n (i := 3) (jm_dc dc_190_0 19 rfl)) (
  jm_gc (pu_callV _ _ _) (sn_callV (jm_dc dc_190_0 20 rfl) lk_11_262) (
  jm_gc (pu_istore _ _) (sn_istore (jm_dc dc_190_0 21 rfl)) (
  jm_gc (pu_aload _ _) (sn_aload_n (i := 0) (jm_dc dc_190_0 22 rfl)) (
  jm_gc (pu_iload _ _) (sn_iload_n (i := 1) (jm_dc dc_190_0 23 rfl)) (
  jm_gc (pu_iload _ _) (sn_iload_n (i := 2) (jm_dc dc_190_0 24 rfl)) (
  jm_gn)))))))))))))))))))))))))
theorem dc_190_1 : ([(35, .aload_n 0, 1), (36, .getfield 16, 3), (39, .iload 6, 2), (41, .iaload, 1), (42, .aload_n 0, 1), (43, .getfield 19, 3), (46, .iload 6, 2), (48, .iaload, 1), (49, .invokevirtual 291, 3), (52, .ifCond .ne 72, 3), (55, .aload_n 0, 1), (56, .iload_n 1, 1), (57, .iload_n 2, 1), (58, .aload_n 0, 1), (59, .getfield 16, 3), (62, .iload 7, 2), (64, .iaload, 1), (65, .aload_n 0, 1), (66, .getfield 19, 3), (69, .iload 7, 2), (71, .iaload, 1), (72, .invokevirtual 291, 3), (75, .ifCond .ne 49, 3), (78, .aload_n 0, 1), (79, .iload_n 1, 1)] : List (Nat × Instr × Nat)).all (fun e => decide (decode prog_14_method_22_code e.1 = .ok e.2)) = true := by decide +kernel
abbrev cl_190_1 : List (Nat × jm_O) := [(35, op_aload 0 1), (36, op_getA 11 5), (39, op_iload 6 2), (41, op_iald 13), (42, op_aload 0 1), (43, op_getA 11 6), (46, op_iload 6 2), (48, op_iald 13), (49, op_callV 11 189 5), (52, op_ifne 124), (55, op_aload 0 1), (56, op_iload 1 1), (57, op_iload 2 1), (58, op_aload 0 1), (59, op_getA 11 5), (62, op_iload 7 2), (64, op_iald 13), (65, op_aload 0 1), (66, op_getA 11 6), (69, op_iload 7 2), (71, op_iald 13), (72, op_callV 11 189 5), (75, op_ifne 124), (78, op_aload 0 1), (79, op_iload 1 1)]
set_option maxRecDepth 100000 in
theorem gl_190_1 : jm_gl "FrescoWallModel" prog_14_method_22_code 8 (Option.some Jvm.ClassFile.FieldType.boolean) false cl_190_1 :=
  jm_gc (pu_aload _ _) (sn_aload_n (i := 0) (jm_dc dc_190_1 0 rfl)) (
  jm_gc (pu_getA _ _) (sn_getA (jm_dc dc_190_1 1 rfl) fl_11_16 rfl) (
  jm_gc (pu_iload _ _) (sn_iload (jm_dc dc_190_1 2 rfl)) (
  jm_gc (pu_iald _) (sn_iald (jm_dc dc_190_1 3 rfl)) (
  jm_gc (pu_aload _ _) (sn_aload_n (i := 0) (jm_dc dc_190_1 4 rfl)) (
  jm_gc (pu_getA _ _) (sn_getA (jm_dc dc_190_1 5 rfl) fl_11_19 rfl) (
  jm_gc (pu_iload _ _) (sn_iload (jm_dc dc_190_1 6 rfl)) (
  jm_gc (pu_iald _) (sn_iald (jm_dc dc_190_1 7 rfl)) (
  jm_gc (pu_callV _ _ _) (sn_callV (jm_dc dc_190_1 8 rfl) lk_11_291) (
  jm_gc (pu_ifne _) (sn_ifne (jm_dc dc_190_1 9 rfl) (by decide)) (
  jm_gc (pu_aload _ _) (sn_aload_n (i := 0) (jm_dc dc_190_1 10 rfl)) (
  jm_gc (pu_iload _ _) (sn_iload_n (i := 1) (jm_dc dc_190_1 11 rfl)) (
  jm_gc (pu_iload _ _) (sn_iload_n (i := 2) (jm_dc dc_190_1 12 rfl)) (
  jm_gc (pu_aload _ _) (sn_aload_n (i := 0) (jm_dc dc_190_1 13 rfl)) (
  jm_gc (pu_getA _ _) (sn_getA (jm_dc dc_190_1 14 rfl) fl_11_16 rfl) (
  jm_gc (pu_iload _ _) (sn_iload (jm_dc dc_190_1 15 rfl)) (
  jm_gc (pu_iald _) (sn_iald (jm_dc dc_190_1 16 rfl)) (
  jm_gc (pu_aload _ _) (sn_aload_n (i := 0) (jm_dc dc_190_1 17 rfl)) (
  jm_gc (pu_getA _ _) (sn_getA (jm_dc dc_190_1 18 rfl) fl_11_19 rfl) (
  jm_gc (pu_iload _ _) (sn_iload (jm_dc dc_190_1 19 rfl)) (
  jm_gc (pu_iald _) (sn_iald (jm_dc dc_190_1 20 rfl)) (
  jm_gc (pu_callV _ _ _) (sn_callV (jm_dc dc_190_1 21 rfl) lk_11_291) (
  jm_gc (pu_ifne _) (sn_ifne (jm_dc dc_190_1 22 rfl) (by decide)) (
  jm_gc (pu_aload _ _) (sn_aload_n (i := 0) (jm_dc dc_190_1 23 rfl)) (
  jm_gc (pu_iload _ _) (sn_iload_n (i := 1) (jm_dc dc_190_1 24 rfl)) (
  jm_gn)))))))))))))))))))))))))
theorem dc_190_2 : ([(80, .iload_n 3, 1), (81, .aload_n 0, 1), (82, .getfield 16, 3), (85, .iload 4, 2), (87, .iaload, 1), (88, .aload_n 0, 1), (89, .getfield 19, 3), (92, .iload 4, 2), (94, .iaload, 1), (95, .invokevirtual 291, 3), (98, .ifCond .ne 26, 3), (101, .aload_n 0, 1), (102, .iload_n 1, 1), (103, .iload_n 3, 1), (104, .aload_n 0, 1), (105, .getfield 16, 3), (108, .iload 5, 2), (110, .iaload, 1), (111, .aload_n 0, 1), (112, .getfield 19, 3), (115, .iload 5, 2), (117, .iaload, 1), (118, .invokevirtual 291, 3), (121, .ifCond .eq 5, 3), (124, .iconst 1, 1)] : List (Nat × Instr × Nat)).all (fun e => decide (decode prog_14_method_22_code e.1 = .ok e.2)) = true := by decide +kernel
abbrev cl_190_2 : List (Nat × jm_O) := [(80, op_iload 3 1), (81, op_aload 0 1), (82, op_getA 11 5), (85, op_iload 4 2), (87, op_iald 13), (88, op_aload 0 1), (89, op_getA 11 6), (92, op_iload 4 2), (94, op_iald 13), (95, op_callV 11 189 5), (98, op_ifne 124), (101, op_aload 0 1), (102, op_iload 1 1), (103, op_iload 3 1), (104, op_aload 0 1), (105, op_getA 11 5), (108, op_iload 5 2), (110, op_iald 13), (111, op_aload 0 1), (112, op_getA 11 6), (115, op_iload 5 2), (117, op_iald 13), (118, op_callV 11 189 5), (121, op_ifeq 126), (124, op_ic 1 1)]
set_option maxRecDepth 100000 in
theorem gl_190_2 : jm_gl "FrescoWallModel" prog_14_method_22_code 8 (Option.some Jvm.ClassFile.FieldType.boolean) false cl_190_2 :=
  jm_gc (pu_iload _ _) (sn_iload_n (i := 3) (jm_dc dc_190_2 0 rfl)) (
  jm_gc (pu_aload _ _) (sn_aload_n (i := 0) (jm_dc dc_190_2 1 rfl)) (
  jm_gc (pu_getA _ _) (sn_getA (jm_dc dc_190_2 2 rfl) fl_11_16 rfl) (
  jm_gc (pu_iload _ _) (sn_iload (jm_dc dc_190_2 3 rfl)) (
  jm_gc (pu_iald _) (sn_iald (jm_dc dc_190_2 4 rfl)) (
  jm_gc (pu_aload _ _) (sn_aload_n (i := 0) (jm_dc dc_190_2 5 rfl)) (
  jm_gc (pu_getA _ _) (sn_getA (jm_dc dc_190_2 6 rfl) fl_11_19 rfl) (
  jm_gc (pu_iload _ _) (sn_iload (jm_dc dc_190_2 7 rfl)) (
  jm_gc (pu_iald _) (sn_iald (jm_dc dc_190_2 8 rfl)) (
  jm_gc (pu_callV _ _ _) (sn_callV (jm_dc dc_190_2 9 rfl) lk_11_291) (
  jm_gc (pu_ifne _) (sn_ifne (jm_dc dc_190_2 10 rfl) (by decide)) (
  jm_gc (pu_aload _ _) (sn_aload_n (i := 0) (jm_dc dc_190_2 11 rfl)) (
  jm_gc (pu_iload _ _) (sn_iload_n (i := 1) (jm_dc dc_190_2 12 rfl)) (
  jm_gc (pu_iload _ _) (sn_iload_n (i := 3) (jm_dc dc_190_2 13 rfl)) (
  jm_gc (pu_aload _ _) (sn_aload_n (i := 0) (jm_dc dc_190_2 14 rfl)) (
  jm_gc (pu_getA _ _) (sn_getA (jm_dc dc_190_2 15 rfl) fl_11_16 rfl) (
  jm_gc (pu_iload _ _) (sn_iload (jm_dc dc_190_2 16 rfl)) (
  jm_gc (pu_iald _) (sn_iald (jm_dc dc_190_2 17 rfl)) (
  jm_gc (pu_aload _ _) (sn_aload_n (i := 0) (jm_dc dc_190_2 18 rfl)) (
  jm_gc (pu_getA _ _) (sn_getA (jm_dc dc_190_2 19 rfl) fl_11_19 rfl) (
  jm_gc (pu_iload _ _) (sn_iload (jm_dc dc_190_2 20 rfl)) (
  jm_gc (pu_iald _) (sn_iald (jm_dc dc_190_2 21 rfl)) (
  jm_gc (pu_callV _ _ _) (sn_callV (jm_dc dc_190_2 22 rfl) lk_11_291) (
  jm_gc (pu_ifeq _) (sn_ifeq (jm_dc dc_190_2 23 rfl) (by decide)) (
  jm_gc (pu_ic _ _) (sn_iconst (jm_dc dc_190_2 24 rfl) (by decide)) (
  jm_gn)))))))))))))))))))))))))
theorem dc_190_3 : ([(125, .ireturn, 1), (126, .aload_n 0, 1), (127, .iload_n 1, 1), (128, .iload_n 2, 1), (129, .aload_n 0, 1), (130, .getfield 16, 3), (133, .iload 6, 2), (135, .iaload, 1), (136, .aload_n 0, 1), (137, .getfield 19, 3), (140, .iload 6, 2), (142, .iaload, 1), (143, .invokevirtual 288, 3), (146, .aload_n 0, 1), (147, .iload_n 1, 1), (148, .iload_n 2, 1), (149, .aload_n 0, 1), (150, .getfield 16, 3), (153, .iload 7, 2), (155, .iaload, 1), (156, .aload_n 0, 1), (157, .getfield 19, 3), (160, .iload 7, 2), (162, .iaload, 1), (163, .invokevirtual 288, 3)] : List (Nat × Instr × Nat)).all (fun e => decide (decode prog_14_method_22_code e.1 = .ok e.2)) = true := by decide +kernel
abbrev cl_190_3 : List (Nat × jm_O) := [(125, op_zret), (126, op_aload 0 1), (127, op_iload 1 1), (128, op_iload 2 1), (129, op_aload 0 1), (130, op_getA 11 5), (133, op_iload 6 2), (135, op_iald 13), (136, op_aload 0 1), (137, op_getA 11 6), (140, op_iload 6 2), (142, op_iald 13), (143, op_callV 11 188 5), (146, op_aload 0 1), (147, op_iload 1 1), (148, op_iload 2 1), (149, op_aload 0 1), (150, op_getA 11 5), (153, op_iload 7 2), (155, op_iald 13), (156, op_aload 0 1), (157, op_getA 11 6), (160, op_iload 7 2), (162, op_iald 13), (163, op_callV 11 188 5)]
set_option maxRecDepth 100000 in
theorem gl_190_3 : jm_gl "FrescoWallModel" prog_14_method_22_code 8 (Option.some Jvm.ClassFile.FieldType.boolean) false cl_190_3 :=
  jm_gc (pu_zret) (sn_zret (jm_dc dc_190_3 0 rfl) rfl) (
  jm_gc (pu_aload _ _) (sn_aload_n (i := 0) (jm_dc dc_190_3 1 rfl)) (
  jm_gc (pu_iload _ _) (sn_iload_n (i := 1) (jm_dc dc_190_3 2 rfl)) (
  jm_gc (pu_iload _ _) (sn_iload_n (i := 2) (jm_dc dc_190_3 3 rfl)) (
  jm_gc (pu_aload _ _) (sn_aload_n (i := 0) (jm_dc dc_190_3 4 rfl)) (
  jm_gc (pu_getA _ _) (sn_getA (jm_dc dc_190_3 5 rfl) fl_11_16 rfl) (
  jm_gc (pu_iload _ _) (sn_iload (jm_dc dc_190_3 6 rfl)) (
  jm_gc (pu_iald _) (sn_iald (jm_dc dc_190_3 7 rfl)) (
  jm_gc (pu_aload _ _) (sn_aload_n (i := 0) (jm_dc dc_190_3 8 rfl)) (
  jm_gc (pu_getA _ _) (sn_getA (jm_dc dc_190_3 9 rfl) fl_11_19 rfl) (
  jm_gc (pu_iload _ _) (sn_iload (jm_dc dc_190_3 10 rfl)) (
  jm_gc (pu_iald _) (sn_iald (jm_dc dc_190_3 11 rfl)) (
  jm_gc (pu_callV _ _ _) (sn_callV (jm_dc dc_190_3 12 rfl) lk_11_288) (
  jm_gc (pu_aload _ _) (sn_aload_n (i := 0) (jm_dc dc_190_3 13 rfl)) (
  jm_gc (pu_iload _ _) (sn_iload_n (i := 1) (jm_dc dc_190_3 14 rfl)) (
  jm_gc (pu_iload _ _) (sn_iload_n (i := 2) (jm_dc dc_190_3 15 rfl)) (
  jm_gc (pu_aload _ _) (sn_aload_n (i := 0) (jm_dc dc_190_3 16 rfl)) (
  jm_gc (pu_getA _ _) (sn_getA (jm_dc dc_190_3 17 rfl) fl_11_16 rfl) (
  jm_gc (pu_iload _ _) (sn_iload (jm_dc dc_190_3 18 rfl)) (
  jm_gc (pu_iald _) (sn_iald (jm_dc dc_190_3 19 rfl)) (
  jm_gc (pu_aload _ _) (sn_aload_n (i := 0) (jm_dc dc_190_3 20 rfl)) (
  jm_gc (pu_getA _ _) (sn_getA (jm_dc dc_190_3 21 rfl) fl_11_19 rfl) (
  jm_gc (pu_iload _ _) (sn_iload (jm_dc dc_190_3 22 rfl)) (
  jm_gc (pu_iald _) (sn_iald (jm_dc dc_190_3 23 rfl)) (
  jm_gc (pu_callV _ _ _) (sn_callV (jm_dc dc_190_3 24 rfl) lk_11_288) (
  jm_gn)))))))))))))))))))))))))
theorem dc_190_4 : ([(166, .imul, 1), (167, .ifCond .ge 51, 3), (170, .aload_n 0, 1), (171, .iload_n 1, 1), (172, .iload_n 3, 1), (173, .aload_n 0, 1), (174, .getfield 16, 3), (177, .iload 4, 2), (179, .iaload, 1), (180, .aload_n 0, 1), (181, .getfield 19, 3), (184, .iload 4, 2), (186, .iaload, 1), (187, .invokevirtual 288, 3), (190, .aload_n 0, 1), (191, .iload_n 1, 1), (192, .iload_n 3, 1), (193, .aload_n 0, 1), (194, .getfield 16, 3), (197, .iload 5, 2), (199, .iaload, 1), (200, .aload_n 0, 1), (201, .getfield 19, 3), (204, .iload 5, 2), (206, .iaload, 1)] : List (Nat × Instr × Nat)).all (fun e => decide (decode prog_14_method_22_code e.1 = .ok e.2)) = true := by decide +kernel
abbrev cl_190_4 : List (Nat × jm_O) := [(166, op_ibin (fun x y => x * y)), (167, op_ifge 218), (170, op_aload 0 1), (171, op_iload 1 1), (172, op_iload 3 1), (173, op_aload 0 1), (174, op_getA 11 5), (177, op_iload 4 2), (179, op_iald 13), (180, op_aload 0 1), (181, op_getA 11 6), (184, op_iload 4 2), (186, op_iald 13), (187, op_callV 11 188 5), (190, op_aload 0 1), (191, op_iload 1 1), (192, op_iload 3 1), (193, op_aload 0 1), (194, op_getA 11 5), (197, op_iload 5 2), (199, op_iald 13), (200, op_aload 0 1), (201, op_getA 11 6), (204, op_iload 5 2), (206, op_iald 13)]
set_option maxRecDepth 100000 in
theorem gl_190_4 : jm_gl "FrescoWallModel" prog_14_method_22_code 8 (Option.some Jvm.ClassFile.FieldType.boolean) false cl_190_4 :=
  jm_gc (pu_ibin _) (sn_imul (jm_dc dc_190_4 0 rfl)) (
  jm_gc (pu_ifge _) (sn_ifge (jm_dc dc_190_4 1 rfl) (by decide)) (
  jm_gc (pu_aload _ _) (sn_aload_n (i := 0) (jm_dc dc_190_4 2 rfl)) (
  jm_gc (pu_iload _ _) (sn_iload_n (i := 1) (jm_dc dc_190_4 3 rfl)) (
  jm_gc (pu_iload _ _) (sn_iload_n (i := 3) (jm_dc dc_190_4 4 rfl)) (
  jm_gc (pu_aload _ _) (sn_aload_n (i := 0) (jm_dc dc_190_4 5 rfl)) (
  jm_gc (pu_getA _ _) (sn_getA (jm_dc dc_190_4 6 rfl) fl_11_16 rfl) (
  jm_gc (pu_iload _ _) (sn_iload (jm_dc dc_190_4 7 rfl)) (
  jm_gc (pu_iald _) (sn_iald (jm_dc dc_190_4 8 rfl)) (
  jm_gc (pu_aload _ _) (sn_aload_n (i := 0) (jm_dc dc_190_4 9 rfl)) (
  jm_gc (pu_getA _ _) (sn_getA (jm_dc dc_190_4 10 rfl) fl_11_19 rfl) (
  jm_gc (pu_iload _ _) (sn_iload (jm_dc dc_190_4 11 rfl)) (
  jm_gc (pu_iald _) (sn_iald (jm_dc dc_190_4 12 rfl)) (
  jm_gc (pu_callV _ _ _) (sn_callV (jm_dc dc_190_4 13 rfl) lk_11_288) (
  jm_gc (pu_aload _ _) (sn_aload_n (i := 0) (jm_dc dc_190_4 14 rfl)) (
  jm_gc (pu_iload _ _) (sn_iload_n (i := 1) (jm_dc dc_190_4 15 rfl)) (
  jm_gc (pu_iload _ _) (sn_iload_n (i := 3) (jm_dc dc_190_4 16 rfl)) (
  jm_gc (pu_aload _ _) (sn_aload_n (i := 0) (jm_dc dc_190_4 17 rfl)) (
  jm_gc (pu_getA _ _) (sn_getA (jm_dc dc_190_4 18 rfl) fl_11_16 rfl) (
  jm_gc (pu_iload _ _) (sn_iload (jm_dc dc_190_4 19 rfl)) (
  jm_gc (pu_iald _) (sn_iald (jm_dc dc_190_4 20 rfl)) (
  jm_gc (pu_aload _ _) (sn_aload_n (i := 0) (jm_dc dc_190_4 21 rfl)) (
  jm_gc (pu_getA _ _) (sn_getA (jm_dc dc_190_4 22 rfl) fl_11_19 rfl) (
  jm_gc (pu_iload _ _) (sn_iload (jm_dc dc_190_4 23 rfl)) (
  jm_gc (pu_iald _) (sn_iald (jm_dc dc_190_4 24 rfl)) (
  jm_gn)))))))))))))))))))))))))
theorem dc_190_5 : ([(207, .invokevirtual 288, 3), (210, .imul, 1), (211, .ifCond .ge 7, 3), (214, .iconst 1, 1), (215, .goto 4, 3), (218, .iconst 0, 1), (219, .ireturn, 1)] : List (Nat × Instr × Nat)).all (fun e => decide (decode prog_14_method_22_code e.1 = .ok e.2)) = true := by decide +kernel
abbrev cl_190_5 : List (Nat × jm_O) := [(207, op_callV 11 188 5), (210, op_ibin (fun x y => x * y)), (211, op_ifge 218), (214, op_ic 1 1), (215, op_goto 219), (218, op_ic 0 1), (219, op_zret)]
set_option maxRecDepth 100000 in
theorem gl_190_5 : jm_gl "FrescoWallModel" prog_14_method_22_code 8 (Option.some Jvm.ClassFile.FieldType.boolean) false cl_190_5 :=
  jm_gc (pu_callV _ _ _) (sn_callV (jm_dc dc_190_5 0 rfl) lk_11_288) (
  jm_gc (pu_ibin _) (sn_imul (jm_dc dc_190_5 1 rfl)) (
  jm_gc (pu_ifge _) (sn_ifge (jm_dc dc_190_5 2 rfl) (by decide)) (
  jm_gc (pu_ic _ _) (sn_iconst (jm_dc dc_190_5 3 rfl) (by decide)) (
  jm_gc (pu_goto _) (sn_goto (jm_dc dc_190_5 4 rfl) (by decide)) (
  jm_gc (pu_ic _ _) (sn_iconst (jm_dc dc_190_5 5 rfl) (by decide)) (
  jm_gc (pu_zret) (sn_zret (jm_dc dc_190_5 6 rfl) rfl) (
  jm_gn)))))))
theorem dc_191_0 : ([(0, .aload_n 0, 1), (1, .iload_n 1, 1), (2, .iload_n 2, 1), (3, .invokevirtual 266, 3), (6, .aload_n 0, 1), (7, .iload_n 1, 1), (8, .iload_n 3, 1), (9, .invokevirtual 266, 3), (12, .imul, 1), (13, .aload_n 0, 1), (14, .iload_n 1, 1), (15, .iload_n 2, 1), (16, .invokevirtual 269, 3), (19, .aload_n 0, 1), (20, .iload_n 1, 1), (21, .iload_n 3, 1), (22, .invokevirtual 269, 3), (25, .imul, 1), (26, .iadd, 1), (27, .istore 4, 2), (29, .aload_n 0, 1), (30, .iload_n 1, 1), (31, .iload_n 2, 1), (32, .invokevirtual 266, 3), (35, .aload_n 0, 1)] : List (Nat × Instr × Nat)).all (fun e => decide (decode prog_14_method_23_code e.1 = .ok e.2)) = true := by decide +kernel
abbrev cl_191_0 : List (Nat × jm_O) := [(0, op_aload 0 1), (1, op_iload 1 1), (2, op_iload 2 1), (3, op_callV 11 185 3), (6, op_aload 0 1), (7, op_iload 1 1), (8, op_iload 3 1), (9, op_callV 11 185 3), (12, op_ibin (fun x y => x * y)), (13, op_aload 0 1), (14, op_iload 1 1), (15, op_iload 2 1), (16, op_callV 11 186 3), (19, op_aload 0 1), (20, op_iload 1 1), (21, op_iload 3 1), (22, op_callV 11 186 3), (25, op_ibin (fun x y => x * y)), (26, op_ibin (fun x y => x + y)), (27, op_istore 4 2), (29, op_aload 0 1), (30, op_iload 1 1), (31, op_iload 2 1), (32, op_callV 11 185 3), (35, op_aload 0 1)]
set_option maxRecDepth 100000 in
theorem gl_191_0 : jm_gl "FrescoWallModel" prog_14_method_23_code 5 (Option.some Jvm.ClassFile.FieldType.boolean) false cl_191_0 :=
  jm_gc (pu_aload _ _) (sn_aload_n (i := 0) (jm_dc dc_191_0 0 rfl)) (
  jm_gc (pu_iload _ _) (sn_iload_n (i := 1) (jm_dc dc_191_0 1 rfl)) (
  jm_gc (pu_iload _ _) (sn_iload_n (i := 2) (jm_dc dc_191_0 2 rfl)) (
  jm_gc (pu_callV _ _ _) (sn_callV (jm_dc dc_191_0 3 rfl) lk_11_266) (
  jm_gc (pu_aload _ _) (sn_aload_n (i := 0) (jm_dc dc_191_0 4 rfl)) (
  jm_gc (pu_iload _ _) (sn_iload_n (i := 1) (jm_dc dc_191_0 5 rfl)) (
  jm_gc (pu_iload _ _) (sn_iload_n (i := 3) (jm_dc dc_191_0 6 rfl)) (
  jm_gc (pu_callV _ _ _) (sn_callV (jm_dc dc_191_0 7 rfl) lk_11_266) (
  jm_gc (pu_ibin _) (sn_imul (jm_dc dc_191_0 8 rfl)) (
  jm_gc (pu_aload _ _) (sn_aload_n (i := 0) (jm_dc dc_191_0 9 rfl)) (
  jm_gc (pu_iload _ _) (sn_iload_n (i := 1) (jm_dc dc_191_0 10 rfl)) (
  jm_gc (pu_iload _ _) (sn_iload_n (i := 2) (jm_dc dc_191_0 11 rfl)) (
  jm_gc (pu_callV _ _ _) (sn_callV (jm_dc dc_191_0 12 rfl) lk_11_269) (
  jm_gc (pu_aload _ _) (sn_aload_n (i := 0) (jm_dc dc_191_0 13 rfl)) (
  jm_gc (pu_iload _ _) (sn_iload_n (i := 1) (jm_dc dc_191_0 14 rfl)) (
  jm_gc (pu_iload _ _) (sn_iload_n (i := 3) (jm_dc dc_191_0 15 rfl)) (
  jm_gc (pu_callV _ _ _) (sn_callV (jm_dc dc_191_0 16 rfl) lk_11_269) (
  jm_gc (pu_ibin _) (sn_imul (jm_dc dc_191_0 17 rfl)) (
  jm_gc (pu_ibin _) (sn_iadd (jm_dc dc_191_0 18 rfl)) (
  jm_gc (pu_istore _ _) (sn_istore (jm_dc dc_191_0 19 rfl)) (
  jm_gc (pu_aload _ _) (sn_aload_n (i := 0) (jm_dc dc_191_0 20 rfl)) (
  jm_gc (pu_iload _ _) (sn_iload_n (i := 1) (jm_dc dc_191_0 21 rfl)) (
  jm_gc (pu_iload _ _) (sn_iload_n (i := 2) (jm_dc dc_191_0 22 rfl)) (
  jm_gc (pu_callV _ _ _) (sn_callV (jm_dc dc_191_0 23 rfl) lk_11_266) (
  jm_gc (pu_aload _ _) (sn_aload_n (i := 0) (jm_dc dc_191_0 24 rfl)) (
  jm_gn)))))))))))))))))))))))))
theorem dc_191_1 : ([(36, .iload_n 1, 1), (37, .iload_n 2, 1), (38, .invokevirtual 269, 3), (41, .aload_n 0, 1), (42, .iload_n 1, 1), (43, .iload_n 3, 1), (44, .invokevirtual 266, 3), (47, .aload_n 0, 1), (48, .iload_n 1, 1), (49, .iload_n 3, 1), (50, .invokevirtual 269, 3), (53, .invokestatic 272, 3), (56, .ifCond .ne 12, 3), (59, .iload 4, 2), (61, .ifCond .ge 7, 3), (64, .iconst 1, 1), (65, .goto 4, 3), (68, .iconst 0, 1), (69, .ireturn, 1)] : List (Nat × Instr × Nat)).all (fun e => decide (decode prog_14_method_23_code e.1 = .ok e.2)) = true := by decide +kernel
abbrev cl_191_1 : List (Nat × jm_O) := [(36, op_iload 1 1), (37, op_iload 2 1), (38, op_callV 11 186 3), (41, op_aload 0 1), (42, op_iload 1 1), (43, op_iload 3 1), (44, op_callV 11 185 3), (47, op_aload 0 1), (48, op_iload 1 1), (49, op_iload 3 1), (50, op_callV 11 186 3), (53, op_callS 183 4), (56, op_ifne 68), (59, op_iload 4 2), (61, op_ifge 68), (64, op_ic 1 1), (65, op_goto 69), (68, op_ic 0 1), (69, op_zret)]
set_option maxRecDepth 100000 in
theorem gl_191_1 : jm_gl "FrescoWallModel" prog_14_method_23_code 5 (Option.some Jvm.ClassFile.FieldType.boolean) false cl_191_1 :=
  jm_gc (pu_iload _ _) (sn_iload_n (i := 1) (jm_dc dc_191_1 0 rfl)) (
  jm_gc (pu_iload _ _) (sn_iload_n (i := 2) (jm_dc dc_191_1 1 rfl)) (
  jm_gc (pu_callV _ _ _) (sn_callV (jm_dc dc_191_1 2 rfl) lk_11_269) (
  jm_gc (pu_aload _ _) (sn_aload_n (i := 0) (jm_dc dc_191_1 3 rfl)) (
  jm_gc (pu_iload _ _) (sn_iload_n (i := 1) (jm_dc dc_191_1 4 rfl)) (
  jm_gc (pu_iload _ _) (sn_iload_n (i := 3) (jm_dc dc_191_1 5 rfl)) (
  jm_gc (pu_callV _ _ _) (sn_callV (jm_dc dc_191_1 6 rfl) lk_11_266) (
  jm_gc (pu_aload _ _) (sn_aload_n (i := 0) (jm_dc dc_191_1 7 rfl)) (
  jm_gc (pu_iload _ _) (sn_iload_n (i := 1) (jm_dc dc_191_1 8 rfl)) (
  jm_gc (pu_iload _ _) (sn_iload_n (i := 3) (jm_dc dc_191_1 9 rfl)) (
  jm_gc (pu_callV _ _ _) (sn_callV (jm_dc dc_191_1 10 rfl) lk_11_269) (
  jm_gc (pu_callS _ _) (sn_callS (jm_dc dc_191_1 11 rfl) lk_11_272) (
  jm_gc (pu_ifne _) (sn_ifne (jm_dc dc_191_1 12 rfl) (by decide)) (
  jm_gc (pu_iload _ _) (sn_iload (jm_dc dc_191_1 13 rfl)) (
  jm_gc (pu_ifge _) (sn_ifge (jm_dc dc_191_1 14 rfl) (by decide)) (
  jm_gc (pu_ic _ _) (sn_iconst (jm_dc dc_191_1 15 rfl) (by decide)) (
  jm_gc (pu_goto _) (sn_goto (jm_dc dc_191_1 16 rfl) (by decide)) (
  jm_gc (pu_ic _ _) (sn_iconst (jm_dc dc_191_1 17 rfl) (by decide)) (
  jm_gc (pu_zret) (sn_zret (jm_dc dc_191_1 18 rfl) rfl) (
  jm_gn)))))))))))))))))))
theorem dc_192_0 : ([(0, .iconst 0, 1), (1, .istore_n 2, 1), (2, .iconst 0, 1), (3, .istore_n 3, 1), (4, .iload_n 3, 1), (5, .aload_n 0, 1), (6, .getfield 13, 3), (9, .iload_n 1, 1), (10, .iaload, 1), (11, .if_icmp .ge 59, 3), (14, .bipush 8, 2), (16, .iload_n 1, 1), (17, .imul, 1), (18, .iload_n 3, 1), (19, .iadd, 1), (20, .istore 4, 2), (22, .aload_n 0, 1), (23, .iload_n 1, 1), (24, .iload_n 3, 1), (25, .invokevirtual 262, 3), (28, .istore 5, 2), (30, .iload_n 2, 1), (31, .aload_n 0, 1), (32, .getfield 16, 3), (35, .iload 4, 2)] : List (Nat × Instr × Nat)).all (fun e => decide (decode prog_14_method_24_code e.1 = .ok e.2)) = true := by decide +kernel
abbrev cl_192_0 : List (Nat × jm_O) := [(0, op_ic 0 1), (1, op_istore 2 1), (2, op_ic 0 1), (3, op_istore 3 1), (4, op_iload 3 1), (5, op_aload 0 1), (6, op_getA 11 4), (9, op_iload 1 1), (10, op_iald 13), (11, op_cge 70), (14, op_ic 8 2), (16, op_iload 1 1), (17, op_ibin (fun x y => x * y)), (18, op_iload 3 1), (19, op_ibin (fun x y => x + y)), (20, op_istore 4 2), (22, op_aload 0 1), (23, op_iload 1 1), (24, op_iload 3 1), (25, op_callV 11 184 3), (28, op_istore 5 2), (30, op_iload 2 1), (31, op_aload 0 1), (32, op_getA 11 5), (35, op_iload 4 2)]
set_option maxRecDepth 100000 in
theorem gl_192_0 : jm_gl "FrescoWallModel" prog_14_method_24_code 6 (Option.some Jvm.ClassFile.FieldType.int) false cl_192_0 :=
  jm_gc (pu_ic _ _) (sn_iconst (jm_dc dc_192_0 0 rfl) (by decide)) (
  jm_gc (pu_istore _ _) (sn_istore_n (i := 2) (jm_dc dc_192_0 1 rfl)) (
  jm_gc (pu_ic _ _) (sn_iconst (jm_dc dc_192_0 2 rfl) (by decide)) (
  jm_gc (pu_istore _ _) (sn_istore_n (i := 3) (jm_dc dc_192_0 3 rfl)) (
  jm_gc (pu_iload _ _) (sn_iload_n (i := 3) (jm_dc dc_192_0 4 rfl)) (
  jm_gc (pu_aload _ _) (sn_aload_n (i := 0) (jm_dc dc_192_0 5 rfl)) (
  jm_gc (pu_getA _ _) (sn_getA (jm_dc dc_192_0 6 rfl) fl_11_13 rfl) (
  jm_gc (pu_iload _ _) (sn_iload_n (i := 1) (jm_dc dc_192_0 7 rfl)) (
  jm_gc (pu_iald _) (sn_iald (jm_dc dc_192_0 8 rfl)) (
  jm_gc (pu_cge _) (sn_cge (jm_dc dc_192_0 9 rfl) (by decide)) (
  jm_gc (pu_ic _ _) (sn_bipush (jm_dc dc_192_0 10 rfl) (by decide)) (
  jm_gc (pu_iload _ _) (sn_iload_n (i := 1) (jm_dc dc_192_0 11 rfl)) (
  jm_gc (pu_ibin _) (sn_imul (jm_dc dc_192_0 12 rfl)) (
  jm_gc (pu_iload _ _) (sn_iload_n (i := 3) (jm_dc dc_192_0 13 rfl)) (
  jm_gc (pu_ibin _) (sn_iadd (jm_dc dc_192_0 14 rfl)) (
  jm_gc (pu_istore _ _) (sn_istore (jm_dc dc_192_0 15 rfl)) (
  jm_gc (pu_aload _ _) (sn_aload_n (i := 0) (jm_dc dc_192_0 16 rfl)) (
  jm_gc (pu_iload _ _) (sn_iload_n (i := 1) (jm_dc dc_192_0 17 rfl)) (
  jm_gc (pu_iload _ _) (sn_iload_n (i := 3) (jm_dc dc_192_0 18 rfl)) (
  jm_gc (pu_callV _ _ _) (sn_callV (jm_dc dc_192_0 19 rfl) lk_11_262) (
  jm_gc (pu_istore _ _) (sn_istore (jm_dc dc_192_0 20 rfl)) (
  jm_gc (pu_iload _ _) (sn_iload_n (i := 2) (jm_dc dc_192_0 21 rfl)) (
  jm_gc (pu_aload _ _) (sn_aload_n (i := 0) (jm_dc dc_192_0 22 rfl)) (
  jm_gc (pu_getA _ _) (sn_getA (jm_dc dc_192_0 23 rfl) fl_11_16 rfl) (
  jm_gc (pu_iload _ _) (sn_iload (jm_dc dc_192_0 24 rfl)) (
  jm_gn)))))))))))))))))))))))))
theorem dc_192_1 : ([(37, .iaload, 1), (38, .aload_n 0, 1), (39, .getfield 19, 3), (42, .iload 4, 2), (44, .iaload, 1), (45, .aload_n 0, 1), (46, .getfield 16, 3), (49, .iload 5, 2), (51, .iaload, 1), (52, .aload_n 0, 1), (53, .getfield 19, 3), (56, .iload 5, 2), (58, .iaload, 1), (59, .invokestatic 272, 3), (62, .iadd, 1), (63, .istore_n 2, 1), (64, .iinc 3 1, 3), (67, .goto (-63), 3), (70, .iload_n 2, 1), (71, .ireturn, 1)] : List (Nat × Instr × Nat)).all (fun e => decide (decode prog_14_method_24_code e.1 = .ok e.2)) = true := by decide +kernel
abbrev cl_192_1 : List (Nat × jm_O) := [(37, op_iald 13), (38, op_aload 0 1), (39, op_getA 11 6), (42, op_iload 4 2), (44, op_iald 13), (45, op_aload 0 1), (46, op_getA 11 5), (49, op_iload 5 2), (51, op_iald 13), (52, op_aload 0 1), (53, op_getA 11 6), (56, op_iload 5 2), (58, op_iald 13), (59, op_callS 183 4), (62, op_ibin (fun x y => x + y)), (63, op_istore 2 1), (64, op_iinc 3 1), (67, op_goto 4), (70, op_iload 2 1), (71, op_iret)]
set_option maxRecDepth 100000 in
theorem gl_192_1 : jm_gl "FrescoWallModel" prog_14_method_24_code 6 (Option.some Jvm.ClassFile.FieldType.int) false cl_192_1 :=
  jm_gc (pu_iald _) (sn_iald (jm_dc dc_192_1 0 rfl)) (
  jm_gc (pu_aload _ _) (sn_aload_n (i := 0) (jm_dc dc_192_1 1 rfl)) (
  jm_gc (pu_getA _ _) (sn_getA (jm_dc dc_192_1 2 rfl) fl_11_19 rfl) (
  jm_gc (pu_iload _ _) (sn_iload (jm_dc dc_192_1 3 rfl)) (
  jm_gc (pu_iald _) (sn_iald (jm_dc dc_192_1 4 rfl)) (
  jm_gc (pu_aload _ _) (sn_aload_n (i := 0) (jm_dc dc_192_1 5 rfl)) (
  jm_gc (pu_getA _ _) (sn_getA (jm_dc dc_192_1 6 rfl) fl_11_16 rfl) (
  jm_gc (pu_iload _ _) (sn_iload (jm_dc dc_192_1 7 rfl)) (
  jm_gc (pu_iald _) (sn_iald (jm_dc dc_192_1 8 rfl)) (
  jm_gc (pu_aload _ _) (sn_aload_n (i := 0) (jm_dc dc_192_1 9 rfl)) (
  jm_gc (pu_getA _ _) (sn_getA (jm_dc dc_192_1 10 rfl) fl_11_19 rfl) (
  jm_gc (pu_iload _ _) (sn_iload (jm_dc dc_192_1 11 rfl)) (
  jm_gc (pu_iald _) (sn_iald (jm_dc dc_192_1 12 rfl)) (
  jm_gc (pu_callS _ _) (sn_callS (jm_dc dc_192_1 13 rfl) lk_11_272) (
  jm_gc (pu_ibin _) (sn_iadd (jm_dc dc_192_1 14 rfl)) (
  jm_gc (pu_istore _ _) (sn_istore_n (i := 2) (jm_dc dc_192_1 15 rfl)) (
  jm_gc (pu_iinc _ _) (sn_iinc (jm_dc dc_192_1 16 rfl) (by decide)) (
  jm_gc (pu_goto _) (sn_goto (jm_dc dc_192_1 17 rfl) (by decide)) (
  jm_gc (pu_iload _ _) (sn_iload_n (i := 2) (jm_dc dc_192_1 18 rfl)) (
  jm_gc (pu_iret) (sn_iret (jm_dc dc_192_1 19 rfl) rfl) (
  jm_gn))))))))))))))))))))
theorem dc_193_0 : ([(0, .aload_n 0, 1), (1, .getfield 13, 3), (4, .iload_n 1, 1), (5, .iaload, 1), (6, .istore_n 2, 1), (7, .iconst 0, 1), (8, .istore_n 3, 1), (9, .iload_n 3, 1), (10, .iload_n 2, 1), (11, .if_icmp .ge 29, 3), (14, .aload_n 0, 1), (15, .iload_n 1, 1), (16, .iload_n 3, 1), (17, .invokevirtual 266, 3), (20, .ifCond .ne 14, 3), (23, .aload_n 0, 1), (24, .iload_n 1, 1), (25, .iload_n 3, 1), (26, .invokevirtual 269, 3), (29, .ifCond .ne 5, 3), (32, .iconst 0, 1), (33, .ireturn, 1), (34, .iinc 3 1, 3), (37, .goto (-28), 3), (40, .iconst 0, 1)] : List (Nat × Instr × Nat)).all (fun e => decide (decode prog_14_method_25_code e.1 = .ok e.2)) = true := by decide +kernel
abbrev cl_193_0 : List (Nat × jm_O) := [(0, op_aload 0 1), (1, op_getA 11 4), (4, op_iload 1 1), (5, op_iald 13), (6, op_istore 2 1), (7, op_ic 0 1), (8, op_istore 3 1), (9, op_iload 3 1), (10, op_iload 2 1), (11, op_cge 40), (14, op_aload 0 1), (15, op_iload 1 1), (16, op_iload 3 1), (17, op_callV 11 185 3), (20, op_ifne 34), (23, op_aload 0 1), (24, op_iload 1 1), (25, op_iload 3 1), (26, op_callV 11 186 3), (29, op_ifne 34), (32, op_ic 0 1), (33, op_zret), (34, op_iinc 3 1), (37, op_goto 9), (40, op_ic 0 1)]
set_option maxRecDepth 100000 in
theorem gl_193_0 : jm_gl "FrescoWallModel" prog_14_method_25_code 5 (Option.some Jvm.ClassFile.FieldType.boolean) false cl_193_0 :=
  jm_gc (pu_aload _ _) (sn_aload_n (i := 0) (jm_dc dc_193_0 0 rfl)) (
  jm_gc (pu_getA _ _) (sn_getA (jm_dc dc_193_0 1 rfl) fl_11_13 rfl) (
  jm_gc (pu_iload _ _) (sn_iload_n (i := 1) (jm_dc dc_193_0 2 rfl)) (
  jm_gc (pu_iald _) (sn_iald (jm_dc dc_193_0 3 rfl)) (
  jm_gc (pu_istore _ _) (sn_istore_n (i := 2) (jm_dc dc_193_0 4 rfl)) (
  jm_gc (pu_ic _ _) (sn_iconst (jm_dc dc_193_0 5 rfl) (by decide)) (
  jm_gc (pu_istore _ _) (sn_istore_n (i := 3) (jm_dc dc_193_0 6 rfl)) (
  jm_gc (pu_iload _ _) (sn_iload_n (i := 3) (jm_dc dc_193_0 7 rfl)) (
  jm_gc (pu_iload _ _) (sn_iload_n (i := 2) (jm_dc dc_193_0 8 rfl)) (
  jm_gc (pu_cge _) (sn_cge (jm_dc dc_193_0 9 rfl) (by decide)) (
  jm_gc (pu_aload _ _) (sn_aload_n (i := 0) (jm_dc dc_193_0 10 rfl)) (
  jm_gc (pu_iload _ _) (sn_iload_n (i := 1) (jm_dc dc_193_0 11 rfl)) (
  jm_gc (pu_iload _ _) (sn_iload_n (i := 3) (jm_dc dc_193_0 12 rfl)) (
  jm_gc (pu_callV _ _ _) (sn_callV (jm_dc dc_193_0 13 rfl) lk_11_266) (
  jm_gc (pu_ifne _) (sn_ifne (jm_dc dc_193_0 14 rfl) (by decide)) (
  jm_gc (pu_aload _ _) (sn_aload_n (i := 0) (jm_dc dc_193_0 15 rfl)) (
  jm_gc (pu_iload _ _) (sn_iload_n (i := 1) (jm_dc dc_193_0 16 rfl)) (
  jm_gc (pu_iload _ _) (sn_iload_n (i := 3) (jm_dc dc_193_0 17 rfl)) (
  jm_gc (pu_callV _ _ _) (sn_callV (jm_dc dc_193_0 18 rfl) lk_11_269) (
  jm_gc (pu_ifne _) (sn_ifne (jm_dc dc_193_0 19 rfl) (by decide)) (
  jm_gc (pu_ic _ _) (sn_iconst (jm_dc dc_193_0 20 rfl) (by decide)) (
  jm_gc (pu_zret) (sn_zret (jm_dc dc_193_0 21 rfl) rfl) (
  jm_gc (pu_iinc _ _) (sn_iinc (jm_dc dc_193_0 22 rfl) (by decide)) (
  jm_gc (pu_goto _) (sn_goto (jm_dc dc_193_0 23 rfl) (by decide)) (
  jm_gc (pu_ic _ _) (sn_iconst (jm_dc dc_193_0 24 rfl) (by decide)) (
  jm_gn)))))))))))))))))))))))))
theorem dc_193_1 : ([(41, .istore_n 3, 1), (42, .iload_n 3, 1), (43, .iload_n 2, 1), (44, .if_icmp .ge 67, 3), (47, .aload_n 0, 1), (48, .iload_n 1, 1), (49, .iload_n 3, 1), (50, .iload_n 3, 1), (51, .iconst 1, 1), (52, .iadd, 1), (53, .iload_n 2, 1), (54, .irem, 1), (55, .invokevirtual 295, 3), (58, .ifCond .eq 5, 3), (61, .iconst 0, 1), (62, .ireturn, 1), (63, .iload_n 3, 1), (64, .iconst 2, 1), (65, .iadd, 1), (66, .istore 4, 2), (68, .iload 4, 2), (70, .iload_n 2, 1), (71, .if_icmp .ge 34, 3), (74, .iload_n 3, 1), (75, .ifCond .ne 11, 3)] : List (Nat × Instr × Nat)).all (fun e => decide (decode prog_14_method_25_code e.1 = .ok e.2)) = true := by decide +kernel
abbrev cl_193_1 : List (Nat × jm_O) := [(41, op_istore 3 1), (42, op_iload 3 1), (43, op_iload 2 1), (44, op_cge 111), (47, op_aload 0 1), (48, op_iload 1 1), (49, op_iload 3 1), (50, op_iload 3 1), (51, op_ic 1 1), (52, op_ibin (fun x y => x + y)), (53, op_iload 2 1), (54, op_idz (fun x y => x - x / y * y)), (55, op_callV 11 191 4), (58, op_ifeq 63), (61, op_ic 0 1), (62, op_zret), (63, op_iload 3 1), (64, op_ic 2 1), (65, op_ibin (fun x y => x + y)), (66, op_istore 4 2), (68, op_iload 4 2), (70, op_iload 2 1), (71, op_cge 105), (74, op_iload 3 1), (75, op_ifne 86)]
set_option maxRecDepth 100000 in
theorem gl_193_1 : jm_gl "FrescoWallModel" prog_14_method_25_code 5 (Option.some Jvm.ClassFile.FieldType.boolean) false cl_193_1 :=
  jm_gc (pu_istore _ _) (sn_istore_n (i := 3) (jm_dc dc_193_1 0 rfl)) (
  jm_gc (pu_iload _ _) (sn_iload_n (i := 3) (jm_dc dc_193_1 1 rfl)) (
  jm_gc (pu_iload _ _) (sn_iload_n (i := 2) (jm_dc dc_193_1 2 rfl)) (
  jm_gc (pu_cge _) (sn_cge (jm_dc dc_193_1 3 rfl) (by decide)) (
  jm_gc (pu_aload _ _) (sn_aload_n (i := 0) (jm_dc dc_193_1 4 rfl)) (
  jm_gc (pu_iload _ _) (sn_iload_n (i := 1) (jm_dc dc_193_1 5 rfl)) (
  jm_gc (pu_iload _ _) (sn_iload_n (i := 3) (jm_dc dc_193_1 6 rfl)) (
  jm_gc (pu_iload _ _) (sn_iload_n (i := 3) (jm_dc dc_193_1 7 rfl)) (
  jm_gc (pu_ic _ _) (sn_iconst (jm_dc dc_193_1 8 rfl) (by decide)) (
  jm_gc (pu_ibin _) (sn_iadd (jm_dc dc_193_1 9 rfl)) (
  jm_gc (pu_iload _ _) (sn_iload_n (i := 2) (jm_dc dc_193_1 10 rfl)) (
  jm_gc (pu_idz _) (sn_irem (jm_dc dc_193_1 11 rfl)) (
  jm_gc (pu_callV _ _ _) (sn_callV (jm_dc dc_193_1 12 rfl) lk_11_295) (
  jm_gc (pu_ifeq _) (sn_ifeq (jm_dc dc_193_1 13 rfl) (by decide)) (
  jm_gc (pu_ic _ _) (sn_iconst (jm_dc dc_193_1 14 rfl) (by decide)) (
  jm_gc (pu_zret) (sn_zret (jm_dc dc_193_1 15 rfl) rfl) (
  jm_gc (pu_iload _ _) (sn_iload_n (i := 3) (jm_dc dc_193_1 16 rfl)) (
  jm_gc (pu_ic _ _) (sn_iconst (jm_dc dc_193_1 17 rfl) (by decide)) (
  jm_gc (pu_ibin _) (sn_iadd (jm_dc dc_193_1 18 rfl)) (
  jm_gc (pu_istore _ _) (sn_istore (jm_dc dc_193_1 19 rfl)) (
  jm_gc (pu_iload _ _) (sn_iload (jm_dc dc_193_1 20 rfl)) (
  jm_gc (pu_iload _ _) (sn_iload_n (i := 2) (jm_dc dc_193_1 21 rfl)) (
  jm_gc (pu_cge _) (sn_cge (jm_dc dc_193_1 22 rfl) (by decide)) (
  jm_gc (pu_iload _ _) (sn_iload_n (i := 3) (jm_dc dc_193_1 23 rfl)) (
  jm_gc (pu_ifne _) (sn_ifne (jm_dc dc_193_1 24 rfl) (by decide)) (
  jm_gn)))))))))))))))))))))))))
theorem dc_193_2 : ([(78, .iload 4, 2), (80, .iload_n 2, 1), (81, .iconst 1, 1), (82, .isub, 1), (83, .if_icmp .eq 16, 3), (86, .aload_n 0, 1), (87, .iload_n 1, 1), (88, .iload_n 3, 1), (89, .iload 4, 2), (91, .invokevirtual 298, 3), (94, .ifCond .eq 5, 3), (97, .iconst 0, 1), (98, .ireturn, 1), (99, .iinc 4 1, 3), (102, .goto (-34), 3), (105, .iinc 3 1, 3), (108, .goto (-66), 3), (111, .aload_n 0, 1), (112, .iload_n 1, 1), (113, .invokevirtual 301, 3), (116, .ifCond .le 7, 3), (119, .iconst 1, 1), (120, .goto 4, 3), (123, .iconst 0, 1), (124, .ireturn, 1)] : List (Nat × Instr × Nat)).all (fun e => decide (decode prog_14_method_25_code e.1 = .ok e.2)) = true := by decide +kernel
abbrev cl_193_2 : List (Nat × jm_O) := [(78, op_iload 4 2), (80, op_iload 2 1), (81, op_ic 1 1), (82, op_ibin (fun x y => x - y)), (83, op_ceq 99), (86, op_aload 0 1), (87, op_iload 1 1), (88, op_iload 3 1), (89, op_iload 4 2), (91, op_callV 11 190 4), (94, op_ifeq 99), (97, op_ic 0 1), (98, op_zret), (99, op_iinc 4 1), (102, op_goto 68), (105, op_iinc 3 1), (108, op_goto 42), (111, op_aload 0 1), (112, op_iload 1 1), (113, op_callV 11 192 2), (116, op_ifle 123), (119, op_ic 1 1), (120, op_goto 124), (123, op_ic 0 1), (124, op_zret)]
set_option maxRecDepth 100000 in
theorem gl_193_2 : jm_gl "FrescoWallModel" prog_14_method_25_code 5 (Option.some Jvm.ClassFile.FieldType.boolean) false cl_193_2 :=
  jm_gc (pu_iload _ _) (sn_iload (jm_dc dc_193_2 0 rfl)) (
  jm_gc (pu_iload _ _) (sn_iload_n (i := 2) (jm_dc dc_193_2 1 rfl)) (
  jm_gc (pu_ic _ _) (sn_iconst (jm_dc dc_193_2 2 rfl) (by decide)) (
  jm_gc (pu_ibin _) (sn_isub (jm_dc dc_193_2 3 rfl)) (
  jm_gc (pu_ceq _) (sn_ceq (jm_dc dc_193_2 4 rfl) (by decide)) (
  jm_gc (pu_aload _ _) (sn_aload_n (i := 0) (jm_dc dc_193_2 5 rfl)) (
  jm_gc (pu_iload _ _) (sn_iload_n (i := 1) (jm_dc dc_193_2 6 rfl)) (
  jm_gc (pu_iload _ _) (sn_iload_n (i := 3) (jm_dc dc_193_2 7 rfl)) (
  jm_gc (pu_iload _ _) (sn_iload (jm_dc dc_193_2 8 rfl)) (
  jm_gc (pu_callV _ _ _) (sn_callV (jm_dc dc_193_2 9 rfl) lk_11_298) (
  jm_gc (pu_ifeq _) (sn_ifeq (jm_dc dc_193_2 10 rfl) (by decide)) (
  jm_gc (pu_ic _ _) (sn_iconst (jm_dc dc_193_2 11 rfl) (by decide)) (
  jm_gc (pu_zret) (sn_zret (jm_dc dc_193_2 12 rfl) rfl) (
  jm_gc (pu_iinc _ _) (sn_iinc (jm_dc dc_193_2 13 rfl) (by decide)) (
  jm_gc (pu_goto _) (sn_goto (jm_dc dc_193_2 14 rfl) (by decide)) (
  jm_gc (pu_iinc _ _) (sn_iinc (jm_dc dc_193_2 15 rfl) (by decide)) (
  jm_gc (pu_goto _) (sn_goto (jm_dc dc_193_2 16 rfl) (by decide)) (
  jm_gc (pu_aload _ _) (sn_aload_n (i := 0) (jm_dc dc_193_2 17 rfl)) (
  jm_gc (pu_iload _ _) (sn_iload_n (i := 1) (jm_dc dc_193_2 18 rfl)) (
  jm_gc (pu_callV _ _ _) (sn_callV (jm_dc dc_193_2 19 rfl) lk_11_301) (
  jm_gc (pu_ifle _) (sn_ifle (jm_dc dc_193_2 20 rfl) (by decide)) (
  jm_gc (pu_ic _ _) (sn_iconst (jm_dc dc_193_2 21 rfl) (by decide)) (
  jm_gc (pu_goto _) (sn_goto (jm_dc dc_193_2 22 rfl) (by decide)) (
  jm_gc (pu_ic _ _) (sn_iconst (jm_dc dc_193_2 23 rfl) (by decide)) (
  jm_gc (pu_zret) (sn_zret (jm_dc dc_193_2 24 rfl) rfl) (
  jm_gn)))))))))))))))))))))))))
theorem dc_194_0 : ([(0, .iconst 2, 1), (1, .iload_n 2, 1), (2, .imul, 1), (3, .iconst 1, 1), (4, .iadd, 1), (5, .istore 4, 2), (7, .iconst 2, 1), (8, .iload_n 3, 1), (9, .imul, 1), (10, .iconst 1, 1), (11, .iadd, 1), (12, .istore 5, 2), (14, .iconst 0, 1), (15, .istore 6, 2), (17, .iconst 0, 1), (18, .istore 7, 2), (20, .iload 7, 2), (22, .aload_n 0, 1), (23, .getfield 13, 3), (26, .iload_n 1, 1), (27, .iaload, 1), (28, .if_icmp .ge 228, 3), (31, .iconst 2, 1), (32, .aload_n 0, 1), (33, .getfield 16, 3)] : List (Nat × Instr × Nat)).all (fun e => decide (decode prog_14_method_26_code e.1 = .ok e.2)) = true := by decide +kernel
abbrev cl_194_0 : List (Nat × jm_O) := [(0, op_ic 2 1), (1, op_iload 2 1), (2, op_ibin (fun x y => x * y)), (3, op_ic 1 1), (4, op_ibin (fun x y => x + y)), (5, op_istore 4 2), (7, op_ic 2 1), (8, op_iload 3 1), (9, op_ibin (fun x y => x * y)), (10, op_ic 1 1), (11, op_ibin (fun x y => x + y)), (12, op_istore 5 2), (14, op_ic 0 1), (15, op_istore 6 2), (17, op_ic 0 1), (18, op_istore 7 2), (20, op_iload 7 2), (22, op_aload 0 1), (23, op_getA 11 4), (26, op_iload 1 1), (27, op_iald 13), (28, op_cge 256), (31, op_ic 2 1), (32, op_aload 0 1), (33, op_getA 11 5)]
set_option maxRecDepth 100000 in
theorem gl_194_0 : jm_gl "FrescoWallModel" prog_14_method_26_code 15 (Option.some Jvm.ClassFile.FieldType.boolean) false cl_194_0 :=
  jm_gc (pu_ic _ _) (sn_iconst (jm_dc dc_194_0 0 rfl) (by decide)) (
  jm_gc (pu_iload _ _) (sn_iload_n (i := 2) (jm_dc dc_194_0 1 rfl)) (
  jm_gc (pu_ibin _) (sn_imul (jm_dc dc_194_0 2 rfl)) (
  jm_gc (pu_ic _ _) (sn_iconst (jm_dc dc_194_0 3 rfl) (by decide)) (
  jm_gc (pu_ibin _) (sn_iadd (jm_dc dc_194_0 4 rfl)) (
  jm_gc (pu_istore _ _) (sn_istore (jm_dc dc_194_0 5 rfl)) (
  jm_gc (pu_ic _ _) (sn_iconst (jm_dc dc_194_0 6 rfl) (by decide)) (
  jm_gc (pu_iload _ _) (sn_iload_n (i := 3) (jm_dc dc_194_0 7 rfl)) (
  jm_gc (pu_ibin _) (sn_imul (jm_dc dc_194_0 8 rfl)) (
  jm_gc (pu_ic _ _) (sn_iconst (jm_dc dc_194_0 9 rfl) (by decide)) (
  jm_gc (pu_ibin _) (sn_iadd (jm_dc dc_194_0 10 rfl)) (
  jm_gc (pu_istore _ _) (sn_istore (jm_dc dc_194_0 11 rfl)) (
  jm_gc (pu_ic _ _) (sn_iconst (jm_dc dc_194_0 12 rfl) (by decide)) (
  jm_gc (pu_istore _ _) (sn_istore (jm_dc dc_194_0 13 rfl)) (
  jm_gc (pu_ic _ _) (sn_iconst (jm_dc dc_194_0 14 rfl) (by decide)) (
  jm_gc (pu_istore _ _) (sn_istore (jm_dc dc_194_0 15 rfl)) (
  jm_gc (pu_iload _ _) (sn_iload (jm_dc dc_194_0 16 rfl)) (
  jm_gc (pu_aload _ _) (sn_aload_n (i := 0) (jm_dc dc_194_0 17 rfl)) (
  jm_gc (pu_getA _ _) (sn_getA (jm_dc dc_194_0 18 rfl) fl_11_13 rfl) (
  jm_gc (pu_iload _ _) (sn_iload_n (i := 1) (jm_dc dc_194_0 19 rfl)) (
  jm_gc (pu_iald _) (sn_iald (jm_dc dc_194_0 20 rfl)) (
  jm_gc (pu_cge _) (sn_cge (jm_dc dc_194_0 21 rfl) (by decide)) (
  jm_gc (pu_ic _ _) (sn_iconst (jm_dc dc_194_0 22 rfl) (by decide)) (
  jm_gc (pu_aload _ _) (sn_aload_n (i := 0) (jm_dc dc_194_0 23 rfl)) (
  jm_gc (pu_getA _ _) (sn_getA (jm_dc dc_194_0 24 rfl) fl_11_16 rfl) (
  jm_gn)))))))))))))))))))))))))
theorem dc_194_1 : ([(36, .bipush 8, 2), (38, .iload_n 1, 1), (39, .imul, 1), (40, .iload 7, 2), (42, .iadd, 1), (43, .iaload, 1), (44, .imul, 1), (45, .istore 8, 2), (47, .iconst 2, 1), (48, .aload_n 0, 1), (49, .getfield 19, 3), (52, .bipush 8, 2), (54, .iload_n 1, 1), (55, .imul, 1), (56, .iload 7, 2), (58, .iadd, 1), (59, .iaload, 1), (60, .imul, 1), (61, .istore 9, 2), (63, .iconst 2, 1), (64, .aload_n 0, 1), (65, .getfield 16, 3), (68, .aload_n 0, 1), (69, .iload_n 1, 1), (70, .iload 7, 2)] : List (Nat × Instr × Nat)).all (fun e => decide (decode prog_14_method_26_code e.1 = .ok e.2)) = true := by decide +kernel
abbrev cl_194_1 : List (Nat × jm_O) := [(36, op_ic 8 2), (38, op_iload 1 1), (39, op_ibin (fun x y => x * y)), (40, op_iload 7 2), (42, op_ibin (fun x y => x + y)), (43, op_iald 13), (44, op_ibin (fun x y => x * y)), (45, op_istore 8 2), (47, op_ic 2 1), (48, op_aload 0 1), (49, op_getA 11 6), (52, op_ic 8 2), (54, op_iload 1 1), (55, op_ibin (fun x y => x * y)), (56, op_iload 7 2), (58, op_ibin (fun x y => x + y)), (59, op_iald 13), (60, op_ibin (fun x y => x * y)), (61, op_istore 9 2), (63, op_ic 2 1), (64, op_aload 0 1), (65, op_getA 11 5), (68, op_aload 0 1), (69, op_iload 1 1), (70, op_iload 7 2)]
set_option maxRecDepth 100000 in
theorem gl_194_1 : jm_gl "FrescoWallModel" prog_14_method_26_code 15 (Option.some Jvm.ClassFile.FieldType.boolean) false cl_194_1 :=
  jm_gc (pu_ic _ _) (sn_bipush (jm_dc dc_194_1 0 rfl) (by decide)) (
  jm_gc (pu_iload _ _) (sn_iload_n (i := 1) (jm_dc dc_194_1 1 rfl)) (
  jm_gc (pu_ibin _) (sn_imul (jm_dc dc_194_1 2 rfl)) (
  jm_gc (pu_iload _ _) (sn_iload (jm_dc dc_194_1 3 rfl)) (
  jm_gc (pu_ibin _) (sn_iadd (jm_dc dc_194_1 4 rfl)) (
  jm_gc (pu_iald _) (sn_iald (jm_dc dc_194_1 5 rfl)) (
  jm_gc (pu_ibin _) (sn_imul (jm_dc dc_194_1 6 rfl)) (
  jm_gc (pu_istore _ _) (sn_istore (jm_dc dc_194_1 7 rfl)) (
  jm_gc (pu_ic _ _) (sn_iconst (jm_dc dc_194_1 8 rfl) (by decide)) (
  jm_gc (pu_aload _ _) (sn_aload_n (i := 0) (jm_dc dc_194_1 9 rfl)) (
  jm_gc (pu_getA _ _) (sn_getA (jm_dc dc_194_1 10 rfl) fl_11_19 rfl) (
  jm_gc (pu_ic _ _) (sn_bipush (jm_dc dc_194_1 11 rfl) (by decide)) (
  jm_gc (pu_iload _ _) (sn_iload_n (i := 1) (jm_dc dc_194_1 12 rfl)) (
  jm_gc (pu_ibin _) (sn_imul (jm_dc dc_194_1 13 rfl)) (
  jm_gc (pu_iload _ _) (sn_iload (jm_dc dc_194_1 14 rfl)) (
  jm_gc (pu_ibin _) (sn_iadd (jm_dc dc_194_1 15 rfl)) (
  jm_gc (pu_iald _) (sn_iald (jm_dc dc_194_1 16 rfl)) (
  jm_gc (pu_ibin _) (sn_imul (jm_dc dc_194_1 17 rfl)) (
  jm_gc (pu_istore _ _) (sn_istore (jm_dc dc_194_1 18 rfl)) (
  jm_gc (pu_ic _ _) (sn_iconst (jm_dc dc_194_1 19 rfl) (by decide)) (
  jm_gc (pu_aload _ _) (sn_aload_n (i := 0) (jm_dc dc_194_1 20 rfl)) (
  jm_gc (pu_getA _ _) (sn_getA (jm_dc dc_194_1 21 rfl) fl_11_16 rfl) (
  jm_gc (pu_aload _ _) (sn_aload_n (i := 0) (jm_dc dc_194_1 22 rfl)) (
  jm_gc (pu_iload _ _) (sn_iload_n (i := 1) (jm_dc dc_194_1 23 rfl)) (
  jm_gc (pu_iload _ _) (sn_iload (jm_dc dc_194_1 24 rfl)) (
  jm_gn)))))))))))))))))))))))))
theorem dc_194_2 : ([(72, .invokevirtual 262, 3), (75, .iaload, 1), (76, .imul, 1), (77, .istore 10, 2), (79, .iconst 2, 1), (80, .aload_n 0, 1), (81, .getfield 19, 3), (84, .aload_n 0, 1), (85, .iload_n 1, 1), (86, .iload 7, 2), (88, .invokevirtual 262, 3), (91, .iaload, 1), (92, .imul, 1), (93, .istore 11, 2), (95, .iload 10, 2), (97, .iload 8, 2), (99, .isub, 1), (100, .iload 11, 2), (102, .iload 9, 2), (104, .isub, 1), (105, .iload 4, 2), (107, .iload 8, 2), (109, .isub, 1), (110, .iload 5, 2), (112, .iload 9, 2)] : List (Nat × Instr × Nat)).all (fun e => decide (decode prog_14_method_26_code e.1 = .ok e.2)) = true := by decide +kernel
abbrev cl_194_2 : List (Nat × jm_O) := [(72, op_callV 11 184 3), (75, op_iald 13), (76, op_ibin (fun x y => x * y)), (77, op_istore 10 2), (79, op_ic 2 1), (80, op_aload 0 1), (81, op_getA 11 6), (84, op_aload 0 1), (85, op_iload 1 1), (86, op_iload 7 2), (88, op_callV 11 184 3), (91, op_iald 13), (92, op_ibin (fun x y => x * y)), (93, op_istore 11 2), (95, op_iload 10 2), (97, op_iload 8 2), (99, op_ibin (fun x y => x - y)), (100, op_iload 11 2), (102, op_iload 9 2), (104, op_ibin (fun x y => x - y)), (105, op_iload 4 2), (107, op_iload 8 2), (109, op_ibin (fun x y => x - y)), (110, op_iload 5 2), (112, op_iload 9 2)]
set_option maxRecDepth 100000 in
theorem gl_194_2 : jm_gl "FrescoWallModel" prog_14_method_26_code 15 (Option.some Jvm.ClassFile.FieldType.boolean) false cl_194_2 :=
  jm_gc (pu_callV _ _ _) (sn_callV (jm_dc dc_194_2 0 rfl) lk_11_262) (
  jm_gc (pu_iald _) (sn_iald (jm_dc dc_194_2 1 rfl)) (
  jm_gc (pu_ibin _) (sn_imul (jm_dc dc_194_2 2 rfl)) (
  jm_gc (pu_istore _ _) (sn_istore (jm_dc dc_194_2 3 rfl)) (
  jm_gc (pu_ic _ _) (sn_iconst (jm_dc dc_194_2 4 rfl) (by decide)) (
  jm_gc (pu_aload _ _) (sn_aload_n (i := 0) (jm_dc dc_194_2 5 rfl)) (
  jm_gc (pu_getA _ _) (sn_getA (jm_dc dc_194_2 6 rfl) fl_11_19 rfl) (
  jm_gc (pu_aload _ _) (sn_aload_n (i := 0) (jm_dc dc_194_2 7 rfl)) (
  jm_gc (pu_iload _ _) (sn_iload_n (i := 1) (jm_dc dc_194_2 8 rfl)) (
  jm_gc (pu_iload _ _) (sn_iload (jm_dc dc_194_2 9 rfl)) (
  jm_gc (pu_callV _ _ _) (sn_callV (jm_dc dc_194_2 10 rfl) lk_11_262) (
  jm_gc (pu_iald _) (sn_iald (jm_dc dc_194_2 11 rfl)) (
  jm_gc (pu_ibin _) (sn_imul (jm_dc dc_194_2 12 rfl)) (
  jm_gc (pu_istore _ _) (sn_istore (jm_dc dc_194_2 13 rfl)) (
  jm_gc (pu_iload _ _) (sn_iload (jm_dc dc_194_2 14 rfl)) (
  jm_gc (pu_iload _ _) (sn_iload (jm_dc dc_194_2 15 rfl)) (
  jm_gc (pu_ibin _) (sn_isub (jm_dc dc_194_2 16 rfl)) (
  jm_gc (pu_iload _ _) (sn_iload (jm_dc dc_194_2 17 rfl)) (
  jm_gc (pu_iload _ _) (sn_iload (jm_dc dc_194_2 18 rfl)) (
  jm_gc (pu_ibin _) (sn_isub (jm_dc dc_194_2 19 rfl)) (
  jm_gc (pu_iload _ _) (sn_iload (jm_dc dc_194_2 20 rfl)) (
  jm_gc (pu_iload _ _) (sn_iload (jm_dc dc_194_2 21 rfl)) (
  jm_gc (pu_ibin _) (sn_isub (jm_dc dc_194_2 22 rfl)) (
  jm_gc (pu_iload _ _) (sn_iload (jm_dc dc_194_2 23 rfl)) (
  jm_gc (pu_iload _ _) (sn_iload (jm_dc dc_194_2 24 rfl)) (
  jm_gn)))))))))))))))))))))))))
theorem dc_194_3 : ([(114, .isub, 1), (115, .invokestatic 272, 3), (118, .istore 12, 2), (120, .iload 12, 2), (122, .ifCond .ne 49, 3), (125, .iload 4, 2), (127, .iload 8, 2), (129, .iload 10, 2), (131, .invokestatic 280, 3), (134, .iload 8, 2), (136, .iload 10, 2), (138, .invokestatic 285, 3), (141, .invokestatic 218, 3), (144, .ifCond .eq 27, 3), (147, .iload 5, 2), (149, .iload 9, 2), (151, .iload 11, 2), (153, .invokestatic 280, 3), (156, .iload 9, 2), (158, .iload 11, 2), (160, .invokestatic 285, 3), (163, .invokestatic 218, 3), (166, .ifCond .eq 5, 3), (169, .iconst 0, 1), (170, .ireturn, 1)] : List (Nat × Instr × Nat)).all (fun e => decide (decode prog_14_method_26_code e.1 = .ok e.2)) = true := by decide +kernel
abbrev cl_194_3 : List (Nat × jm_O) := [(114, op_ibin (fun x y => x - y)), (115, op_callS 183 4), (118, op_istore 12 2), (120, op_iload 12 2), (122, op_ifne 171), (125, op_iload 4 2), (127, op_iload 8 2), (129, op_iload 10 2), (131, op_mmin), (134, op_iload 8 2), (136, op_iload 10 2), (138, op_mmax), (141, op_callS 171 3), (144, op_ifeq 171), (147, op_iload 5 2), (149, op_iload 9 2), (151, op_iload 11 2), (153, op_mmin), (156, op_iload 9 2), (158, op_iload 11 2), (160, op_mmax), (163, op_callS 171 3), (166, op_ifeq 171), (169, op_ic 0 1), (170, op_zret)]
set_option maxRecDepth 100000 in
theorem gl_194_3 : jm_gl "FrescoWallModel" prog_14_method_26_code 15 (Option.some Jvm.ClassFile.FieldType.boolean) false cl_194_3 :=
  jm_gc (pu_ibin _) (sn_isub (jm_dc dc_194_3 0 rfl)) (
  jm_gc (pu_callS _ _) (sn_callS (jm_dc dc_194_3 1 rfl) lk_11_272) (
  jm_gc (pu_istore _ _) (sn_istore (jm_dc dc_194_3 2 rfl)) (
  jm_gc (pu_iload _ _) (sn_iload (jm_dc dc_194_3 3 rfl)) (
  jm_gc (pu_ifne _) (sn_ifne (jm_dc dc_194_3 4 rfl) (by decide)) (
  jm_gc (pu_iload _ _) (sn_iload (jm_dc dc_194_3 5 rfl)) (
  jm_gc (pu_iload _ _) (sn_iload (jm_dc dc_194_3 6 rfl)) (
  jm_gc (pu_iload _ _) (sn_iload (jm_dc dc_194_3 7 rfl)) (
  jm_gc (pu_mmin) (sn_mmin (jm_dc dc_194_3 8 rfl) ⟨kc_tb 1625 (by decide +kernel), kc_tb 478 (by decide +kernel), kc_tb 13 (by decide +kernel), kc_tb 479 (by decide +kernel)⟩) (
  jm_gc (pu_iload _ _) (sn_iload (jm_dc dc_194_3 9 rfl)) (
  jm_gc (pu_iload _ _) (sn_iload (jm_dc dc_194_3 10 rfl)) (
  jm_gc (pu_mmax) (sn_mmax (jm_dc dc_194_3 11 rfl) ⟨kc_tb 1626 (by decide +kernel), kc_tb 481 (by decide +kernel), kc_tb 13 (by decide +kernel), kc_tb 482 (by decide +kernel)⟩) (
  jm_gc (pu_callS _ _) (sn_callS (jm_dc dc_194_3 12 rfl) lk_11_218) (
  jm_gc (pu_ifeq _) (sn_ifeq (jm_dc dc_194_3 13 rfl) (by decide)) (
  jm_gc (pu_iload _ _) (sn_iload (jm_dc dc_194_3 14 rfl)) (
  jm_gc (pu_iload _ _) (sn_iload (jm_dc dc_194_3 15 rfl)) (
  jm_gc (pu_iload _ _) (sn_iload (jm_dc dc_194_3 16 rfl)) (
  jm_gc (pu_mmin) (sn_mmin (jm_dc dc_194_3 17 rfl) ⟨kc_tb 1625 (by decide +kernel), kc_tb 478 (by decide +kernel), kc_tb 13 (by decide +kernel), kc_tb 479 (by decide +kernel)⟩) (
  jm_gc (pu_iload _ _) (sn_iload (jm_dc dc_194_3 18 rfl)) (
  jm_gc (pu_iload _ _) (sn_iload (jm_dc dc_194_3 19 rfl)) (
  jm_gc (pu_mmax) (sn_mmax (jm_dc dc_194_3 20 rfl) ⟨kc_tb 1626 (by decide +kernel), kc_tb 481 (by decide +kernel), kc_tb 13 (by decide +kernel), kc_tb 482 (by decide +kernel)⟩) (
  jm_gc (pu_callS _ _) (sn_callS (jm_dc dc_194_3 21 rfl) lk_11_218) (
  jm_gc (pu_ifeq _) (sn_ifeq (jm_dc dc_194_3 22 rfl) (by decide)) (
  jm_gc (pu_ic _ _) (sn_iconst (jm_dc dc_194_3 23 rfl) (by decide)) (
  jm_gc (pu_zret) (sn_zret (jm_dc dc_194_3 24 rfl) rfl) (
  jm_gn)))))))))))))))))))))))))
theorem dc_194_4 : ([(171, .iload 9, 2), (173, .iload 5, 2), (175, .if_icmp .gt 14, 3), (178, .iload 11, 2), (180, .iload 5, 2), (182, .if_icmp .le 7, 3), (185, .iconst 1, 1), (186, .goto 4, 3), (189, .iconst 0, 1), (190, .istore 13, 2), (192, .iload 11, 2), (194, .iload 5, 2), (196, .if_icmp .gt 14, 3), (199, .iload 9, 2), (201, .iload 5, 2), (203, .if_icmp .le 7, 3), (206, .iconst 1, 1), (207, .goto 4, 3), (210, .iconst 0, 1), (211, .istore 14, 2), (213, .iload 13, 2), (215, .ifCond .eq 8, 3), (218, .iload 12, 2), (220, .ifCond .gt 13, 3), (223, .iload 14, 2)] : List (Nat × Instr × Nat)).all (fun e => decide (decode prog_14_method_26_code e.1 = .ok e.2)) = true := by decide +kernel
abbrev cl_194_4 : List (Nat × jm_O) := [(171, op_iload 9 2), (173, op_iload 5 2), (175, op_cgt 189), (178, op_iload 11 2), (180, op_iload 5 2), (182, op_cle 189), (185, op_ic 1 1), (186, op_goto 190), (189, op_ic 0 1), (190, op_istore 13 2), (192, op_iload 11 2), (194, op_iload 5 2), (196, op_cgt 210), (199, op_iload 9 2), (201, op_iload 5 2), (203, op_cle 210), (206, op_ic 1 1), (207, op_goto 211), (210, op_ic 0 1), (211, op_istore 14 2), (213, op_iload 13 2), (215, op_ifeq 223), (218, op_iload 12 2), (220, op_ifgt 233), (223, op_iload 14 2)]
set_option maxRecDepth 100000 in
theorem gl_194_4 : jm_gl "FrescoWallModel" prog_14_method_26_code 15 (Option.some Jvm.ClassFile.FieldType.boolean) false cl_194_4 :=
  jm_gc (pu_iload _ _) (sn_iload (jm_dc dc_194_4 0 rfl)) (
  jm_gc (pu_iload _ _) (sn_iload (jm_dc dc_194_4 1 rfl)) (
  jm_gc (pu_cgt _) (sn_cgt (jm_dc dc_194_4 2 rfl) (by decide)) (
  jm_gc (pu_iload _ _) (sn_iload (jm_dc dc_194_4 3 rfl)) (
  jm_gc (pu_iload _ _) (sn_iload (jm_dc dc_194_4 4 rfl)) (
  jm_gc (pu_cle _) (sn_cle (jm_dc dc_194_4 5 rfl) (by decide)) (
  jm_gc (pu_ic _ _) (sn_iconst (jm_dc dc_194_4 6 rfl) (by decide)) (
  jm_gc (pu_goto _) (sn_goto (jm_dc dc_194_4 7 rfl) (by decide)) (
  jm_gc (pu_ic _ _) (sn_iconst (jm_dc dc_194_4 8 rfl) (by decide)) (
  jm_gc (pu_istore _ _) (sn_istore (jm_dc dc_194_4 9 rfl)) (
  jm_gc (pu_iload _ _) (sn_iload (jm_dc dc_194_4 10 rfl)) (
  jm_gc (pu_iload _ _) (sn_iload (jm_dc dc_194_4 11 rfl)) (
  jm_gc (pu_cgt _) (sn_cgt (jm_dc dc_194_4 12 rfl) (by decide)) (
  jm_gc (pu_iload _ _) (sn_iload (jm_dc dc_194_4 13 rfl)) (
  jm_gc (pu_iload _ _) (sn_iload (jm_dc dc_194_4 14 rfl)) (
  jm_gc (pu_cle _) (sn_cle (jm_dc dc_194_4 15 rfl) (by decide)) (
  jm_gc (pu_ic _ _) (sn_iconst (jm_dc dc_194_4 16 rfl) (by decide)) (
  jm_gc (pu_goto _) (sn_goto (jm_dc dc_194_4 17 rfl) (by decide)) (
  jm_gc (pu_ic _ _) (sn_iconst (jm_dc dc_194_4 18 rfl) (by decide)) (
  jm_gc (pu_istore _ _) (sn_istore (jm_dc dc_194_4 19 rfl)) (
  jm_gc (pu_iload _ _) (sn_iload (jm_dc dc_194_4 20 rfl)) (
  jm_gc (pu_ifeq _) (sn_ifeq (jm_dc dc_194_4 21 rfl) (by decide)) (
  jm_gc (pu_iload _ _) (sn_iload (jm_dc dc_194_4 22 rfl)) (
  jm_gc (pu_ifgt _) (sn_ifgt (jm_dc dc_194_4 23 rfl) (by decide)) (
  jm_gc (pu_iload _ _) (sn_iload (jm_dc dc_194_4 24 rfl)) (
  jm_gn)))))))))))))))))))))))))
theorem dc_194_5 : ([(225, .ifCond .eq 21, 3), (228, .iload 12, 2), (230, .ifCond .ge 16, 3), (233, .iload 6, 2), (235, .ifCond .ne 7, 3), (238, .iconst 1, 1), (239, .goto 9, 3), (242, .iconst 0, 1), (243, .goto 5, 3), (246, .iload 6, 2), (248, .istore 6, 2), (250, .iinc 7 1, 3), (253, .goto (-233), 3), (256, .iload 6, 2), (258, .ireturn, 1)] : List (Nat × Instr × Nat)).all (fun e => decide (decode prog_14_method_26_code e.1 = .ok e.2)) = true := by decide +kernel
abbrev cl_194_5 : List (Nat × jm_O) := [(225, op_ifeq 246), (228, op_iload 12 2), (230, op_ifge 246), (233, op_iload 6 2), (235, op_ifne 242), (238, op_ic 1 1), (239, op_goto 248), (242, op_ic 0 1), (243, op_goto 248), (246, op_iload 6 2), (248, op_istore 6 2), (250, op_iinc 7 1), (253, op_goto 20), (256, op_iload 6 2), (258, op_zret)]
set_option maxRecDepth 100000 in
theorem gl_194_5 : jm_gl "FrescoWallModel" prog_14_method_26_code 15 (Option.some Jvm.ClassFile.FieldType.boolean) false cl_194_5 :=
  jm_gc (pu_ifeq _) (sn_ifeq (jm_dc dc_194_5 0 rfl) (by decide)) (
  jm_gc (pu_iload _ _) (sn_iload (jm_dc dc_194_5 1 rfl)) (
  jm_gc (pu_ifge _) (sn_ifge (jm_dc dc_194_5 2 rfl) (by decide)) (
  jm_gc (pu_iload _ _) (sn_iload (jm_dc dc_194_5 3 rfl)) (
  jm_gc (pu_ifne _) (sn_ifne (jm_dc dc_194_5 4 rfl) (by decide)) (
  jm_gc (pu_ic _ _) (sn_iconst (jm_dc dc_194_5 5 rfl) (by decide)) (
  jm_gc (pu_goto _) (sn_goto (jm_dc dc_194_5 6 rfl) (by decide)) (
  jm_gc (pu_ic _ _) (sn_iconst (jm_dc dc_194_5 7 rfl) (by decide)) (
  jm_gc (pu_goto _) (sn_goto (jm_dc dc_194_5 8 rfl) (by decide)) (
  jm_gc (pu_iload _ _) (sn_iload (jm_dc dc_194_5 9 rfl)) (
  jm_gc (pu_istore _ _) (sn_istore (jm_dc dc_194_5 10 rfl)) (
  jm_gc (pu_iinc _ _) (sn_iinc (jm_dc dc_194_5 11 rfl) (by decide)) (
  jm_gc (pu_goto _) (sn_goto (jm_dc dc_194_5 12 rfl) (by decide)) (
  jm_gc (pu_iload _ _) (sn_iload (jm_dc dc_194_5 13 rfl)) (
  jm_gc (pu_zret) (sn_zret (jm_dc dc_194_5 14 rfl) rfl) (
  jm_gn)))))))))))))))
theorem dc_195_0 : ([(0, .iload_n 0, 1), (1, .bipush (-20), 2), (3, .bipush 19, 2), (5, .invokestatic 218, 3), (8, .ifCond .eq 18, 3), (11, .iload_n 1, 1), (12, .bipush (-20), 2), (14, .bipush 19, 2), (16, .invokestatic 218, 3), (19, .ifCond .eq 7, 3), (22, .iconst 1, 1), (23, .goto 4, 3), (26, .iconst 0, 1), (27, .ireturn, 1)] : List (Nat × Instr × Nat)).all (fun e => decide (decode prog_14_method_27_code e.1 = .ok e.2)) = true := by decide +kernel
abbrev cl_195_0 : List (Nat × jm_O) := [(0, op_iload 0 1), (1, op_ic (-20) 2), (3, op_ic 19 2), (5, op_callS 171 3), (8, op_ifeq 26), (11, op_iload 1 1), (12, op_ic (-20) 2), (14, op_ic 19 2), (16, op_callS 171 3), (19, op_ifeq 26), (22, op_ic 1 1), (23, op_goto 27), (26, op_ic 0 1), (27, op_zret)]
set_option maxRecDepth 100000 in
theorem gl_195_0 : jm_gl "FrescoWallModel" prog_14_method_27_code 2 (Option.some Jvm.ClassFile.FieldType.boolean) false cl_195_0 :=
  jm_gc (pu_iload _ _) (sn_iload_n (i := 0) (jm_dc dc_195_0 0 rfl)) (
  jm_gc (pu_ic _ _) (sn_bipush (jm_dc dc_195_0 1 rfl) (by decide)) (
  jm_gc (pu_ic _ _) (sn_bipush (jm_dc dc_195_0 2 rfl) (by decide)) (
  jm_gc (pu_callS _ _) (sn_callS (jm_dc dc_195_0 3 rfl) lk_11_218) (
  jm_gc (pu_ifeq _) (sn_ifeq (jm_dc dc_195_0 4 rfl) (by decide)) (
  jm_gc (pu_iload _ _) (sn_iload_n (i := 1) (jm_dc dc_195_0 5 rfl)) (
  jm_gc (pu_ic _ _) (sn_bipush (jm_dc dc_195_0 6 rfl) (by decide)) (
  jm_gc (pu_ic _ _) (sn_bipush (jm_dc dc_195_0 7 rfl) (by decide)) (
  jm_gc (pu_callS _ _) (sn_callS (jm_dc dc_195_0 8 rfl) lk_11_218) (
  jm_gc (pu_ifeq _) (sn_ifeq (jm_dc dc_195_0 9 rfl) (by decide)) (
  jm_gc (pu_ic _ _) (sn_iconst (jm_dc dc_195_0 10 rfl) (by decide)) (
  jm_gc (pu_goto _) (sn_goto (jm_dc dc_195_0 11 rfl) (by decide)) (
  jm_gc (pu_ic _ _) (sn_iconst (jm_dc dc_195_0 12 rfl) (by decide)) (
  jm_gc (pu_zret) (sn_zret (jm_dc dc_195_0 13 rfl) rfl) (
  jm_gn))))))))))))))
theorem dc_196_0 : ([(0, .sipush 1600, 3), (3, .iload_n 0, 1), (4, .imul, 1), (5, .bipush 40, 2), (7, .iload_n 2, 1), (8, .bipush 20, 2), (10, .iadd, 1), (11, .imul, 1), (12, .iadd, 1), (13, .iload_n 1, 1), (14, .iadd, 1), (15, .bipush 20, 2), (17, .iadd, 1), (18, .ireturn, 1)] : List (Nat × Instr × Nat)).all (fun e => decide (decode prog_14_method_28_code e.1 = .ok e.2)) = true := by decide +kernel
abbrev cl_196_0 : List (Nat × jm_O) := [(0, op_ic 1600 3), (3, op_iload 0 1), (4, op_ibin (fun x y => x * y)), (5, op_ic 40 2), (7, op_iload 2 1), (8, op_ic 20 2), (10, op_ibin (fun x y => x + y)), (11, op_ibin (fun x y => x * y)), (12, op_ibin (fun x y => x + y)), (13, op_iload 1 1), (14, op_ibin (fun x y => x + y)), (15, op_ic 20 2), (17, op_ibin (fun x y => x + y)), (18, op_iret)]
set_option maxRecDepth 100000 in
theorem gl_196_0 : jm_gl "FrescoWallModel" prog_14_method_28_code 3 (Option.some Jvm.ClassFile.FieldType.int) false cl_196_0 :=
  jm_gc (pu_ic _ _) (sn_sipush (jm_dc dc_196_0 0 rfl) (by decide)) (
  jm_gc (pu_iload _ _) (sn_iload_n (i := 0) (jm_dc dc_196_0 1 rfl)) (
  jm_gc (pu_ibin _) (sn_imul (jm_dc dc_196_0 2 rfl)) (
  jm_gc (pu_ic _ _) (sn_bipush (jm_dc dc_196_0 3 rfl) (by decide)) (
  jm_gc (pu_iload _ _) (sn_iload_n (i := 2) (jm_dc dc_196_0 4 rfl)) (
  jm_gc (pu_ic _ _) (sn_bipush (jm_dc dc_196_0 5 rfl) (by decide)) (
  jm_gc (pu_ibin _) (sn_iadd (jm_dc dc_196_0 6 rfl)) (
  jm_gc (pu_ibin _) (sn_imul (jm_dc dc_196_0 7 rfl)) (
  jm_gc (pu_ibin _) (sn_iadd (jm_dc dc_196_0 8 rfl)) (
  jm_gc (pu_iload _ _) (sn_iload_n (i := 1) (jm_dc dc_196_0 9 rfl)) (
  jm_gc (pu_ibin _) (sn_iadd (jm_dc dc_196_0 10 rfl)) (
  jm_gc (pu_ic _ _) (sn_bipush (jm_dc dc_196_0 11 rfl) (by decide)) (
  jm_gc (pu_ibin _) (sn_iadd (jm_dc dc_196_0 12 rfl)) (
  jm_gc (pu_iret) (sn_iret (jm_dc dc_196_0 13 rfl) rfl) (
  jm_gn))))))))))))))
theorem dc_197_0 : ([(0, .iload_n 2, 1), (1, .iload_n 3, 1), (2, .invokestatic 304, 3), (5, .ifCond .eq 21, 3), (8, .aload_n 0, 1), (9, .getfield 59, 3), (12, .iload_n 1, 1), (13, .iload_n 2, 1), (14, .iload_n 3, 1), (15, .invokestatic 308, 3), (18, .baload, 1), (19, .ifCond .eq 7, 3), (22, .iconst 1, 1), (23, .goto 4, 3), (26, .iconst 0, 1), (27, .ireturn, 1)] : List (Nat × Instr × Nat)).all (fun e => decide (decode prog_14_method_29_code e.1 = .ok e.2)) = true := by decide +kernel
abbrev cl_197_0 : List (Nat × jm_O) := [(0, op_iload 2 1), (1, op_iload 3 1), (2, op_callS 195 2), (5, op_ifeq 26), (8, op_aload 0 1), (9, op_getA 11 19), (12, op_iload 1 1), (13, op_iload 2 1), (14, op_iload 3 1), (15, op_callS 196 3), (18, op_iald 15), (19, op_ifeq 26), (22, op_ic 1 1), (23, op_goto 27), (26, op_ic 0 1), (27, op_zret)]
set_option maxRecDepth 100000 in
theorem gl_197_0 : jm_gl "FrescoWallModel" prog_14_method_29_code 4 (Option.some Jvm.ClassFile.FieldType.boolean) false cl_197_0 :=
  jm_gc (pu_iload _ _) (sn_iload_n (i := 2) (jm_dc dc_197_0 0 rfl)) (
  jm_gc (pu_iload _ _) (sn_iload_n (i := 3) (jm_dc dc_197_0 1 rfl)) (
  jm_gc (pu_callS _ _) (sn_callS (jm_dc dc_197_0 2 rfl) lk_11_304) (
  jm_gc (pu_ifeq _) (sn_ifeq (jm_dc dc_197_0 3 rfl) (by decide)) (
  jm_gc (pu_aload _ _) (sn_aload_n (i := 0) (jm_dc dc_197_0 4 rfl)) (
  jm_gc (pu_getA _ _) (sn_getA (jm_dc dc_197_0 5 rfl) fl_11_59 rfl) (
  jm_gc (pu_iload _ _) (sn_iload_n (i := 1) (jm_dc dc_197_0 6 rfl)) (
  jm_gc (pu_iload _ _) (sn_iload_n (i := 2) (jm_dc dc_197_0 7 rfl)) (
  jm_gc (pu_iload _ _) (sn_iload_n (i := 3) (jm_dc dc_197_0 8 rfl)) (
  jm_gc (pu_callS _ _) (sn_callS (jm_dc dc_197_0 9 rfl) lk_11_308) (
  jm_gc (pu_iald _) (sn_zald (jm_dc dc_197_0 10 rfl)) (
  jm_gc (pu_ifeq _) (sn_ifeq (jm_dc dc_197_0 11 rfl) (by decide)) (
  jm_gc (pu_ic _ _) (sn_iconst (jm_dc dc_197_0 12 rfl) (by decide)) (
  jm_gc (pu_goto _) (sn_goto (jm_dc dc_197_0 13 rfl) (by decide)) (
  jm_gc (pu_ic _ _) (sn_iconst (jm_dc dc_197_0 14 rfl) (by decide)) (
  jm_gc (pu_zret) (sn_zret (jm_dc dc_197_0 15 rfl) rfl) (
  jm_gn))))))))))))))))
theorem dc_198_0 : ([(0, .aload_n 0, 1), (1, .getfield 46, 3), (4, .iload_n 1, 1), (5, .iconst 0, 1), (6, .iastore, 1), (7, .bipush (-20), 2), (9, .istore_n 2, 1), (10, .iload_n 2, 1), (11, .bipush 20, 2), (13, .if_icmp .ge 97, 3), (16, .bipush (-20), 2), (18, .istore_n 3, 1), (19, .iload_n 3, 1), (20, .bipush 20, 2), (22, .if_icmp .ge 82, 3), (25, .aload_n 0, 1), (26, .iload_n 1, 1), (27, .iload_n 3, 1), (28, .iload_n 2, 1), (29, .invokevirtual 312, 3), (32, .istore 4, 2), (34, .aload_n 0, 1), (35, .getfield 59, 3), (38, .iload_n 1, 1), (39, .iload_n 3, 1)] : List (Nat × Instr × Nat)).all (fun e => decide (decode prog_14_method_30_code e.1 = .ok e.2)) = true := by decide +kernel
abbrev cl_198_0 : List (Nat × jm_O) := [(0, op_aload 0 1), (1, op_getA 11 15), (4, op_iload 1 1), (5, op_ic 0 1), (6, op_iast), (7, op_ic (-20) 2), (9, op_istore 2 1), (10, op_iload 2 1), (11, op_ic 20 2), (13, op_cge 110), (16, op_ic (-20) 2), (18, op_istore 3 1), (19, op_iload 3 1), (20, op_ic 20 2), (22, op_cge 104), (25, op_aload 0 1), (26, op_iload 1 1), (27, op_iload 3 1), (28, op_iload 2 1), (29, op_callV 11 194 4), (32, op_istore 4 2), (34, op_aload 0 1), (35, op_getA 11 19), (38, op_iload 1 1), (39, op_iload 3 1)]
set_option maxRecDepth 100000 in
theorem gl_198_0 : jm_gl "FrescoWallModel" prog_14_method_30_code 5 (Option.none : Option Jvm.ClassFile.FieldType) false cl_198_0 :=
  jm_gc (pu_aload _ _) (sn_aload_n (i := 0) (jm_dc dc_198_0 0 rfl)) (
  jm_gc (pu_getA _ _) (sn_getA (jm_dc dc_198_0 1 rfl) fl_11_46 rfl) (
  jm_gc (pu_iload _ _) (sn_iload_n (i := 1) (jm_dc dc_198_0 2 rfl)) (
  jm_gc (pu_ic _ _) (sn_iconst (jm_dc dc_198_0 3 rfl) (by decide)) (
  jm_gc (pu_iast) (sn_iast (jm_dc dc_198_0 4 rfl)) (
  jm_gc (pu_ic _ _) (sn_bipush (jm_dc dc_198_0 5 rfl) (by decide)) (
  jm_gc (pu_istore _ _) (sn_istore_n (i := 2) (jm_dc dc_198_0 6 rfl)) (
  jm_gc (pu_iload _ _) (sn_iload_n (i := 2) (jm_dc dc_198_0 7 rfl)) (
  jm_gc (pu_ic _ _) (sn_bipush (jm_dc dc_198_0 8 rfl) (by decide)) (
  jm_gc (pu_cge _) (sn_cge (jm_dc dc_198_0 9 rfl) (by decide)) (
  jm_gc (pu_ic _ _) (sn_bipush (jm_dc dc_198_0 10 rfl) (by decide)) (
  jm_gc (pu_istore _ _) (sn_istore_n (i := 3) (jm_dc dc_198_0 11 rfl)) (
  jm_gc (pu_iload _ _) (sn_iload_n (i := 3) (jm_dc dc_198_0 12 rfl)) (
  jm_gc (pu_ic _ _) (sn_bipush (jm_dc dc_198_0 13 rfl) (by decide)) (
  jm_gc (pu_cge _) (sn_cge (jm_dc dc_198_0 14 rfl) (by decide)) (
  jm_gc (pu_aload _ _) (sn_aload_n (i := 0) (jm_dc dc_198_0 15 rfl)) (
  jm_gc (pu_iload _ _) (sn_iload_n (i := 1) (jm_dc dc_198_0 16 rfl)) (
  jm_gc (pu_iload _ _) (sn_iload_n (i := 3) (jm_dc dc_198_0 17 rfl)) (
  jm_gc (pu_iload _ _) (sn_iload_n (i := 2) (jm_dc dc_198_0 18 rfl)) (
  jm_gc (pu_callV _ _ _) (sn_callV (jm_dc dc_198_0 19 rfl) lk_11_312) (
  jm_gc (pu_istore _ _) (sn_istore (jm_dc dc_198_0 20 rfl)) (
  jm_gc (pu_aload _ _) (sn_aload_n (i := 0) (jm_dc dc_198_0 21 rfl)) (
  jm_gc (pu_getA _ _) (sn_getA (jm_dc dc_198_0 22 rfl) fl_11_59 rfl) (
  jm_gc (pu_iload _ _) (sn_iload_n (i := 1) (jm_dc dc_198_0 23 rfl)) (
  jm_gc (pu_iload _ _) (sn_iload_n (i := 3) (jm_dc dc_198_0 24 rfl)) (
  jm_gn)))))))))))))))))))))))))
theorem dc_198_1 : ([(40, .iload_n 2, 1), (41, .invokestatic 308, 3), (44, .iload 4, 2), (46, .bastore, 1), (47, .iload 4, 2), (49, .ifCond .eq 49, 3), (52, .aload_n 0, 1), (53, .getfield 53, 3), (56, .sipush 1600, 3), (59, .iload_n 1, 1), (60, .imul, 1), (61, .aload_n 0, 1), (62, .getfield 46, 3), (65, .iload_n 1, 1), (66, .iaload, 1), (67, .iadd, 1), (68, .iload_n 3, 1), (69, .iastore, 1), (70, .aload_n 0, 1), (71, .getfield 56, 3), (74, .sipush 1600, 3), (77, .iload_n 1, 1), (78, .imul, 1), (79, .aload_n 0, 1), (80, .getfield 46, 3)] : List (Nat × Instr × Nat)).all (fun e => decide (decode prog_14_method_30_code e.1 = .ok e.2)) = true := by decide +kernel
abbrev cl_198_1 : List (Nat × jm_O) := [(40, op_iload 2 1), (41, op_callS 196 3), (44, op_iload 4 2), (46, op_zast), (47, op_iload 4 2), (49, op_ifeq 98), (52, op_aload 0 1), (53, op_getA 11 17), (56, op_ic 1600 3), (59, op_iload 1 1), (60, op_ibin (fun x y => x * y)), (61, op_aload 0 1), (62, op_getA 11 15), (65, op_iload 1 1), (66, op_iald 13), (67, op_ibin (fun x y => x + y)), (68, op_iload 3 1), (69, op_iast), (70, op_aload 0 1), (71, op_getA 11 18), (74, op_ic 1600 3), (77, op_iload 1 1), (78, op_ibin (fun x y => x * y)), (79, op_aload 0 1), (80, op_getA 11 15)]
set_option maxRecDepth 100000 in
theorem gl_198_1 : jm_gl "FrescoWallModel" prog_14_method_30_code 5 (Option.none : Option Jvm.ClassFile.FieldType) false cl_198_1 :=
  jm_gc (pu_iload _ _) (sn_iload_n (i := 2) (jm_dc dc_198_1 0 rfl)) (
  jm_gc (pu_callS _ _) (sn_callS (jm_dc dc_198_1 1 rfl) lk_11_308) (
  jm_gc (pu_iload _ _) (sn_iload (jm_dc dc_198_1 2 rfl)) (
  jm_gc (pu_zast) (sn_zast (jm_dc dc_198_1 3 rfl)) (
  jm_gc (pu_iload _ _) (sn_iload (jm_dc dc_198_1 4 rfl)) (
  jm_gc (pu_ifeq _) (sn_ifeq (jm_dc dc_198_1 5 rfl) (by decide)) (
  jm_gc (pu_aload _ _) (sn_aload_n (i := 0) (jm_dc dc_198_1 6 rfl)) (
  jm_gc (pu_getA _ _) (sn_getA (jm_dc dc_198_1 7 rfl) fl_11_53 rfl) (
  jm_gc (pu_ic _ _) (sn_sipush (jm_dc dc_198_1 8 rfl) (by decide)) (
  jm_gc (pu_iload _ _) (sn_iload_n (i := 1) (jm_dc dc_198_1 9 rfl)) (
  jm_gc (pu_ibin _) (sn_imul (jm_dc dc_198_1 10 rfl)) (
  jm_gc (pu_aload _ _) (sn_aload_n (i := 0) (jm_dc dc_198_1 11 rfl)) (
  jm_gc (pu_getA _ _) (sn_getA (jm_dc dc_198_1 12 rfl) fl_11_46 rfl) (
  jm_gc (pu_iload _ _) (sn_iload_n (i := 1) (jm_dc dc_198_1 13 rfl)) (
  jm_gc (pu_iald _) (sn_iald (jm_dc dc_198_1 14 rfl)) (
  jm_gc (pu_ibin _) (sn_iadd (jm_dc dc_198_1 15 rfl)) (
  jm_gc (pu_iload _ _) (sn_iload_n (i := 3) (jm_dc dc_198_1 16 rfl)) (
  jm_gc (pu_iast) (sn_iast (jm_dc dc_198_1 17 rfl)) (
  jm_gc (pu_aload _ _) (sn_aload_n (i := 0) (jm_dc dc_198_1 18 rfl)) (
  jm_gc (pu_getA _ _) (sn_getA (jm_dc dc_198_1 19 rfl) fl_11_56 rfl) (
  jm_gc (pu_ic _ _) (sn_sipush (jm_dc dc_198_1 20 rfl) (by decide)) (
  jm_gc (pu_iload _ _) (sn_iload_n (i := 1) (jm_dc dc_198_1 21 rfl)) (
  jm_gc (pu_ibin _) (sn_imul (jm_dc dc_198_1 22 rfl)) (
  jm_gc (pu_aload _ _) (sn_aload_n (i := 0) (jm_dc dc_198_1 23 rfl)) (
  jm_gc (pu_getA _ _) (sn_getA (jm_dc dc_198_1 24 rfl) fl_11_46 rfl) (
  jm_gn)))))))))))))))))))))))))
theorem dc_198_2 : ([(83, .iload_n 1, 1), (84, .iaload, 1), (85, .iadd, 1), (86, .iload_n 2, 1), (87, .iastore, 1), (88, .aload_n 0, 1), (89, .getfield 46, 3), (92, .iload_n 1, 1), (93, .dup2, 1), (94, .iaload, 1), (95, .iconst 1, 1), (96, .iadd, 1), (97, .iastore, 1), (98, .iinc 3 1, 3), (101, .goto (-82), 3), (104, .iinc 2 1, 3), (107, .goto (-97), 3), (110, .aload_n 0, 1), (111, .getfield 49, 3), (114, .iload_n 1, 1), (115, .aload_n 0, 1), (116, .iload_n 1, 1), (117, .invokevirtual 301, 3), (120, .iastore, 1), (121, .return_, 1)] : List (Nat × Instr × Nat)).all (fun e => decide (decode prog_14_method_30_code e.1 = .ok e.2)) = true := by decide +kernel
abbrev cl_198_2 : List (Nat × jm_O) := [(83, op_iload 1 1), (84, op_iald 13), (85, op_ibin (fun x y => x + y)), (86, op_iload 2 1), (87, op_iast), (88, op_aload 0 1), (89, op_getA 11 15), (92, op_iload 1 1), (93, op_dup2), (94, op_iald 13), (95, op_ic 1 1), (96, op_ibin (fun x y => x + y)), (97, op_iast), (98, op_iinc 3 1), (101, op_goto 19), (104, op_iinc 2 1), (107, op_goto 10), (110, op_aload 0 1), (111, op_getA 11 16), (114, op_iload 1 1), (115, op_aload 0 1), (116, op_iload 1 1), (117, op_callV 11 192 2), (120, op_iast), (121, op_vret)]
set_option maxRecDepth 100000 in
theorem gl_198_2 : jm_gl "FrescoWallModel" prog_14_method_30_code 5 (Option.none : Option Jvm.ClassFile.FieldType) false cl_198_2 :=
  jm_gc (pu_iload _ _) (sn_iload_n (i := 1) (jm_dc dc_198_2 0 rfl)) (
  jm_gc (pu_iald _) (sn_iald (jm_dc dc_198_2 1 rfl)) (
  jm_gc (pu_ibin _) (sn_iadd (jm_dc dc_198_2 2 rfl)) (
  jm_gc (pu_iload _ _) (sn_iload_n (i := 2) (jm_dc dc_198_2 3 rfl)) (
  jm_gc (pu_iast) (sn_iast (jm_dc dc_198_2 4 rfl)) (
  jm_gc (pu_aload _ _) (sn_aload_n (i := 0) (jm_dc dc_198_2 5 rfl)) (
  jm_gc (pu_getA _ _) (sn_getA (jm_dc dc_198_2 6 rfl) fl_11_46 rfl) (
  jm_gc (pu_iload _ _) (sn_iload_n (i := 1) (jm_dc dc_198_2 7 rfl)) (
  jm_gc (pu_dup2) (sn_dup2 (jm_dc dc_198_2 8 rfl)) (
  jm_gc (pu_iald _) (sn_iald (jm_dc dc_198_2 9 rfl)) (
  jm_gc (pu_ic _ _) (sn_iconst (jm_dc dc_198_2 10 rfl) (by decide)) (
  jm_gc (pu_ibin _) (sn_iadd (jm_dc dc_198_2 11 rfl)) (
  jm_gc (pu_iast) (sn_iast (jm_dc dc_198_2 12 rfl)) (
  jm_gc (pu_iinc _ _) (sn_iinc (jm_dc dc_198_2 13 rfl) (by decide)) (
  jm_gc (pu_goto _) (sn_goto (jm_dc dc_198_2 14 rfl) (by decide)) (
  jm_gc (pu_iinc _ _) (sn_iinc (jm_dc dc_198_2 15 rfl) (by decide)) (
  jm_gc (pu_goto _) (sn_goto (jm_dc dc_198_2 16 rfl) (by decide)) (
  jm_gc (pu_aload _ _) (sn_aload_n (i := 0) (jm_dc dc_198_2 17 rfl)) (
  jm_gc (pu_getA _ _) (sn_getA (jm_dc dc_198_2 18 rfl) fl_11_49 rfl) (
  jm_gc (pu_iload _ _) (sn_iload_n (i := 1) (jm_dc dc_198_2 19 rfl)) (
  jm_gc (pu_aload _ _) (sn_aload_n (i := 0) (jm_dc dc_198_2 20 rfl)) (
  jm_gc (pu_iload _ _) (sn_iload_n (i := 1) (jm_dc dc_198_2 21 rfl)) (
  jm_gc (pu_callV _ _ _) (sn_callV (jm_dc dc_198_2 22 rfl) lk_11_301) (
  jm_gc (pu_iast) (sn_iast (jm_dc dc_198_2 23 rfl)) (
  jm_gc (pu_vret) (sn_vret (jm_dc dc_198_2 24 rfl) rfl) (
  jm_gn)))))))))))))))))))))))))
theorem dc_199_0 : ([(0, .iconst 5, 1), (1, .iload_n 1, 1), (2, .imul, 1), (3, .istore_n 2, 1), (4, .iload_n 2, 1), (5, .iconst 5, 1), (6, .iload_n 1, 1), (7, .imul, 1), (8, .aload_n 0, 1), (9, .getfield 25, 3), (12, .iload_n 1, 1), (13, .iaload, 1), (14, .iadd, 1), (15, .if_icmp .ge 96, 3), (18, .iconst 0, 1), (19, .istore_n 3, 1), (20, .iconst 5, 1), (21, .iload_n 1, 1), (22, .imul, 1), (23, .istore 4, 2), (25, .iload 4, 2), (27, .iload_n 2, 1), (28, .if_icmp .ge 51, 3), (31, .iload_n 3, 1), (32, .ifCond .ne 35, 3)] : List (Nat × Instr × Nat)).all (fun e => decide (decode prog_14_method_31_code e.1 = .ok e.2)) = true := by decide +kernel
abbrev cl_199_0 : List (Nat × jm_O) := [(0, op_ic 5 1), (1, op_iload 1 1), (2, op_ibin (fun x y => x * y)), (3, op_istore 2 1), (4, op_iload 2 1), (5, op_ic 5 1), (6, op_iload 1 1), (7, op_ibin (fun x y => x * y)), (8, op_aload 0 1), (9, op_getA 11 8), (12, op_iload 1 1), (13, op_iald 13), (14, op_ibin (fun x y => x + y)), (15, op_cge 111), (18, op_ic 0 1), (19, op_istore 3 1), (20, op_ic 5 1), (21, op_iload 1 1), (22, op_ibin (fun x y => x * y)), (23, op_istore 4 2), (25, op_iload 4 2), (27, op_iload 2 1), (28, op_cge 79), (31, op_iload 3 1), (32, op_ifne 67)]
set_option maxRecDepth 100000 in
theorem gl_199_0 : jm_gl "FrescoWallModel" prog_14_method_31_code 5 (Option.some Jvm.ClassFile.FieldType.boolean) false cl_199_0 :=
  jm_gc (pu_ic _ _) (sn_iconst (jm_dc dc_199_0 0 rfl) (by decide)) (
  jm_gc (pu_iload _ _) (sn_iload_n (i := 1) (jm_dc dc_199_0 1 rfl)) (
  jm_gc (pu_ibin _) (sn_imul (jm_dc dc_199_0 2 rfl)) (
  jm_gc (pu_istore _ _) (sn_istore_n (i := 2) (jm_dc dc_199_0 3 rfl)) (
  jm_gc (pu_iload _ _) (sn_iload_n (i := 2) (jm_dc dc_199_0 4 rfl)) (
  jm_gc (pu_ic _ _) (sn_iconst (jm_dc dc_199_0 5 rfl) (by decide)) (
  jm_gc (pu_iload _ _) (sn_iload_n (i := 1) (jm_dc dc_199_0 6 rfl)) (
  jm_gc (pu_ibin _) (sn_imul (jm_dc dc_199_0 7 rfl)) (
  jm_gc (pu_aload _ _) (sn_aload_n (i := 0) (jm_dc dc_199_0 8 rfl)) (
  jm_gc (pu_getA _ _) (sn_getA (jm_dc dc_199_0 9 rfl) fl_11_25 rfl) (
  jm_gc (pu_iload _ _) (sn_iload_n (i := 1) (jm_dc dc_199_0 10 rfl)) (
  jm_gc (pu_iald _) (sn_iald (jm_dc dc_199_0 11 rfl)) (
  jm_gc (pu_ibin _) (sn_iadd (jm_dc dc_199_0 12 rfl)) (
  jm_gc (pu_cge _) (sn_cge (jm_dc dc_199_0 13 rfl) (by decide)) (
  jm_gc (pu_ic _ _) (sn_iconst (jm_dc dc_199_0 14 rfl) (by decide)) (
  jm_gc (pu_istore _ _) (sn_istore_n (i := 3) (jm_dc dc_199_0 15 rfl)) (
  jm_gc (pu_ic _ _) (sn_iconst (jm_dc dc_199_0 16 rfl) (by decide)) (
  jm_gc (pu_iload _ _) (sn_iload_n (i := 1) (jm_dc dc_199_0 17 rfl)) (
  jm_gc (pu_ibin _) (sn_imul (jm_dc dc_199_0 18 rfl)) (
  jm_gc (pu_istore _ _) (sn_istore (jm_dc dc_199_0 19 rfl)) (
  jm_gc (pu_iload _ _) (sn_iload (jm_dc dc_199_0 20 rfl)) (
  jm_gc (pu_iload _ _) (sn_iload_n (i := 2) (jm_dc dc_199_0 21 rfl)) (
  jm_gc (pu_cge _) (sn_cge (jm_dc dc_199_0 22 rfl) (by decide)) (
  jm_gc (pu_iload _ _) (sn_iload_n (i := 3) (jm_dc dc_199_0 23 rfl)) (
  jm_gc (pu_ifne _) (sn_ifne (jm_dc dc_199_0 24 rfl) (by decide)) (
  jm_gn)))))))))))))))))))))))))
theorem dc_199_1 : ([(35, .aload_n 0, 1), (36, .getfield 28, 3), (39, .iload_n 2, 1), (40, .iaload, 1), (41, .aload_n 0, 1), (42, .getfield 28, 3), (45, .iload 4, 2), (47, .iaload, 1), (48, .if_icmp .ne 23, 3), (51, .aload_n 0, 1), (52, .getfield 31, 3), (55, .iload_n 2, 1), (56, .iaload, 1), (57, .aload_n 0, 1), (58, .getfield 31, 3), (61, .iload 4, 2), (63, .iaload, 1), (64, .if_icmp .ne 7, 3), (67, .iconst 1, 1), (68, .goto 4, 3), (71, .iconst 0, 1), (72, .istore_n 3, 1), (73, .iinc 4 1, 3), (76, .goto (-51), 3), (79, .iload_n 3, 1)] : List (Nat × Instr × Nat)).all (fun e => decide (decode prog_14_method_31_code e.1 = .ok e.2)) = true := by decide +kernel
abbrev cl_199_1 : List (Nat × jm_O) := [(35, op_aload 0 1), (36, op_getA 11 9), (39, op_iload 2 1), (40, op_iald 13), (41, op_aload 0 1), (42, op_getA 11 9), (45, op_iload 4 2), (47, op_iald 13), (48, op_cne 71), (51, op_aload 0 1), (52, op_getA 11 10), (55, op_iload 2 1), (56, op_iald 13), (57, op_aload 0 1), (58, op_getA 11 10), (61, op_iload 4 2), (63, op_iald 13), (64, op_cne 71), (67, op_ic 1 1), (68, op_goto 72), (71, op_ic 0 1), (72, op_istore 3 1), (73, op_iinc 4 1), (76, op_goto 25), (79, op_iload 3 1)]
set_option maxRecDepth 100000 in
theorem gl_199_1 : jm_gl "FrescoWallModel" prog_14_method_31_code 5 (Option.some Jvm.ClassFile.FieldType.boolean) false cl_199_1 :=
  jm_gc (pu_aload _ _) (sn_aload_n (i := 0) (jm_dc dc_199_1 0 rfl)) (
  jm_gc (pu_getA _ _) (sn_getA (jm_dc dc_199_1 1 rfl) fl_11_28 rfl) (
  jm_gc (pu_iload _ _) (sn_iload_n (i := 2) (jm_dc dc_199_1 2 rfl)) (
  jm_gc (pu_iald _) (sn_iald (jm_dc dc_199_1 3 rfl)) (
  jm_gc (pu_aload _ _) (sn_aload_n (i := 0) (jm_dc dc_199_1 4 rfl)) (
  jm_gc (pu_getA _ _) (sn_getA (jm_dc dc_199_1 5 rfl) fl_11_28 rfl) (
  jm_gc (pu_iload _ _) (sn_iload (jm_dc dc_199_1 6 rfl)) (
  jm_gc (pu_iald _) (sn_iald (jm_dc dc_199_1 7 rfl)) (
  jm_gc (pu_cne _) (sn_cne (jm_dc dc_199_1 8 rfl) (by decide)) (
  jm_gc (pu_aload _ _) (sn_aload_n (i := 0) (jm_dc dc_199_1 9 rfl)) (
  jm_gc (pu_getA _ _) (sn_getA (jm_dc dc_199_1 10 rfl) fl_11_31 rfl) (
  jm_gc (pu_iload _ _) (sn_iload_n (i := 2) (jm_dc dc_199_1 11 rfl)) (
  jm_gc (pu_iald _) (sn_iald (jm_dc dc_199_1 12 rfl)) (
  jm_gc (pu_aload _ _) (sn_aload_n (i := 0) (jm_dc dc_199_1 13 rfl)) (
  jm_gc (pu_getA _ _) (sn_getA (jm_dc dc_199_1 14 rfl) fl_11_31 rfl) (
  jm_gc (pu_iload _ _) (sn_iload (jm_dc dc_199_1 15 rfl)) (
  jm_gc (pu_iald _) (sn_iald (jm_dc dc_199_1 16 rfl)) (
  jm_gc (pu_cne _) (sn_cne (jm_dc dc_199_1 17 rfl) (by decide)) (
  jm_gc (pu_ic _ _) (sn_iconst (jm_dc dc_199_1 18 rfl) (by decide)) (
  jm_gc (pu_goto _) (sn_goto (jm_dc dc_199_1 19 rfl) (by decide)) (
  jm_gc (pu_ic _ _) (sn_iconst (jm_dc dc_199_1 20 rfl) (by decide)) (
  jm_gc (pu_istore _ _) (sn_istore_n (i := 3) (jm_dc dc_199_1 21 rfl)) (
  jm_gc (pu_iinc _ _) (sn_iinc (jm_dc dc_199_1 22 rfl) (by decide)) (
  jm_gc (pu_goto _) (sn_goto (jm_dc dc_199_1 23 rfl) (by decide)) (
  jm_gc (pu_iload _ _) (sn_iload_n (i := 3) (jm_dc dc_199_1 24 rfl)) (
  jm_gn)))))))))))))))))))))))))
theorem dc_199_2 : ([(80, .ifCond .ne 23, 3), (83, .aload_n 0, 1), (84, .iload_n 1, 1), (85, .aload_n 0, 1), (86, .getfield 28, 3), (89, .iload_n 2, 1), (90, .iaload, 1), (91, .aload_n 0, 1), (92, .getfield 31, 3), (95, .iload_n 2, 1), (96, .iaload, 1), (97, .invokevirtual 315, 3), (100, .ifCond .ne 5, 3), (103, .iconst 0, 1), (104, .ireturn, 1), (105, .iinc 2 1, 3), (108, .goto (-104), 3), (111, .iconst 1, 1), (112, .ireturn, 1)] : List (Nat × Instr × Nat)).all (fun e => decide (decode prog_14_method_31_code e.1 = .ok e.2)) = true := by decide +kernel
abbrev cl_199_2 : List (Nat × jm_O) := [(80, op_ifne 103), (83, op_aload 0 1), (84, op_iload 1 1), (85, op_aload 0 1), (86, op_getA 11 9), (89, op_iload 2 1), (90, op_iald 13), (91, op_aload 0 1), (92, op_getA 11 10), (95, op_iload 2 1), (96, op_iald 13), (97, op_callV 11 197 4), (100, op_ifne 105), (103, op_ic 0 1), (104, op_zret), (105, op_iinc 2 1), (108, op_goto 4), (111, op_ic 1 1), (112, op_zret)]
set_option maxRecDepth 100000 in
theorem gl_199_2 : jm_gl "FrescoWallModel" prog_14_method_31_code 5 (Option.some Jvm.ClassFile.FieldType.boolean) false cl_199_2 :=
  jm_gc (pu_ifne _) (sn_ifne (jm_dc dc_199_2 0 rfl) (by decide)) (
  jm_gc (pu_aload _ _) (sn_aload_n (i := 0) (jm_dc dc_199_2 1 rfl)) (
  jm_gc (pu_iload _ _) (sn_iload_n (i := 1) (jm_dc dc_199_2 2 rfl)) (
  jm_gc (pu_aload _ _) (sn_aload_n (i := 0) (jm_dc dc_199_2 3 rfl)) (
  jm_gc (pu_getA _ _) (sn_getA (jm_dc dc_199_2 4 rfl) fl_11_28 rfl) (
  jm_gc (pu_iload _ _) (sn_iload_n (i := 2) (jm_dc dc_199_2 5 rfl)) (
  jm_gc (pu_iald _) (sn_iald (jm_dc dc_199_2 6 rfl)) (
  jm_gc (pu_aload _ _) (sn_aload_n (i := 0) (jm_dc dc_199_2 7 rfl)) (
  jm_gc (pu_getA _ _) (sn_getA (jm_dc dc_199_2 8 rfl) fl_11_31 rfl) (
  jm_gc (pu_iload _ _) (sn_iload_n (i := 2) (jm_dc dc_199_2 9 rfl)) (
  jm_gc (pu_iald _) (sn_iald (jm_dc dc_199_2 10 rfl)) (
  jm_gc (pu_callV _ _ _) (sn_callV (jm_dc dc_199_2 11 rfl) lk_11_315) (
  jm_gc (pu_ifne _) (sn_ifne (jm_dc dc_199_2 12 rfl) (by decide)) (
  jm_gc (pu_ic _ _) (sn_iconst (jm_dc dc_199_2 13 rfl) (by decide)) (
  jm_gc (pu_zret) (sn_zret (jm_dc dc_199_2 14 rfl) rfl) (
  jm_gc (pu_iinc _ _) (sn_iinc (jm_dc dc_199_2 15 rfl) (by decide)) (
  jm_gc (pu_goto _) (sn_goto (jm_dc dc_199_2 16 rfl) (by decide)) (
  jm_gc (pu_ic _ _) (sn_iconst (jm_dc dc_199_2 17 rfl) (by decide)) (
  jm_gc (pu_zret) (sn_zret (jm_dc dc_199_2 18 rfl) rfl) (
  jm_gn)))))))))))))))))))
theorem dc_200_0 : ([(0, .iload_n 1, 1), (1, .iconst 1, 1), (2, .bipush 99, 2), (4, .invokestatic 218, 3), (7, .ifCond .eq 22, 3), (10, .iload_n 2, 1), (11, .iconst (-1), 1), (12, .iconst 3, 1), (13, .invokestatic 218, 3), (16, .ifCond .eq 13, 3), (19, .iload_n 3, 1), (20, .iconst 0, 1), (21, .bipush 9, 2), (23, .invokestatic 218, 3), (26, .ifCond .ne 6, 3), (29, .bipush (-2), 2), (31, .ireturn, 1), (32, .aload_n 0, 1), (33, .getfield 215, 3), (36, .bipush 30, 2), (38, .if_icmp .ne 6, 3), (41, .bipush (-4), 2), (43, .ireturn, 1), (44, .aload_n 0, 1), (45, .invokevirtual 318, 3)] : List (Nat × Instr × Nat)).all (fun e => decide (decode prog_14_method_32_code e.1 = .ok e.2)) = true := by decide +kernel
abbrev cl_200_0 : List (Nat × jm_O) := [(0, op_iload 1 1), (1, op_ic 1 1), (2, op_ic 99 2), (4, op_callS 171 3), (7, op_ifeq 29), (10, op_iload 2 1), (11, op_ic (-1) 1), (12, op_ic 3 1), (13, op_callS 171 3), (16, op_ifeq 29), (19, op_iload 3 1), (20, op_ic 0 1), (21, op_ic 9 2), (23, op_callS 171 3), (26, op_ifne 32), (29, op_ic (-2) 2), (31, op_iret), (32, op_aload 0 1), (33, op_getI 11 3), (36, op_ic 30 2), (38, op_cne 44), (41, op_ic (-4) 2), (43, op_iret), (44, op_aload 0 1), (45, op_callV 11 182 1)]
set_option maxRecDepth 100000 in
theorem gl_200_0 : jm_gl "FrescoWallModel" prog_14_method_32_code 5 (Option.some Jvm.ClassFile.FieldType.int) false cl_200_0 :=
  jm_gc (pu_iload _ _) (sn_iload_n (i := 1) (jm_dc dc_200_0 0 rfl)) (
  jm_gc (pu_ic _ _) (sn_iconst (jm_dc dc_200_0 1 rfl) (by decide)) (
  jm_gc (pu_ic _ _) (sn_bipush (jm_dc dc_200_0 2 rfl) (by decide)) (
  jm_gc (pu_callS _ _) (sn_callS (jm_dc dc_200_0 3 rfl) lk_11_218) (
  jm_gc (pu_ifeq _) (sn_ifeq (jm_dc dc_200_0 4 rfl) (by decide)) (
  jm_gc (pu_iload _ _) (sn_iload_n (i := 2) (jm_dc dc_200_0 5 rfl)) (
  jm_gc (pu_ic _ _) (sn_iconst (jm_dc dc_200_0 6 rfl) (by decide)) (
  jm_gc (pu_ic _ _) (sn_iconst (jm_dc dc_200_0 7 rfl) (by decide)) (
  jm_gc (pu_callS _ _) (sn_callS (jm_dc dc_200_0 8 rfl) lk_11_218) (
  jm_gc (pu_ifeq _) (sn_ifeq (jm_dc dc_200_0 9 rfl) (by decide)) (
  jm_gc (pu_iload _ _) (sn_iload_n (i := 3) (jm_dc dc_200_0 10 rfl)) (
  jm_gc (pu_ic _ _) (sn_iconst (jm_dc dc_200_0 11 rfl) (by decide)) (
  jm_gc (pu_ic _ _) (sn_bipush (jm_dc dc_200_0 12 rfl) (by decide)) (
  jm_gc (pu_callS _ _) (sn_callS (jm_dc dc_200_0 13 rfl) lk_11_218) (
  jm_gc (pu_ifne _) (sn_ifne (jm_dc dc_200_0 14 rfl) (by decide)) (
  jm_gc (pu_ic _ _) (sn_bipush (jm_dc dc_200_0 15 rfl) (by decide)) (
  jm_gc (pu_iret) (sn_iret (jm_dc dc_200_0 16 rfl) rfl) (
  jm_gc (pu_aload _ _) (sn_aload_n (i := 0) (jm_dc dc_200_0 17 rfl)) (
  jm_gc (pu_getI _ _) (sn_getI (jm_dc dc_200_0 18 rfl) fl_11_215 (Or.inl rfl)) (
  jm_gc (pu_ic _ _) (sn_bipush (jm_dc dc_200_0 19 rfl) (by decide)) (
  jm_gc (pu_cne _) (sn_cne (jm_dc dc_200_0 20 rfl) (by decide)) (
  jm_gc (pu_ic _ _) (sn_bipush (jm_dc dc_200_0 21 rfl) (by decide)) (
  jm_gc (pu_iret) (sn_iret (jm_dc dc_200_0 22 rfl) rfl) (
  jm_gc (pu_aload _ _) (sn_aload_n (i := 0) (jm_dc dc_200_0 23 rfl)) (
  jm_gc (pu_callV _ _ _) (sn_callV (jm_dc dc_200_0 24 rfl) lk_11_318) (
  jm_gn)))))))))))))))))))))))))
theorem dc_200_1 : ([(48, .aload_n 0, 1), (49, .iconst 0, 1), (50, .putfield 226, 3), (53, .aload_n 0, 1), (54, .getfield 238, 3), (57, .ifCond .eq 11, 3), (60, .bipush (-10), 2), (62, .aload_n 0, 1), (63, .getfield 231, 3), (66, .isub, 1), (67, .ireturn, 1), (68, .aload_n 0, 1), (69, .aload_n 0, 1), (70, .getfield 215, 3), (73, .invokevirtual 321, 3), (76, .ifCond .ne 6, 3), (79, .bipush (-5), 2), (81, .ireturn, 1), (82, .aload_n 0, 1), (83, .aload_n 0, 1), (84, .getfield 215, 3), (87, .invokevirtual 324, 3), (90, .aload_n 0, 1), (91, .aload_n 0, 1), (92, .getfield 215, 3)] : List (Nat × Instr × Nat)).all (fun e => decide (decode prog_14_method_32_code e.1 = .ok e.2)) = true := by decide +kernel
abbrev cl_200_1 : List (Nat × jm_O) := [(48, op_aload 0 1), (49, op_ic 0 1), (50, op_putI 11 2), (53, op_aload 0 1), (54, op_getI 11 41), (57, op_ifeq 68), (60, op_ic (-10) 2), (62, op_aload 0 1), (63, op_getI 11 40), (66, op_ibin (fun x y => x - y)), (67, op_iret), (68, op_aload 0 1), (69, op_aload 0 1), (70, op_getI 11 3), (73, op_callV 11 193 2), (76, op_ifne 82), (79, op_ic (-5) 2), (81, op_iret), (82, op_aload 0 1), (83, op_aload 0 1), (84, op_getI 11 3), (87, op_callV 11 198 2), (90, op_aload 0 1), (91, op_aload 0 1), (92, op_getI 11 3)]
set_option maxRecDepth 100000 in
theorem gl_200_1 : jm_gl "FrescoWallModel" prog_14_method_32_code 5 (Option.some Jvm.ClassFile.FieldType.int) false cl_200_1 :=
  jm_gc (pu_aload _ _) (sn_aload_n (i := 0) (jm_dc dc_200_1 0 rfl)) (
  jm_gc (pu_ic _ _) (sn_iconst (jm_dc dc_200_1 1 rfl) (by decide)) (
  jm_gc (pu_putI _ _) (sn_putI (jm_dc dc_200_1 2 rfl) flw_11_226 rfl) (
  jm_gc (pu_aload _ _) (sn_aload_n (i := 0) (jm_dc dc_200_1 3 rfl)) (
  jm_gc (pu_getI _ _) (sn_getI (jm_dc dc_200_1 4 rfl) fl_11_238 (Or.inr rfl)) (
  jm_gc (pu_ifeq _) (sn_ifeq (jm_dc dc_200_1 5 rfl) (by decide)) (
  jm_gc (pu_ic _ _) (sn_bipush (jm_dc dc_200_1 6 rfl) (by decide)) (
  jm_gc (pu_aload _ _) (sn_aload_n (i := 0) (jm_dc dc_200_1 7 rfl)) (
  jm_gc (pu_getI _ _) (sn_getI (jm_dc dc_200_1 8 rfl) fl_11_231 (Or.inl rfl)) (
  jm_gc (pu_ibin _) (sn_isub (jm_dc dc_200_1 9 rfl)) (
  jm_gc (pu_iret) (sn_iret (jm_dc dc_200_1 10 rfl) rfl) (
  jm_gc (pu_aload _ _) (sn_aload_n (i := 0) (jm_dc dc_200_1 11 rfl)) (
  jm_gc (pu_aload _ _) (sn_aload_n (i := 0) (jm_dc dc_200_1 12 rfl)) (
  jm_gc (pu_getI _ _) (sn_getI (jm_dc dc_200_1 13 rfl) fl_11_215 (Or.inl rfl)) (
  jm_gc (pu_callV _ _ _) (sn_callV (jm_dc dc_200_1 14 rfl) lk_11_321) (
  jm_gc (pu_ifne _) (sn_ifne (jm_dc dc_200_1 15 rfl) (by decide)) (
  jm_gc (pu_ic _ _) (sn_bipush (jm_dc dc_200_1 16 rfl) (by decide)) (
  jm_gc (pu_iret) (sn_iret (jm_dc dc_200_1 17 rfl) rfl) (
  jm_gc (pu_aload _ _) (sn_aload_n (i := 0) (jm_dc dc_200_1 18 rfl)) (
  jm_gc (pu_aload _ _) (sn_aload_n (i := 0) (jm_dc dc_200_1 19 rfl)) (
  jm_gc (pu_getI _ _) (sn_getI (jm_dc dc_200_1 20 rfl) fl_11_215 (Or.inl rfl)) (
  jm_gc (pu_callV _ _ _) (sn_callV (jm_dc dc_200_1 21 rfl) lk_11_324) (
  jm_gc (pu_aload _ _) (sn_aload_n (i := 0) (jm_dc dc_200_1 22 rfl)) (
  jm_gc (pu_aload _ _) (sn_aload_n (i := 0) (jm_dc dc_200_1 23 rfl)) (
  jm_gc (pu_getI _ _) (sn_getI (jm_dc dc_200_1 24 rfl) fl_11_215 (Or.inl rfl)) (
  jm_gn)))))))))))))))))))))))))
theorem dc_200_2 : ([(95, .invokevirtual 327, 3), (98, .ifCond .ne 6, 3), (101, .bipush (-6), 2), (103, .ireturn, 1), (104, .aload_n 0, 1), (105, .getfield 37, 3), (108, .aload_n 0, 1), (109, .getfield 215, 3), (112, .iload_n 1, 1), (113, .iastore, 1), (114, .aload_n 0, 1), (115, .getfield 40, 3), (118, .aload_n 0, 1), (119, .getfield 215, 3), (122, .iload_n 2, 1), (123, .iastore, 1), (124, .aload_n 0, 1), (125, .getfield 43, 3), (128, .aload_n 0, 1), (129, .getfield 215, 3), (132, .iload_n 3, 1), (133, .iastore, 1), (134, .aload_n 0, 1), (135, .getfield 88, 3), (138, .aload_n 0, 1)] : List (Nat × Instr × Nat)).all (fun e => decide (decode prog_14_method_32_code e.1 = .ok e.2)) = true := by decide +kernel
abbrev cl_200_2 : List (Nat × jm_O) := [(95, op_callV 11 199 2), (98, op_ifne 104), (101, op_ic (-6) 2), (103, op_iret), (104, op_aload 0 1), (105, op_getA 11 12), (108, op_aload 0 1), (109, op_getI 11 3), (112, op_iload 1 1), (113, op_iast), (114, op_aload 0 1), (115, op_getA 11 13), (118, op_aload 0 1), (119, op_getI 11 3), (122, op_iload 2 1), (123, op_iast), (124, op_aload 0 1), (125, op_getA 11 14), (128, op_aload 0 1), (129, op_getI 11 3), (132, op_iload 3 1), (133, op_iast), (134, op_aload 0 1), (135, op_getA 11 30), (138, op_aload 0 1)]
set_option maxRecDepth 100000 in
theorem gl_200_2 : jm_gl "FrescoWallModel" prog_14_method_32_code 5 (Option.some Jvm.ClassFile.FieldType.int) false cl_200_2 :=
  jm_gc (pu_callV _ _ _) (sn_callV (jm_dc dc_200_2 0 rfl) lk_11_327) (
  jm_gc (pu_ifne _) (sn_ifne (jm_dc dc_200_2 1 rfl) (by decide)) (
  jm_gc (pu_ic _ _) (sn_bipush (jm_dc dc_200_2 2 rfl) (by decide)) (
  jm_gc (pu_iret) (sn_iret (jm_dc dc_200_2 3 rfl) rfl) (
  jm_gc (pu_aload _ _) (sn_aload_n (i := 0) (jm_dc dc_200_2 4 rfl)) (
  jm_gc (pu_getA _ _) (sn_getA (jm_dc dc_200_2 5 rfl) fl_11_37 rfl) (
  jm_gc (pu_aload _ _) (sn_aload_n (i := 0) (jm_dc dc_200_2 6 rfl)) (
  jm_gc (pu_getI _ _) (sn_getI (jm_dc dc_200_2 7 rfl) fl_11_215 (Or.inl rfl)) (
  jm_gc (pu_iload _ _) (sn_iload_n (i := 1) (jm_dc dc_200_2 8 rfl)) (
  jm_gc (pu_iast) (sn_iast (jm_dc dc_200_2 9 rfl)) (
  jm_gc (pu_aload _ _) (sn_aload_n (i := 0) (jm_dc dc_200_2 10 rfl)) (
  jm_gc (pu_getA _ _) (sn_getA (jm_dc dc_200_2 11 rfl) fl_11_40 rfl) (
  jm_gc (pu_aload _ _) (sn_aload_n (i := 0) (jm_dc dc_200_2 12 rfl)) (
  jm_gc (pu_getI _ _) (sn_getI (jm_dc dc_200_2 13 rfl) fl_11_215 (Or.inl rfl)) (
  jm_gc (pu_iload _ _) (sn_iload_n (i := 2) (jm_dc dc_200_2 14 rfl)) (
  jm_gc (pu_iast) (sn_iast (jm_dc dc_200_2 15 rfl)) (
  jm_gc (pu_aload _ _) (sn_aload_n (i := 0) (jm_dc dc_200_2 16 rfl)) (
  jm_gc (pu_getA _ _) (sn_getA (jm_dc dc_200_2 17 rfl) fl_11_43 rfl) (
  jm_gc (pu_aload _ _) (sn_aload_n (i := 0) (jm_dc dc_200_2 18 rfl)) (
  jm_gc (pu_getI _ _) (sn_getI (jm_dc dc_200_2 19 rfl) fl_11_215 (Or.inl rfl)) (
  jm_gc (pu_iload _ _) (sn_iload_n (i := 3) (jm_dc dc_200_2 20 rfl)) (
  jm_gc (pu_iast) (sn_iast (jm_dc dc_200_2 21 rfl)) (
  jm_gc (pu_aload _ _) (sn_aload_n (i := 0) (jm_dc dc_200_2 22 rfl)) (
  jm_gc (pu_getA _ _) (sn_getA (jm_dc dc_200_2 23 rfl) fl_11_88 rfl) (
  jm_gc (pu_aload _ _) (sn_aload_n (i := 0) (jm_dc dc_200_2 24 rfl)) (
  jm_gn)))))))))))))))))))))))))
theorem dc_200_3 : ([(139, .getfield 215, 3), (142, .iconst 0, 1), (143, .bastore, 1), (144, .aload_n 0, 1), (145, .getfield 91, 3), (148, .aload_n 0, 1), (149, .getfield 215, 3), (152, .iconst 0, 1), (153, .bastore, 1), (154, .aload_n 0, 1), (155, .dup, 1), (156, .getfield 215, 3), (159, .iconst 1, 1), (160, .iadd, 1), (161, .putfield 215, 3), (164, .iconst 0, 1), (165, .istore 4, 2), (167, .iload 4, 2), (169, .aload_n 0, 1), (170, .getfield 215, 3), (173, .iconst 1, 1), (174, .isub, 1), (175, .if_icmp .ge 33, 3), (178, .aload_n 0, 1), (179, .iload 4, 2)] : List (Nat × Instr × Nat)).all (fun e => decide (decode prog_14_method_32_code e.1 = .ok e.2)) = true := by decide +kernel
abbrev cl_200_3 : List (Nat × jm_O) := [(139, op_getI 11 3), (142, op_ic 0 1), (143, op_zast), (144, op_aload 0 1), (145, op_getA 11 31), (148, op_aload 0 1), (149, op_getI 11 3), (152, op_ic 0 1), (153, op_zast), (154, op_aload 0 1), (155, op_dup), (156, op_getI 11 3), (159, op_ic 1 1), (160, op_ibin (fun x y => x + y)), (161, op_putI 11 3), (164, op_ic 0 1), (165, op_istore 4 2), (167, op_iload 4 2), (169, op_aload 0 1), (170, op_getI 11 3), (173, op_ic 1 1), (174, op_ibin (fun x y => x - y)), (175, op_cge 208), (178, op_aload 0 1), (179, op_iload 4 2)]
set_option maxRecDepth 100000 in
theorem gl_200_3 : jm_gl "FrescoWallModel" prog_14_method_32_code 5 (Option.some Jvm.ClassFile.FieldType.int) false cl_200_3 :=
  jm_gc (pu_getI _ _) (sn_getI (jm_dc dc_200_3 0 rfl) fl_11_215 (Or.inl rfl)) (
  jm_gc (pu_ic _ _) (sn_iconst (jm_dc dc_200_3 1 rfl) (by decide)) (
  jm_gc (pu_zast) (sn_zast (jm_dc dc_200_3 2 rfl)) (
  jm_gc (pu_aload _ _) (sn_aload_n (i := 0) (jm_dc dc_200_3 3 rfl)) (
  jm_gc (pu_getA _ _) (sn_getA (jm_dc dc_200_3 4 rfl) fl_11_91 rfl) (
  jm_gc (pu_aload _ _) (sn_aload_n (i := 0) (jm_dc dc_200_3 5 rfl)) (
  jm_gc (pu_getI _ _) (sn_getI (jm_dc dc_200_3 6 rfl) fl_11_215 (Or.inl rfl)) (
  jm_gc (pu_ic _ _) (sn_iconst (jm_dc dc_200_3 7 rfl) (by decide)) (
  jm_gc (pu_zast) (sn_zast (jm_dc dc_200_3 8 rfl)) (
  jm_gc (pu_aload _ _) (sn_aload_n (i := 0) (jm_dc dc_200_3 9 rfl)) (
  jm_gc (pu_dup) (sn_dup (jm_dc dc_200_3 10 rfl)) (
  jm_gc (pu_getI _ _) (sn_getI (jm_dc dc_200_3 11 rfl) fl_11_215 (Or.inl rfl)) (
  jm_gc (pu_ic _ _) (sn_iconst (jm_dc dc_200_3 12 rfl) (by decide)) (
  jm_gc (pu_ibin _) (sn_iadd (jm_dc dc_200_3 13 rfl)) (
  jm_gc (pu_putI _ _) (sn_putI (jm_dc dc_200_3 14 rfl) flw_11_215 rfl) (
  jm_gc (pu_ic _ _) (sn_iconst (jm_dc dc_200_3 15 rfl) (by decide)) (
  jm_gc (pu_istore _ _) (sn_istore (jm_dc dc_200_3 16 rfl)) (
  jm_gc (pu_iload _ _) (sn_iload (jm_dc dc_200_3 17 rfl)) (
  jm_gc (pu_aload _ _) (sn_aload_n (i := 0) (jm_dc dc_200_3 18 rfl)) (
  jm_gc (pu_getI _ _) (sn_getI (jm_dc dc_200_3 19 rfl) fl_11_215 (Or.inl rfl)) (
  jm_gc (pu_ic _ _) (sn_iconst (jm_dc dc_200_3 20 rfl) (by decide)) (
  jm_gc (pu_ibin _) (sn_isub (jm_dc dc_200_3 21 rfl)) (
  jm_gc (pu_cge _) (sn_cge (jm_dc dc_200_3 22 rfl) (by decide)) (
  jm_gc (pu_aload _ _) (sn_aload_n (i := 0) (jm_dc dc_200_3 23 rfl)) (
  jm_gc (pu_iload _ _) (sn_iload (jm_dc dc_200_3 24 rfl)) (
  jm_gn)))))))))))))))))))))))))
theorem dc_200_4 : ([(181, .aload_n 0, 1), (182, .getfield 215, 3), (185, .iconst 1, 1), (186, .isub, 1), (187, .invokevirtual 330, 3), (190, .aload_n 0, 1), (191, .aload_n 0, 1), (192, .getfield 215, 3), (195, .iconst 1, 1), (196, .isub, 1), (197, .iload 4, 2), (199, .invokevirtual 330, 3), (202, .iinc 4 1, 3), (205, .goto (-38), 3), (208, .aload_n 0, 1), (209, .getfield 215, 3), (212, .iconst 1, 1), (213, .isub, 1), (214, .ireturn, 1)] : List (Nat × Instr × Nat)).all (fun e => decide (decode prog_14_method_32_code e.1 = .ok e.2)) = true := by decide +kernel
abbrev cl_200_4 : List (Nat × jm_O) := [(181, op_aload 0 1), (182, op_getI 11 3), (185, op_ic 1 1), (186, op_ibin (fun x y => x - y)), (187, op_callV 11 210 3), (190, op_aload 0 1), (191, op_aload 0 1), (192, op_getI 11 3), (195, op_ic 1 1), (196, op_ibin (fun x y => x - y)), (197, op_iload 4 2), (199, op_callV 11 210 3), (202, op_iinc 4 1), (205, op_goto 167), (208, op_aload 0 1), (209, op_getI 11 3), (212, op_ic 1 1), (213, op_ibin (fun x y => x - y)), (214, op_iret)]
set_option maxRecDepth 100000 in
theorem gl_200_4 : jm_gl "FrescoWallModel" prog_14_method_32_code 5 (Option.some Jvm.ClassFile.FieldType.int) false cl_200_4 :=
  jm_gc (pu_aload _ _) (sn_aload_n (i := 0) (jm_dc dc_200_4 0 rfl)) (
  jm_gc (pu_getI _ _) (sn_getI (jm_dc dc_200_4 1 rfl) fl_11_215 (Or.inl rfl)) (
  jm_gc (pu_ic _ _) (sn_iconst (jm_dc dc_200_4 2 rfl) (by decide)) (
  jm_gc (pu_ibin _) (sn_isub (jm_dc dc_200_4 3 rfl)) (
  jm_gc (pu_callV _ _ _) (sn_callV (jm_dc dc_200_4 4 rfl) lk_11_330) (
  jm_gc (pu_aload _ _) (sn_aload_n (i := 0) (jm_dc dc_200_4 5 rfl)) (
  jm_gc (pu_aload _ _) (sn_aload_n (i := 0) (jm_dc dc_200_4 6 rfl)) (
  jm_gc (pu_getI _ _) (sn_getI (jm_dc dc_200_4 7 rfl) fl_11_215 (Or.inl rfl)) (
  jm_gc (pu_ic _ _) (sn_iconst (jm_dc dc_200_4 8 rfl) (by decide)) (
  jm_gc (pu_ibin _) (sn_isub (jm_dc dc_200_4 9 rfl)) (
  jm_gc (pu_iload _ _) (sn_iload (jm_dc dc_200_4 10 rfl)) (
  jm_gc (pu_callV _ _ _) (sn_callV (jm_dc dc_200_4 11 rfl) lk_11_330) (
  jm_gc (pu_iinc _ _) (sn_iinc (jm_dc dc_200_4 12 rfl) (by decide)) (
  jm_gc (pu_goto _) (sn_goto (jm_dc dc_200_4 13 rfl) (by decide)) (
  jm_gc (pu_aload _ _) (sn_aload_n (i := 0) (jm_dc dc_200_4 14 rfl)) (
  jm_gc (pu_getI _ _) (sn_getI (jm_dc dc_200_4 15 rfl) fl_11_215 (Or.inl rfl)) (
  jm_gc (pu_ic _ _) (sn_iconst (jm_dc dc_200_4 16 rfl) (by decide)) (
  jm_gc (pu_ibin _) (sn_isub (jm_dc dc_200_4 17 rfl)) (
  jm_gc (pu_iret) (sn_iret (jm_dc dc_200_4 18 rfl) rfl) (
  jm_gn)))))))))))))))))))
theorem dc_201_0 : ([(0, .aload_n 0, 1), (1, .iload_n 1, 1), (2, .invokevirtual 222, 3), (5, .ifCond .ne 7, 3), (8, .ldc_w 334, 3), (11, .ireturn, 1), (12, .iload_n 2, 1), (13, .tableswitch 92 0 6 #[43, 50, 57, 64, 71, 78, 85], 43), (56, .aload_n 0, 1), (57, .getfield 13, 3), (60, .iload_n 1, 1), (61, .iaload, 1), (62, .ireturn, 1), (63, .aload_n 0, 1), (64, .getfield 49, 3), (67, .iload_n 1, 1), (68, .iaload, 1), (69, .ireturn, 1), (70, .aload_n 0, 1), (71, .getfield 46, 3), (74, .iload_n 1, 1), (75, .iaload, 1), (76, .ireturn, 1), (77, .aload_n 0, 1), (78, .getfield 25, 3)] : List (Nat × Instr × Nat)).all (fun e => decide (decode prog_14_method_33_code e.1 = .ok e.2)) = true := by decide +kernel
abbrev cl_201_0 : List (Nat × jm_O) := [(0, op_aload 0 1), (1, op_iload 1 1), (2, op_callV 11 172 2), (5, op_ifne 12), (8, op_ic (-100000) 3), (11, op_iret), (12, op_iload 2 1), (13, op_sw 105 [(0, 56), (1, 63), (2, 70), (3, 77), (4, 84), (5, 91), (6, 98)]), (56, op_aload 0 1), (57, op_getA 11 4), (60, op_iload 1 1), (61, op_iald 13), (62, op_iret), (63, op_aload 0 1), (64, op_getA 11 16), (67, op_iload 1 1), (68, op_iald 13), (69, op_iret), (70, op_aload 0 1), (71, op_getA 11 15), (74, op_iload 1 1), (75, op_iald 13), (76, op_iret), (77, op_aload 0 1), (78, op_getA 11 8)]
set_option maxRecDepth 100000 in
theorem gl_201_0 : jm_gl "FrescoWallModel" prog_14_method_33_code 3 (Option.some Jvm.ClassFile.FieldType.int) false cl_201_0 :=
  jm_gc (pu_aload _ _) (sn_aload_n (i := 0) (jm_dc dc_201_0 0 rfl)) (
  jm_gc (pu_iload _ _) (sn_iload_n (i := 1) (jm_dc dc_201_0 1 rfl)) (
  jm_gc (pu_callV _ _ _) (sn_callV (jm_dc dc_201_0 2 rfl) lk_11_222) (
  jm_gc (pu_ifne _) (sn_ifne (jm_dc dc_201_0 3 rfl) (by decide)) (
  jm_gc (pu_ic _ _) (sn_ldcw (jm_dc dc_201_0 4 rfl) (kc_tb 1700 (by decide +kernel))) (
  jm_gc (pu_iret) (sn_iret (jm_dc dc_201_0 5 rfl) rfl) (
  jm_gc (pu_iload _ _) (sn_iload_n (i := 2) (jm_dc dc_201_0 6 rfl)) (
  jm_gc (pu_sw _ _) (sn_tsw (jm_dc dc_201_0 7 rfl) (by decide) (by decide) (by decide)) (
  jm_gc (pu_aload _ _) (sn_aload_n (i := 0) (jm_dc dc_201_0 8 rfl)) (
  jm_gc (pu_getA _ _) (sn_getA (jm_dc dc_201_0 9 rfl) fl_11_13 rfl) (
  jm_gc (pu_iload _ _) (sn_iload_n (i := 1) (jm_dc dc_201_0 10 rfl)) (
  jm_gc (pu_iald _) (sn_iald (jm_dc dc_201_0 11 rfl)) (
  jm_gc (pu_iret) (sn_iret (jm_dc dc_201_0 12 rfl) rfl) (
  jm_gc (pu_aload _ _) (sn_aload_n (i := 0) (jm_dc dc_201_0 13 rfl)) (
  jm_gc (pu_getA _ _) (sn_getA (jm_dc dc_201_0 14 rfl) fl_11_49 rfl) (
  jm_gc (pu_iload _ _) (sn_iload_n (i := 1) (jm_dc dc_201_0 15 rfl)) (
  jm_gc (pu_iald _) (sn_iald (jm_dc dc_201_0 16 rfl)) (
  jm_gc (pu_iret) (sn_iret (jm_dc dc_201_0 17 rfl) rfl) (
  jm_gc (pu_aload _ _) (sn_aload_n (i := 0) (jm_dc dc_201_0 18 rfl)) (
  jm_gc (pu_getA _ _) (sn_getA (jm_dc dc_201_0 19 rfl) fl_11_46 rfl) (
  jm_gc (pu_iload _ _) (sn_iload_n (i := 1) (jm_dc dc_201_0 20 rfl)) (
  jm_gc (pu_iald _) (sn_iald (jm_dc dc_201_0 21 rfl)) (
  jm_gc (pu_iret) (sn_iret (jm_dc dc_201_0 22 rfl) rfl) (
  jm_gc (pu_aload _ _) (sn_aload_n (i := 0) (jm_dc dc_201_0 23 rfl)) (
  jm_gc (pu_getA _ _) (sn_getA (jm_dc dc_201_0 24 rfl) fl_11_25 rfl) (
  jm_gn)))))))))))))))))))))))))
theorem dc_201_1 : ([(81, .iload_n 1, 1), (82, .iaload, 1), (83, .ireturn, 1), (84, .aload_n 0, 1), (85, .getfield 37, 3), (88, .iload_n 1, 1), (89, .iaload, 1), (90, .ireturn, 1), (91, .aload_n 0, 1), (92, .getfield 40, 3), (95, .iload_n 1, 1), (96, .iaload, 1), (97, .ireturn, 1), (98, .aload_n 0, 1), (99, .getfield 43, 3), (102, .iload_n 1, 1), (103, .iaload, 1), (104, .ireturn, 1), (105, .ldc_w 334, 3), (108, .ireturn, 1)] : List (Nat × Instr × Nat)).all (fun e => decide (decode prog_14_method_33_code e.1 = .ok e.2)) = true := by decide +kernel
abbrev cl_201_1 : List (Nat × jm_O) := [(81, op_iload 1 1), (82, op_iald 13), (83, op_iret), (84, op_aload 0 1), (85, op_getA 11 12), (88, op_iload 1 1), (89, op_iald 13), (90, op_iret), (91, op_aload 0 1), (92, op_getA 11 13), (95, op_iload 1 1), (96, op_iald 13), (97, op_iret), (98, op_aload 0 1), (99, op_getA 11 14), (102, op_iload 1 1), (103, op_iald 13), (104, op_iret), (105, op_ic (-100000) 3), (108, op_iret)]
set_option maxRecDepth 100000 in
theorem gl_201_1 : jm_gl "FrescoWallModel" prog_14_method_33_code 3 (Option.some Jvm.ClassFile.FieldType.int) false cl_201_1 :=
  jm_gc (pu_iload _ _) (sn_iload_n (i := 1) (jm_dc dc_201_1 0 rfl)) (
  jm_gc (pu_iald _) (sn_iald (jm_dc dc_201_1 1 rfl)) (
  jm_gc (pu_iret) (sn_iret (jm_dc dc_201_1 2 rfl) rfl) (
  jm_gc (pu_aload _ _) (sn_aload_n (i := 0) (jm_dc dc_201_1 3 rfl)) (
  jm_gc (pu_getA _ _) (sn_getA (jm_dc dc_201_1 4 rfl) fl_11_37 rfl) (
  jm_gc (pu_iload _ _) (sn_iload_n (i := 1) (jm_dc dc_201_1 5 rfl)) (
  jm_gc (pu_iald _) (sn_iald (jm_dc dc_201_1 6 rfl)) (
  jm_gc (pu_iret) (sn_iret (jm_dc dc_201_1 7 rfl) rfl) (
  jm_gc (pu_aload _ _) (sn_aload_n (i := 0) (jm_dc dc_201_1 8 rfl)) (
  jm_gc (pu_getA _ _) (sn_getA (jm_dc dc_201_1 9 rfl) fl_11_40 rfl) (
  jm_gc (pu_iload _ _) (sn_iload_n (i := 1) (jm_dc dc_201_1 10 rfl)) (
  jm_gc (pu_iald _) (sn_iald (jm_dc dc_201_1 11 rfl)) (
  jm_gc (pu_iret) (sn_iret (jm_dc dc_201_1 12 rfl) rfl) (
  jm_gc (pu_aload _ _) (sn_aload_n (i := 0) (jm_dc dc_201_1 13 rfl)) (
  jm_gc (pu_getA _ _) (sn_getA (jm_dc dc_201_1 14 rfl) fl_11_43 rfl) (
  jm_gc (pu_iload _ _) (sn_iload_n (i := 1) (jm_dc dc_201_1 15 rfl)) (
  jm_gc (pu_iald _) (sn_iald (jm_dc dc_201_1 16 rfl)) (
  jm_gc (pu_iret) (sn_iret (jm_dc dc_201_1 17 rfl) rfl) (
  jm_gc (pu_ic _ _) (sn_ldcw (jm_dc dc_201_1 18 rfl) (kc_tb 1700 (by decide +kernel))) (
  jm_gc (pu_iret) (sn_iret (jm_dc dc_201_1 19 rfl) rfl) (
  jm_gn))))))))))))))))))))
theorem dc_202_0 : ([(0, .aload_n 0, 1), (1, .iload_n 1, 1), (2, .iload_n 2, 1), (3, .invokevirtual 335, 3), (6, .ifCond .ne 7, 3), (9, .ldc_w 334, 3), (12, .ireturn, 1), (13, .bipush 8, 2), (15, .iload_n 1, 1), (16, .imul, 1), (17, .iload_n 2, 1), (18, .iadd, 1), (19, .istore 4, 2), (21, .iload_n 3, 1), (22, .ifCond .ne 13, 3), (25, .aload_n 0, 1), (26, .getfield 16, 3), (29, .iload 4, 2), (31, .iaload, 1), (32, .goto 36, 3), (35, .iload_n 3, 1), (36, .iconst 1, 1), (37, .if_icmp .ne 13, 3), (40, .aload_n 0, 1), (41, .getfield 19, 3)] : List (Nat × Instr × Nat)).all (fun e => decide (decode prog_14_method_34_code e.1 = .ok e.2)) = true := by decide +kernel
abbrev cl_202_0 : List (Nat × jm_O) := [(0, op_aload 0 1), (1, op_iload 1 1), (2, op_iload 2 1), (3, op_callV 11 173 3), (6, op_ifne 13), (9, op_ic (-100000) 3), (12, op_iret), (13, op_ic 8 2), (15, op_iload 1 1), (16, op_ibin (fun x y => x * y)), (17, op_iload 2 1), (18, op_ibin (fun x y => x + y)), (19, op_istore 4 2), (21, op_iload 3 1), (22, op_ifne 35), (25, op_aload 0 1), (26, op_getA 11 5), (29, op_iload 4 2), (31, op_iald 13), (32, op_goto 68), (35, op_iload 3 1), (36, op_ic 1 1), (37, op_cne 50), (40, op_aload 0 1), (41, op_getA 11 6)]
set_option maxRecDepth 100000 in
theorem gl_202_0 : jm_gl "FrescoWallModel" prog_14_method_34_code 5 (Option.some Jvm.ClassFile.FieldType.int) false cl_202_0 :=
  jm_gc (pu_aload _ _) (sn_aload_n (i := 0) (jm_dc dc_202_0 0 rfl)) (
  jm_gc (pu_iload _ _) (sn_iload_n (i := 1) (jm_dc dc_202_0 1 rfl)) (
  jm_gc (pu_iload _ _) (sn_iload_n (i := 2) (jm_dc dc_202_0 2 rfl)) (
  jm_gc (pu_callV _ _ _) (sn_callV (jm_dc dc_202_0 3 rfl) lk_11_335) (
  jm_gc (pu_ifne _) (sn_ifne (jm_dc dc_202_0 4 rfl) (by decide)) (
  jm_gc (pu_ic _ _) (sn_ldcw (jm_dc dc_202_0 5 rfl) (kc_tb 1700 (by decide +kernel))) (
  jm_gc (pu_iret) (sn_iret (jm_dc dc_202_0 6 rfl) rfl) (
  jm_gc (pu_ic _ _) (sn_bipush (jm_dc dc_202_0 7 rfl) (by decide)) (
  jm_gc (pu_iload _ _) (sn_iload_n (i := 1) (jm_dc dc_202_0 8 rfl)) (
  jm_gc (pu_ibin _) (sn_imul (jm_dc dc_202_0 9 rfl)) (
  jm_gc (pu_iload _ _) (sn_iload_n (i := 2) (jm_dc dc_202_0 10 rfl)) (
  jm_gc (pu_ibin _) (sn_iadd (jm_dc dc_202_0 11 rfl)) (
  jm_gc (pu_istore _ _) (sn_istore (jm_dc dc_202_0 12 rfl)) (
  jm_gc (pu_iload _ _) (sn_iload_n (i := 3) (jm_dc dc_202_0 13 rfl)) (
  jm_gc (pu_ifne _) (sn_ifne (jm_dc dc_202_0 14 rfl) (by decide)) (
  jm_gc (pu_aload _ _) (sn_aload_n (i := 0) (jm_dc dc_202_0 15 rfl)) (
  jm_gc (pu_getA _ _) (sn_getA (jm_dc dc_202_0 16 rfl) fl_11_16 rfl) (
  jm_gc (pu_iload _ _) (sn_iload (jm_dc dc_202_0 17 rfl)) (
  jm_gc (pu_iald _) (sn_iald (jm_dc dc_202_0 18 rfl)) (
  jm_gc (pu_goto _) (sn_goto (jm_dc dc_202_0 19 rfl) (by decide)) (
  jm_gc (pu_iload _ _) (sn_iload_n (i := 3) (jm_dc dc_202_0 20 rfl)) (
  jm_gc (pu_ic _ _) (sn_iconst (jm_dc dc_202_0 21 rfl) (by decide)) (
  jm_gc (pu_cne _) (sn_cne (jm_dc dc_202_0 22 rfl) (by decide)) (
  jm_gc (pu_aload _ _) (sn_aload_n (i := 0) (jm_dc dc_202_0 23 rfl)) (
  jm_gc (pu_getA _ _) (sn_getA (jm_dc dc_202_0 24 rfl) fl_11_19 rfl) (
  jm_gn)))))))))))))))))))))))))
theorem dc_202_1 : ([(44, .iload 4, 2), (46, .iaload, 1), (47, .goto 21, 3), (50, .iload_n 3, 1), (51, .iconst 2, 1), (52, .if_icmp .ne 13, 3), (55, .aload_n 0, 1), (56, .getfield 22, 3), (59, .iload 4, 2), (61, .iaload, 1), (62, .goto 6, 3), (65, .ldc_w 334, 3), (68, .ireturn, 1)] : List (Nat × Instr × Nat)).all (fun e => decide (decode prog_14_method_34_code e.1 = .ok e.2)) = true := by decide +kernel
abbrev cl_202_1 : List (Nat × jm_O) := [(44, op_iload 4 2), (46, op_iald 13), (47, op_goto 68), (50, op_iload 3 1), (51, op_ic 2 1), (52, op_cne 65), (55, op_aload 0 1), (56, op_getA 11 7), (59, op_iload 4 2), (61, op_iald 13), (62, op_goto 68), (65, op_ic (-100000) 3), (68, op_iret)]
set_option maxRecDepth 100000 in
theorem gl_202_1 : jm_gl "FrescoWallModel" prog_14_method_34_code 5 (Option.some Jvm.ClassFile.FieldType.int) false cl_202_1 :=
  jm_gc (pu_iload _ _) (sn_iload (jm_dc dc_202_1 0 rfl)) (
  jm_gc (pu_iald _) (sn_iald (jm_dc dc_202_1 1 rfl)) (
  jm_gc (pu_goto _) (sn_goto (jm_dc dc_202_1 2 rfl) (by decide)) (
  jm_gc (pu_iload _ _) (sn_iload_n (i := 3) (jm_dc dc_202_1 3 rfl)) (
  jm_gc (pu_ic _ _) (sn_iconst (jm_dc dc_202_1 4 rfl) (by decide)) (
  jm_gc (pu_cne _) (sn_cne (jm_dc dc_202_1 5 rfl) (by decide)) (
  jm_gc (pu_aload _ _) (sn_aload_n (i := 0) (jm_dc dc_202_1 6 rfl)) (
  jm_gc (pu_getA _ _) (sn_getA (jm_dc dc_202_1 7 rfl) fl_11_22 rfl) (
  jm_gc (pu_iload _ _) (sn_iload (jm_dc dc_202_1 8 rfl)) (
  jm_gc (pu_iald _) (sn_iald (jm_dc dc_202_1 9 rfl)) (
  jm_gc (pu_goto _) (sn_goto (jm_dc dc_202_1 10 rfl) (by decide)) (
  jm_gc (pu_ic _ _) (sn_ldcw (jm_dc dc_202_1 11 rfl) (kc_tb 1700 (by decide +kernel))) (
  jm_gc (pu_iret) (sn_iret (jm_dc dc_202_1 12 rfl) rfl) (
  jm_gn)))))))))))))
theorem dc_203_0 : ([(0, .iload_n 0, 1), (1, .ifCond .ne 7, 3), (4, .iload_n 1, 1), (5, .goto 24, 3), (8, .iload_n 0, 1), (9, .iconst 1, 1), (10, .if_icmp .ne 8, 3), (13, .iload_n 2, 1), (14, .ineg, 1), (15, .goto 14, 3), (18, .iload_n 0, 1), (19, .iconst 2, 1), (20, .if_icmp .ne 8, 3), (23, .iload_n 1, 1), (24, .ineg, 1), (25, .goto 4, 3), (28, .iload_n 2, 1), (29, .ireturn, 1)] : List (Nat × Instr × Nat)).all (fun e => decide (decode prog_14_method_35_code e.1 = .ok e.2)) = true := by decide +kernel
abbrev cl_203_0 : List (Nat × jm_O) := [(0, op_iload 0 1), (1, op_ifne 8), (4, op_iload 1 1), (5, op_goto 29), (8, op_iload 0 1), (9, op_ic 1 1), (10, op_cne 18), (13, op_iload 2 1), (14, op_iun (fun x => -x)), (15, op_goto 29), (18, op_iload 0 1), (19, op_ic 2 1), (20, op_cne 28), (23, op_iload 1 1), (24, op_iun (fun x => -x)), (25, op_goto 29), (28, op_iload 2 1), (29, op_iret)]
set_option maxRecDepth 100000 in
theorem gl_203_0 : jm_gl "FrescoWallModel" prog_14_method_35_code 3 (Option.some Jvm.ClassFile.FieldType.int) false cl_203_0 :=
  jm_gc (pu_iload _ _) (sn_iload_n (i := 0) (jm_dc dc_203_0 0 rfl)) (
  jm_gc (pu_ifne _) (sn_ifne (jm_dc dc_203_0 1 rfl) (by decide)) (
  jm_gc (pu_iload _ _) (sn_iload_n (i := 1) (jm_dc dc_203_0 2 rfl)) (
  jm_gc (pu_goto _) (sn_goto (jm_dc dc_203_0 3 rfl) (by decide)) (
  jm_gc (pu_iload _ _) (sn_iload_n (i := 0) (jm_dc dc_203_0 4 rfl)) (
  jm_gc (pu_ic _ _) (sn_iconst (jm_dc dc_203_0 5 rfl) (by decide)) (
  jm_gc (pu_cne _) (sn_cne (jm_dc dc_203_0 6 rfl) (by decide)) (
  jm_gc (pu_iload _ _) (sn_iload_n (i := 2) (jm_dc dc_203_0 7 rfl)) (
  jm_gc (pu_iun _) (sn_ineg (jm_dc dc_203_0 8 rfl)) (
  jm_gc (pu_goto _) (sn_goto (jm_dc dc_203_0 9 rfl) (by decide)) (
  jm_gc (pu_iload _ _) (sn_iload_n (i := 0) (jm_dc dc_203_0 10 rfl)) (
  jm_gc (pu_ic _ _) (sn_iconst (jm_dc dc_203_0 11 rfl) (by decide)) (
  jm_gc (pu_cne _) (sn_cne (jm_dc dc_203_0 12 rfl) (by decide)) (
  jm_gc (pu_iload _ _) (sn_iload_n (i := 1) (jm_dc dc_203_0 13 rfl)) (
  jm_gc (pu_iun _) (sn_ineg (jm_dc dc_203_0 14 rfl)) (
  jm_gc (pu_goto _) (sn_goto (jm_dc dc_203_0 15 rfl) (by decide)) (
  jm_gc (pu_iload _ _) (sn_iload_n (i := 2) (jm_dc dc_203_0 16 rfl)) (
  jm_gc (pu_iret) (sn_iret (jm_dc dc_203_0 17 rfl) rfl) (
  jm_gn))))))))))))))))))
theorem dc_204_0 : ([(0, .iload_n 0, 1), (1, .ifCond .ne 7, 3), (4, .iload_n 2, 1), (5, .goto 24, 3), (8, .iload_n 0, 1), (9, .iconst 1, 1), (10, .if_icmp .ne 7, 3), (13, .iload_n 1, 1), (14, .goto 15, 3), (17, .iload_n 0, 1), (18, .iconst 2, 1), (19, .if_icmp .ne 8, 3), (22, .iload_n 2, 1), (23, .ineg, 1), (24, .goto 5, 3), (27, .iload_n 1, 1), (28, .ineg, 1), (29, .ireturn, 1)] : List (Nat × Instr × Nat)).all (fun e => decide (decode prog_14_method_36_code e.1 = .ok e.2)) = true := by decide +kernel
abbrev cl_204_0 : List (Nat × jm_O) := [(0, op_iload 0 1), (1, op_ifne 8), (4, op_iload 2 1), (5, op_goto 29), (8, op_iload 0 1), (9, op_ic 1 1), (10, op_cne 17), (13, op_iload 1 1), (14, op_goto 29), (17, op_iload 0 1), (18, op_ic 2 1), (19, op_cne 27), (22, op_iload 2 1), (23, op_iun (fun x => -x)), (24, op_goto 29), (27, op_iload 1 1), (28, op_iun (fun x => -x)), (29, op_iret)]
set_option maxRecDepth 100000 in
theorem gl_204_0 : jm_gl "FrescoWallModel" prog_14_method_36_code 3 (Option.some Jvm.ClassFile.FieldType.int) false cl_204_0 :=
  jm_gc (pu_iload _ _) (sn_iload_n (i := 0) (jm_dc dc_204_0 0 rfl)) (
  jm_gc (pu_ifne _) (sn_ifne (jm_dc dc_204_0 1 rfl) (by decide)) (
  jm_gc (pu_iload _ _) (sn_iload_n (i := 2) (jm_dc dc_204_0 2 rfl)) (
  jm_gc (pu_goto _) (sn_goto (jm_dc dc_204_0 3 rfl) (by decide)) (
  jm_gc (pu_iload _ _) (sn_iload_n (i := 0) (jm_dc dc_204_0 4 rfl)) (
  jm_gc (pu_ic _ _) (sn_iconst (jm_dc dc_204_0 5 rfl) (by decide)) (
  jm_gc (pu_cne _) (sn_cne (jm_dc dc_204_0 6 rfl) (by decide)) (
  jm_gc (pu_iload _ _) (sn_iload_n (i := 1) (jm_dc dc_204_0 7 rfl)) (
  jm_gc (pu_goto _) (sn_goto (jm_dc dc_204_0 8 rfl) (by decide)) (
  jm_gc (pu_iload _ _) (sn_iload_n (i := 0) (jm_dc dc_204_0 9 rfl)) (
  jm_gc (pu_ic _ _) (sn_iconst (jm_dc dc_204_0 10 rfl) (by decide)) (
  jm_gc (pu_cne _) (sn_cne (jm_dc dc_204_0 11 rfl) (by decide)) (
  jm_gc (pu_iload _ _) (sn_iload_n (i := 2) (jm_dc dc_204_0 12 rfl)) (
  jm_gc (pu_iun _) (sn_ineg (jm_dc dc_204_0 13 rfl)) (
  jm_gc (pu_goto _) (sn_goto (jm_dc dc_204_0 14 rfl) (by decide)) (
  jm_gc (pu_iload _ _) (sn_iload_n (i := 1) (jm_dc dc_204_0 15 rfl)) (
  jm_gc (pu_iun _) (sn_ineg (jm_dc dc_204_0 16 rfl)) (
  jm_gc (pu_iret) (sn_iret (jm_dc dc_204_0 17 rfl) rfl) (
  jm_gn))))))))))))))))))
theorem dc_205_0 : ([(0, .iload_n 0, 1), (1, .iload_n 1, 1), (2, .iload_n 2, 1), (3, .invokestatic 338, 3), (6, .iload_n 0, 1), (7, .iconst 1, 1), (8, .if_icmp .eq 8, 3), (11, .iload_n 0, 1), (12, .iconst 2, 1), (13, .if_icmp .ne 7, 3), (16, .iconst 1, 1), (17, .goto 4, 3), (20, .iconst 0, 1), (21, .isub, 1), (22, .ireturn, 1)] : List (Nat × Instr × Nat)).all (fun e => decide (decode prog_14_method_37_code e.1 = .ok e.2)) = true := by decide +kernel
abbrev cl_205_0 : List (Nat × jm_O) := [(0, op_iload 0 1), (1, op_iload 1 1), (2, op_iload 2 1), (3, op_callS 203 3), (6, op_iload 0 1), (7, op_ic 1 1), (8, op_ceq 16), (11, op_iload 0 1), (12, op_ic 2 1), (13, op_cne 20), (16, op_ic 1 1), (17, op_goto 21), (20, op_ic 0 1), (21, op_ibin (fun x y => x - y)), (22, op_iret)]
set_option maxRecDepth 100000 in
theorem gl_205_0 : jm_gl "FrescoWallModel" prog_14_method_37_code 3 (Option.some Jvm.ClassFile.FieldType.int) false cl_205_0 :=
  jm_gc (pu_iload _ _) (sn_iload_n (i := 0) (jm_dc dc_205_0 0 rfl)) (
  jm_gc (pu_iload _ _) (sn_iload_n (i := 1) (jm_dc dc_205_0 1 rfl)) (
  jm_gc (pu_iload _ _) (sn_iload_n (i := 2) (jm_dc dc_205_0 2 rfl)) (
  jm_gc (pu_callS _ _) (sn_callS (jm_dc dc_205_0 3 rfl) lk_11_338) (
  jm_gc (pu_iload _ _) (sn_iload_n (i := 0) (jm_dc dc_205_0 4 rfl)) (
  jm_gc (pu_ic _ _) (sn_iconst (jm_dc dc_205_0 5 rfl) (by decide)) (
  jm_gc (pu_ceq _) (sn_ceq (jm_dc dc_205_0 6 rfl) (by decide)) (
  jm_gc (pu_iload _ _) (sn_iload_n (i := 0) (jm_dc dc_205_0 7 rfl)) (
  jm_gc (pu_ic _ _) (sn_iconst (jm_dc dc_205_0 8 rfl) (by decide)) (
  jm_gc (pu_cne _) (sn_cne (jm_dc dc_205_0 9 rfl) (by decide)) (
  jm_gc (pu_ic _ _) (sn_iconst (jm_dc dc_205_0 10 rfl) (by decide)) (
  jm_gc (pu_goto _) (sn_goto (jm_dc dc_205_0 11 rfl) (by decide)) (
  jm_gc (pu_ic _ _) (sn_iconst (jm_dc dc_205_0 12 rfl) (by decide)) (
  jm_gc (pu_ibin _) (sn_isub (jm_dc dc_205_0 13 rfl)) (
  jm_gc (pu_iret) (sn_iret (jm_dc dc_205_0 14 rfl) rfl) (
  jm_gn)))))))))))))))
theorem dc_206_0 : ([(0, .iload_n 0, 1), (1, .iload_n 1, 1), (2, .iload_n 2, 1), (3, .invokestatic 341, 3), (6, .iload_n 0, 1), (7, .iconst 2, 1), (8, .if_icmp .eq 8, 3), (11, .iload_n 0, 1), (12, .iconst 3, 1), (13, .if_icmp .ne 7, 3), (16, .iconst 1, 1), (17, .goto 4, 3), (20, .iconst 0, 1), (21, .isub, 1), (22, .ireturn, 1)] : List (Nat × Instr × Nat)).all (fun e => decide (decode prog_14_method_38_code e.1 = .ok e.2)) = true := by decide +kernel
abbrev cl_206_0 : List (Nat × jm_O) := [(0, op_iload 0 1), (1, op_iload 1 1), (2, op_iload 2 1), (3, op_callS 204 3), (6, op_iload 0 1), (7, op_ic 2 1), (8, op_ceq 16), (11, op_iload 0 1), (12, op_ic 3 1), (13, op_cne 20), (16, op_ic 1 1), (17, op_goto 21), (20, op_ic 0 1), (21, op_ibin (fun x y => x - y)), (22, op_iret)]
set_option maxRecDepth 100000 in
theorem gl_206_0 : jm_gl "FrescoWallModel" prog_14_method_38_code 3 (Option.some Jvm.ClassFile.FieldType.int) false cl_206_0 :=
  jm_gc (pu_iload _ _) (sn_iload_n (i := 0) (jm_dc dc_206_0 0 rfl)) (
  jm_gc (pu_iload _ _) (sn_iload_n (i := 1) (jm_dc dc_206_0 1 rfl)) (
  jm_gc (pu_iload _ _) (sn_iload_n (i := 2) (jm_dc dc_206_0 2 rfl)) (
  jm_gc (pu_callS _ _) (sn_callS (jm_dc dc_206_0 3 rfl) lk_11_341) (
  jm_gc (pu_iload _ _) (sn_iload_n (i := 0) (jm_dc dc_206_0 4 rfl)) (
  jm_gc (pu_ic _ _) (sn_iconst (jm_dc dc_206_0 5 rfl) (by decide)) (
  jm_gc (pu_ceq _) (sn_ceq (jm_dc dc_206_0 6 rfl) (by decide)) (
  jm_gc (pu_iload _ _) (sn_iload_n (i := 0) (jm_dc dc_206_0 7 rfl)) (
  jm_gc (pu_ic _ _) (sn_iconst (jm_dc dc_206_0 8 rfl) (by decide)) (
  jm_gc (pu_cne _) (sn_cne (jm_dc dc_206_0 9 rfl) (by decide)) (
  jm_gc (pu_ic _ _) (sn_iconst (jm_dc dc_206_0 10 rfl) (by decide)) (
  jm_gc (pu_goto _) (sn_goto (jm_dc dc_206_0 11 rfl) (by decide)) (
  jm_gc (pu_ic _ _) (sn_iconst (jm_dc dc_206_0 12 rfl) (by decide)) (
  jm_gc (pu_ibin _) (sn_isub (jm_dc dc_206_0 13 rfl)) (
  jm_gc (pu_iret) (sn_iret (jm_dc dc_206_0 14 rfl) rfl) (
  jm_gn)))))))))))))))
theorem dc_207_0 : ([(0, .iconst 0, 1), (1, .istore 6, 2), (3, .sipush 1600, 3), (6, .iload_n 2, 1), (7, .imul, 1), (8, .istore 7, 2), (10, .iload 7, 2), (12, .sipush 1600, 3), (15, .iload_n 2, 1), (16, .imul, 1), (17, .aload_n 0, 1), (18, .getfield 46, 3), (21, .iload_n 2, 1), (22, .iaload, 1), (23, .iadd, 1), (24, .if_icmp .ge 69, 3), (27, .iload 6, 2), (29, .aload_n 0, 1), (30, .iload_n 1, 1), (31, .iload_n 3, 1), (32, .aload_n 0, 1), (33, .getfield 53, 3), (36, .iload 7, 2), (38, .iaload, 1), (39, .aload_n 0, 1)] : List (Nat × Instr × Nat)).all (fun e => decide (decode prog_14_method_39_code e.1 = .ok e.2)) = true := by decide +kernel
abbrev cl_207_0 : List (Nat × jm_O) := [(0, op_ic 0 1), (1, op_istore 6 2), (3, op_ic 1600 3), (6, op_iload 2 1), (7, op_ibin (fun x y => x * y)), (8, op_istore 7 2), (10, op_iload 7 2), (12, op_ic 1600 3), (15, op_iload 2 1), (16, op_ibin (fun x y => x * y)), (17, op_aload 0 1), (18, op_getA 11 15), (21, op_iload 2 1), (22, op_iald 13), (23, op_ibin (fun x y => x + y)), (24, op_cge 93), (27, op_iload 6 2), (29, op_aload 0 1), (30, op_iload 1 1), (31, op_iload 3 1), (32, op_aload 0 1), (33, op_getA 11 17), (36, op_iload 7 2), (38, op_iald 13), (39, op_aload 0 1)]
set_option maxRecDepth 100000 in
theorem gl_207_0 : jm_gl "FrescoWallModel" prog_14_method_39_code 8 (Option.some Jvm.ClassFile.FieldType.int) false cl_207_0 :=
  jm_gc (pu_ic _ _) (sn_iconst (jm_dc dc_207_0 0 rfl) (by decide)) (
  jm_gc (pu_istore _ _) (sn_istore (jm_dc dc_207_0 1 rfl)) (
  jm_gc (pu_ic _ _) (sn_sipush (jm_dc dc_207_0 2 rfl) (by decide)) (
  jm_gc (pu_iload _ _) (sn_iload_n (i := 2) (jm_dc dc_207_0 3 rfl)) (
  jm_gc (pu_ibin _) (sn_imul (jm_dc dc_207_0 4 rfl)) (
  jm_gc (pu_istore _ _) (sn_istore (jm_dc dc_207_0 5 rfl)) (
  jm_gc (pu_iload _ _) (sn_iload (jm_dc dc_207_0 6 rfl)) (
  jm_gc (pu_ic _ _) (sn_sipush (jm_dc dc_207_0 7 rfl) (by decide)) (
  jm_gc (pu_iload _ _) (sn_iload_n (i := 2) (jm_dc dc_207_0 8 rfl)) (
  jm_gc (pu_ibin _) (sn_imul (jm_dc dc_207_0 9 rfl)) (
  jm_gc (pu_aload _ _) (sn_aload_n (i := 0) (jm_dc dc_207_0 10 rfl)) (
  jm_gc (pu_getA _ _) (sn_getA (jm_dc dc_207_0 11 rfl) fl_11_46 rfl) (
  jm_gc (pu_iload _ _) (sn_iload_n (i := 2) (jm_dc dc_207_0 12 rfl)) (
  jm_gc (pu_iald _) (sn_iald (jm_dc dc_207_0 13 rfl)) (
  jm_gc (pu_ibin _) (sn_iadd (jm_dc dc_207_0 14 rfl)) (
  jm_gc (pu_cge _) (sn_cge (jm_dc dc_207_0 15 rfl) (by decide)) (
  jm_gc (pu_iload _ _) (sn_iload (jm_dc dc_207_0 16 rfl)) (
  jm_gc (pu_aload _ _) (sn_aload_n (i := 0) (jm_dc dc_207_0 17 rfl)) (
  jm_gc (pu_iload _ _) (sn_iload_n (i := 1) (jm_dc dc_207_0 18 rfl)) (
  jm_gc (pu_iload _ _) (sn_iload_n (i := 3) (jm_dc dc_207_0 19 rfl)) (
  jm_gc (pu_aload _ _) (sn_aload_n (i := 0) (jm_dc dc_207_0 20 rfl)) (
  jm_gc (pu_getA _ _) (sn_getA (jm_dc dc_207_0 21 rfl) fl_11_53 rfl) (
  jm_gc (pu_iload _ _) (sn_iload (jm_dc dc_207_0 22 rfl)) (
  jm_gc (pu_iald _) (sn_iald (jm_dc dc_207_0 23 rfl)) (
  jm_gc (pu_aload _ _) (sn_aload_n (i := 0) (jm_dc dc_207_0 24 rfl)) (
  jm_gn)))))))))))))))))))))))))
theorem dc_207_1 : ([(40, .getfield 56, 3), (43, .iload 7, 2), (45, .iaload, 1), (46, .invokestatic 344, 3), (49, .iload 4, 2), (51, .iadd, 1), (52, .iload_n 3, 1), (53, .aload_n 0, 1), (54, .getfield 53, 3), (57, .iload 7, 2), (59, .iaload, 1), (60, .aload_n 0, 1), (61, .getfield 56, 3), (64, .iload 7, 2), (66, .iaload, 1), (67, .invokestatic 347, 3), (70, .iload 5, 2), (72, .iadd, 1), (73, .invokevirtual 315, 3), (76, .ifCond .eq 7, 3), (79, .iconst 1, 1), (80, .goto 4, 3), (83, .iconst 0, 1), (84, .iadd, 1), (85, .istore 6, 2)] : List (Nat × Instr × Nat)).all (fun e => decide (decode prog_14_method_39_code e.1 = .ok e.2)) = true := by decide +kernel
abbrev cl_207_1 : List (Nat × jm_O) := [(40, op_getA 11 18), (43, op_iload 7 2), (45, op_iald 13), (46, op_callS 205 3), (49, op_iload 4 2), (51, op_ibin (fun x y => x + y)), (52, op_iload 3 1), (53, op_aload 0 1), (54, op_getA 11 17), (57, op_iload 7 2), (59, op_iald 13), (60, op_aload 0 1), (61, op_getA 11 18), (64, op_iload 7 2), (66, op_iald 13), (67, op_callS 206 3), (70, op_iload 5 2), (72, op_ibin (fun x y => x + y)), (73, op_callV 11 197 4), (76, op_ifeq 83), (79, op_ic 1 1), (80, op_goto 84), (83, op_ic 0 1), (84, op_ibin (fun x y => x + y)), (85, op_istore 6 2)]
set_option maxRecDepth 100000 in
theorem gl_207_1 : jm_gl "FrescoWallModel" prog_14_method_39_code 8 (Option.some Jvm.ClassFile.FieldType.int) false cl_207_1 :=
  jm_gc (pu_getA _ _) (sn_getA (jm_dc dc_207_1 0 rfl) fl_11_56 rfl) (
  jm_gc (pu_iload _ _) (sn_iload (jm_dc dc_207_1 1 rfl)) (
  jm_gc (pu_iald _) (sn_iald (jm_dc dc_207_1 2 rfl)) (
  jm_gc (pu_callS _ _) (sn_callS (jm_dc dc_207_1 3 rfl) lk_11_344) (
  jm_gc (pu_iload _ _) (sn_iload (jm_dc dc_207_1 4 rfl)) (
  jm_gc (pu_ibin _) (sn_iadd (jm_dc dc_207_1 5 rfl)) (
  jm_gc (pu_iload _ _) (sn_iload_n (i := 3) (jm_dc dc_207_1 6 rfl)) (
  jm_gc (pu_aload _ _) (sn_aload_n (i := 0) (jm_dc dc_207_1 7 rfl)) (
  jm_gc (pu_getA _ _) (sn_getA (jm_dc dc_207_1 8 rfl) fl_11_53 rfl) (
  jm_gc (pu_iload _ _) (sn_iload (jm_dc dc_207_1 9 rfl)) (
  jm_gc (pu_iald _) (sn_iald (jm_dc dc_207_1 10 rfl)) (
  jm_gc (pu_aload _ _) (sn_aload_n (i := 0) (jm_dc dc_207_1 11 rfl)) (
  jm_gc (pu_getA _ _) (sn_getA (jm_dc dc_207_1 12 rfl) fl_11_56 rfl) (
  jm_gc (pu_iload _ _) (sn_iload (jm_dc dc_207_1 13 rfl)) (
  jm_gc (pu_iald _) (sn_iald (jm_dc dc_207_1 14 rfl)) (
  jm_gc (pu_callS _ _) (sn_callS (jm_dc dc_207_1 15 rfl) lk_11_347) (
  jm_gc (pu_iload _ _) (sn_iload (jm_dc dc_207_1 16 rfl)) (
  jm_gc (pu_ibin _) (sn_iadd (jm_dc dc_207_1 17 rfl)) (
  jm_gc (pu_callV _ _ _) (sn_callV (jm_dc dc_207_1 18 rfl) lk_11_315) (
  jm_gc (pu_ifeq _) (sn_ifeq (jm_dc dc_207_1 19 rfl) (by decide)) (
  jm_gc (pu_ic _ _) (sn_iconst (jm_dc dc_207_1 20 rfl) (by decide)) (
  jm_gc (pu_goto _) (sn_goto (jm_dc dc_207_1 21 rfl) (by decide)) (
  jm_gc (pu_ic _ _) (sn_iconst (jm_dc dc_207_1 22 rfl) (by decide)) (
  jm_gc (pu_ibin _) (sn_iadd (jm_dc dc_207_1 23 rfl)) (
  jm_gc (pu_istore _ _) (sn_istore (jm_dc dc_207_1 24 rfl)) (
  jm_gn)))))))))))))))))))))))))
theorem dc_207_2 : ([(87, .iinc 7 1, 3), (90, .goto (-80), 3), (93, .iload 6, 2), (95, .ireturn, 1)] : List (Nat × Instr × Nat)).all (fun e => decide (decode prog_14_method_39_code e.1 = .ok e.2)) = true := by decide +kernel
abbrev cl_207_2 : List (Nat × jm_O) := [(87, op_iinc 7 1), (90, op_goto 10), (93, op_iload 6 2), (95, op_iret)]
set_option maxRecDepth 100000 in
theorem gl_207_2 : jm_gl "FrescoWallModel" prog_14_method_39_code 8 (Option.some Jvm.ClassFile.FieldType.int) false cl_207_2 :=
  jm_gc (pu_iinc _ _) (sn_iinc (jm_dc dc_207_2 0 rfl) (by decide)) (
  jm_gc (pu_goto _) (sn_goto (jm_dc dc_207_2 1 rfl) (by decide)) (
  jm_gc (pu_iload _ _) (sn_iload (jm_dc dc_207_2 2 rfl)) (
  jm_gc (pu_iret) (sn_iret (jm_dc dc_207_2 3 rfl) rfl) (
  jm_gn))))
theorem dc_208_0 : ([(0, .aload_n 0, 1), (1, .iload_n 1, 1), (2, .invokevirtual 222, 3), (5, .ifCond .eq 11, 3), (8, .aload_n 0, 1), (9, .iload_n 2, 1), (10, .invokevirtual 222, 3), (13, .ifCond .ne 5, 3), (16, .iconst (-1), 1), (17, .ireturn, 1), (18, .iload_n 1, 1), (19, .iload_n 2, 1), (20, .if_icmp .eq 40, 3), (23, .iload_n 3, 1), (24, .iconst 0, 1), (25, .iconst 3, 1), (26, .invokestatic 218, 3), (29, .ifCond .eq 31, 3), (32, .iload 4, 2), (34, .sipush (-500), 3), (37, .sipush 500, 3), (40, .invokestatic 218, 3), (43, .ifCond .eq 17, 3), (46, .iload 5, 2), (48, .sipush (-500), 3)] : List (Nat × Instr × Nat)).all (fun e => decide (decode prog_14_method_40_code e.1 = .ok e.2)) = true := by decide +kernel
abbrev cl_208_0 : List (Nat × jm_O) := [(0, op_aload 0 1), (1, op_iload 1 1), (2, op_callV 11 172 2), (5, op_ifeq 16), (8, op_aload 0 1), (9, op_iload 2 1), (10, op_callV 11 172 2), (13, op_ifne 18), (16, op_ic (-1) 1), (17, op_iret), (18, op_iload 1 1), (19, op_iload 2 1), (20, op_ceq 60), (23, op_iload 3 1), (24, op_ic 0 1), (25, op_ic 3 1), (26, op_callS 171 3), (29, op_ifeq 60), (32, op_iload 4 2), (34, op_ic (-500) 3), (37, op_ic 500 3), (40, op_callS 171 3), (43, op_ifeq 60), (46, op_iload 5 2), (48, op_ic (-500) 3)]
set_option maxRecDepth 100000 in
theorem gl_208_0 : jm_gl "FrescoWallModel" prog_14_method_40_code 6 (Option.some Jvm.ClassFile.FieldType.int) false cl_208_0 :=
  jm_gc (pu_aload _ _) (sn_aload_n (i := 0) (jm_dc dc_208_0 0 rfl)) (
  jm_gc (pu_iload _ _) (sn_iload_n (i := 1) (jm_dc dc_208_0 1 rfl)) (
  jm_gc (pu_callV _ _ _) (sn_callV (jm_dc dc_208_0 2 rfl) lk_11_222) (
  jm_gc (pu_ifeq _) (sn_ifeq (jm_dc dc_208_0 3 rfl) (by decide)) (
  jm_gc (pu_aload _ _) (sn_aload_n (i := 0) (jm_dc dc_208_0 4 rfl)) (
  jm_gc (pu_iload _ _) (sn_iload_n (i := 2) (jm_dc dc_208_0 5 rfl)) (
  jm_gc (pu_callV _ _ _) (sn_callV (jm_dc dc_208_0 6 rfl) lk_11_222) (
  jm_gc (pu_ifne _) (sn_ifne (jm_dc dc_208_0 7 rfl) (by decide)) (
  jm_gc (pu_ic _ _) (sn_iconst (jm_dc dc_208_0 8 rfl) (by decide)) (
  jm_gc (pu_iret) (sn_iret (jm_dc dc_208_0 9 rfl) rfl) (
  jm_gc (pu_iload _ _) (sn_iload_n (i := 1) (jm_dc dc_208_0 10 rfl)) (
  jm_gc (pu_iload _ _) (sn_iload_n (i := 2) (jm_dc dc_208_0 11 rfl)) (
  jm_gc (pu_ceq _) (sn_ceq (jm_dc dc_208_0 12 rfl) (by decide)) (
  jm_gc (pu_iload _ _) (sn_iload_n (i := 3) (jm_dc dc_208_0 13 rfl)) (
  jm_gc (pu_ic _ _) (sn_iconst (jm_dc dc_208_0 14 rfl) (by decide)) (
  jm_gc (pu_ic _ _) (sn_iconst (jm_dc dc_208_0 15 rfl) (by decide)) (
  jm_gc (pu_callS _ _) (sn_callS (jm_dc dc_208_0 16 rfl) lk_11_218) (
  jm_gc (pu_ifeq _) (sn_ifeq (jm_dc dc_208_0 17 rfl) (by decide)) (
  jm_gc (pu_iload _ _) (sn_iload (jm_dc dc_208_0 18 rfl)) (
  jm_gc (pu_ic _ _) (sn_sipush (jm_dc dc_208_0 19 rfl) (by decide)) (
  jm_gc (pu_ic _ _) (sn_sipush (jm_dc dc_208_0 20 rfl) (by decide)) (
  jm_gc (pu_callS _ _) (sn_callS (jm_dc dc_208_0 21 rfl) lk_11_218) (
  jm_gc (pu_ifeq _) (sn_ifeq (jm_dc dc_208_0 22 rfl) (by decide)) (
  jm_gc (pu_iload _ _) (sn_iload (jm_dc dc_208_0 23 rfl)) (
  jm_gc (pu_ic _ _) (sn_sipush (jm_dc dc_208_0 24 rfl) (by decide)) (
  jm_gn)))))))))))))))))))))))))
theorem dc_208_1 : ([(51, .sipush 500, 3), (54, .invokestatic 218, 3), (57, .ifCond .ne 6, 3), (60, .bipush (-2), 2), (62, .ireturn, 1), (63, .aload_n 0, 1), (64, .iload_n 1, 1), (65, .iload_n 2, 1), (66, .iload_n 3, 1), (67, .iload 4, 2), (69, .iload 5, 2), (71, .invokevirtual 350, 3), (74, .ireturn, 1)] : List (Nat × Instr × Nat)).all (fun e => decide (decode prog_14_method_40_code e.1 = .ok e.2)) = true := by decide +kernel
abbrev cl_208_1 : List (Nat × jm_O) := [(51, op_ic 500 3), (54, op_callS 171 3), (57, op_ifne 63), (60, op_ic (-2) 2), (62, op_iret), (63, op_aload 0 1), (64, op_iload 1 1), (65, op_iload 2 1), (66, op_iload 3 1), (67, op_iload 4 2), (69, op_iload 5 2), (71, op_callV 11 207 6), (74, op_iret)]
set_option maxRecDepth 100000 in
theorem gl_208_1 : jm_gl "FrescoWallModel" prog_14_method_40_code 6 (Option.some Jvm.ClassFile.FieldType.int) false cl_208_1 :=
  jm_gc (pu_ic _ _) (sn_sipush (jm_dc dc_208_1 0 rfl) (by decide)) (
  jm_gc (pu_callS _ _) (sn_callS (jm_dc dc_208_1 1 rfl) lk_11_218) (
  jm_gc (pu_ifne _) (sn_ifne (jm_dc dc_208_1 2 rfl) (by decide)) (
  jm_gc (pu_ic _ _) (sn_bipush (jm_dc dc_208_1 3 rfl) (by decide)) (
  jm_gc (pu_iret) (sn_iret (jm_dc dc_208_1 4 rfl) rfl) (
  jm_gc (pu_aload _ _) (sn_aload_n (i := 0) (jm_dc dc_208_1 5 rfl)) (
  jm_gc (pu_iload _ _) (sn_iload_n (i := 1) (jm_dc dc_208_1 6 rfl)) (
  jm_gc (pu_iload _ _) (sn_iload_n (i := 2) (jm_dc dc_208_1 7 rfl)) (
  jm_gc (pu_iload _ _) (sn_iload_n (i := 3) (jm_dc dc_208_1 8 rfl)) (
  jm_gc (pu_iload _ _) (sn_iload (jm_dc dc_208_1 9 rfl)) (
  jm_gc (pu_iload _ _) (sn_iload (jm_dc dc_208_1 10 rfl)) (
  jm_gc (pu_callV _ _ _) (sn_callV (jm_dc dc_208_1 11 rfl) lk_11_350) (
  jm_gc (pu_iret) (sn_iret (jm_dc dc_208_1 12 rfl) rfl) (
  jm_gn)))))))))))))
theorem dc_209_0 : ([(0, .iload_n 1, 1), (1, .iconst 0, 1), (2, .bipush 30, 2), (4, .invokestatic 218, 3), (7, .ifCond .ne 6, 3), (10, .bipush (-2), 2), (12, .ireturn, 1), (13, .aload_n 0, 1), (14, .getfield 354, 3), (17, .istore_n 2, 1), (18, .aload_n 0, 1), (19, .iload_n 1, 1), (20, .putfield 354, 3), (23, .iload_n 2, 1), (24, .ireturn, 1)] : List (Nat × Instr × Nat)).all (fun e => decide (decode prog_14_method_41_code e.1 = .ok e.2)) = true := by decide +kernel
abbrev cl_209_0 : List (Nat × jm_O) := [(0, op_iload 1 1), (1, op_ic 0 1), (2, op_ic 30 2), (4, op_callS 171 3), (7, op_ifne 13), (10, op_ic (-2) 2), (12, op_iret), (13, op_aload 0 1), (14, op_getI 11 20), (17, op_istore 2 1), (18, op_aload 0 1), (19, op_iload 1 1), (20, op_putI 11 20), (23, op_iload 2 1), (24, op_iret)]
set_option maxRecDepth 100000 in
theorem gl_209_0 : jm_gl "FrescoWallModel" prog_14_method_41_code 3 (Option.some Jvm.ClassFile.FieldType.int) false cl_209_0 :=
  jm_gc (pu_iload _ _) (sn_iload_n (i := 1) (jm_dc dc_209_0 0 rfl)) (
  jm_gc (pu_ic _ _) (sn_iconst (jm_dc dc_209_0 1 rfl) (by decide)) (
  jm_gc (pu_ic _ _) (sn_bipush (jm_dc dc_209_0 2 rfl) (by decide)) (
  jm_gc (pu_callS _ _) (sn_callS (jm_dc dc_209_0 3 rfl) lk_11_218) (
  jm_gc (pu_ifne _) (sn_ifne (jm_dc dc_209_0 4 rfl) (by decide)) (
  jm_gc (pu_ic _ _) (sn_bipush (jm_dc dc_209_0 5 rfl) (by decide)) (
  jm_gc (pu_iret) (sn_iret (jm_dc dc_209_0 6 rfl) rfl) (
  jm_gc (pu_aload _ _) (sn_aload_n (i := 0) (jm_dc dc_209_0 7 rfl)) (
  jm_gc (pu_getI _ _) (sn_getI (jm_dc dc_209_0 8 rfl) fl_11_354 (Or.inl rfl)) (
  jm_gc (pu_istore _ _) (sn_istore_n (i := 2) (jm_dc dc_209_0 9 rfl)) (
  jm_gc (pu_aload _ _) (sn_aload_n (i := 0) (jm_dc dc_209_0 10 rfl)) (
  jm_gc (pu_iload _ _) (sn_iload_n (i := 1) (jm_dc dc_209_0 11 rfl)) (
  jm_gc (pu_putI _ _) (sn_putI (jm_dc dc_209_0 12 rfl) flw_11_354 rfl) (
  jm_gc (pu_iload _ _) (sn_iload_n (i := 2) (jm_dc dc_209_0 13 rfl)) (
  jm_gc (pu_iret) (sn_iret (jm_dc dc_209_0 14 rfl) rfl) (
  jm_gn)))))))))))))))
theorem dc_210_0 : ([(0, .iconst 0, 1), (1, .istore_n 3, 1), (2, .iload_n 3, 1), (3, .aload_n 0, 1), (4, .getfield 13, 3), (7, .iload_n 1, 1), (8, .iaload, 1), (9, .if_icmp .ge 225, 3), (12, .iconst 0, 1), (13, .istore 4, 2), (15, .iload 4, 2), (17, .aload_n 0, 1), (18, .getfield 13, 3), (21, .iload_n 2, 1), (22, .iaload, 1), (23, .if_icmp .ge 205, 3), (26, .sipush 240, 3), (29, .bipush 8, 2), (31, .iload_n 1, 1), (32, .imul, 1), (33, .iload_n 3, 1), (34, .iadd, 1), (35, .imul, 1), (36, .bipush 8, 2), (38, .iload_n 2, 1)] : List (Nat × Instr × Nat)).all (fun e => decide (decode prog_14_method_42_code e.1 = .ok e.2)) = true := by decide +kernel
abbrev cl_210_0 : List (Nat × jm_O) := [(0, op_ic 0 1), (1, op_istore 3 1), (2, op_iload 3 1), (3, op_aload 0 1), (4, op_getA 11 4), (7, op_iload 1 1), (8, op_iald 13), (9, op_cge 234), (12, op_ic 0 1), (13, op_istore 4 2), (15, op_iload 4 2), (17, op_aload 0 1), (18, op_getA 11 4), (21, op_iload 2 1), (22, op_iald 13), (23, op_cge 228), (26, op_ic 240 3), (29, op_ic 8 2), (31, op_iload 1 1), (32, op_ibin (fun x y => x * y)), (33, op_iload 3 1), (34, op_ibin (fun x y => x + y)), (35, op_ibin (fun x y => x * y)), (36, op_ic 8 2), (38, op_iload 2 1)]
set_option maxRecDepth 100000 in
theorem gl_210_0 : jm_gl "FrescoWallModel" prog_14_method_42_code 8 (Option.none : Option Jvm.ClassFile.FieldType) false cl_210_0 :=
  jm_gc (pu_ic _ _) (sn_iconst (jm_dc dc_210_0 0 rfl) (by decide)) (
  jm_gc (pu_istore _ _) (sn_istore_n (i := 3) (jm_dc dc_210_0 1 rfl)) (
  jm_gc (pu_iload _ _) (sn_iload_n (i := 3) (jm_dc dc_210_0 2 rfl)) (
  jm_gc (pu_aload _ _) (sn_aload_n (i := 0) (jm_dc dc_210_0 3 rfl)) (
  jm_gc (pu_getA _ _) (sn_getA (jm_dc dc_210_0 4 rfl) fl_11_13 rfl) (
  jm_gc (pu_iload _ _) (sn_iload_n (i := 1) (jm_dc dc_210_0 5 rfl)) (
  jm_gc (pu_iald _) (sn_iald (jm_dc dc_210_0 6 rfl)) (
  jm_gc (pu_cge _) (sn_cge (jm_dc dc_210_0 7 rfl) (by decide)) (
  jm_gc (pu_ic _ _) (sn_iconst (jm_dc dc_210_0 8 rfl) (by decide)) (
  jm_gc (pu_istore _ _) (sn_istore (jm_dc dc_210_0 9 rfl)) (
  jm_gc (pu_iload _ _) (sn_iload (jm_dc dc_210_0 10 rfl)) (
  jm_gc (pu_aload _ _) (sn_aload_n (i := 0) (jm_dc dc_210_0 11 rfl)) (
  jm_gc (pu_getA _ _) (sn_getA (jm_dc dc_210_0 12 rfl) fl_11_13 rfl) (
  jm_gc (pu_iload _ _) (sn_iload_n (i := 2) (jm_dc dc_210_0 13 rfl)) (
  jm_gc (pu_iald _) (sn_iald (jm_dc dc_210_0 14 rfl)) (
  jm_gc (pu_cge _) (sn_cge (jm_dc dc_210_0 15 rfl) (by decide)) (
  jm_gc (pu_ic _ _) (sn_sipush (jm_dc dc_210_0 16 rfl) (by decide)) (
  jm_gc (pu_ic _ _) (sn_bipush (jm_dc dc_210_0 17 rfl) (by decide)) (
  jm_gc (pu_iload _ _) (sn_iload_n (i := 1) (jm_dc dc_210_0 18 rfl)) (
  jm_gc (pu_ibin _) (sn_imul (jm_dc dc_210_0 19 rfl)) (
  jm_gc (pu_iload _ _) (sn_iload_n (i := 3) (jm_dc dc_210_0 20 rfl)) (
  jm_gc (pu_ibin _) (sn_iadd (jm_dc dc_210_0 21 rfl)) (
  jm_gc (pu_ibin _) (sn_imul (jm_dc dc_210_0 22 rfl)) (
  jm_gc (pu_ic _ _) (sn_bipush (jm_dc dc_210_0 23 rfl) (by decide)) (
  jm_gc (pu_iload _ _) (sn_iload_n (i := 2) (jm_dc dc_210_0 24 rfl)) (
  jm_gn)))))))))))))))))))))))))
theorem dc_210_1 : ([(39, .imul, 1), (40, .iadd, 1), (41, .iload 4, 2), (43, .iadd, 1), (44, .istore 5, 2), (46, .aload_n 0, 1), (47, .getfield 67, 3), (50, .iload 5, 2), (52, .iconst (-1), 1), (53, .iastore, 1), (54, .iconst 0, 1), (55, .istore 6, 2), (57, .iload 6, 2), (59, .iconst 4, 1), (60, .if_icmp .ge 113, 3), (63, .aload_n 0, 1), (64, .getfield 43, 3), (67, .iload_n 1, 1), (68, .iaload, 1), (69, .aload_n 0, 1), (70, .getfield 43, 3), (73, .iload_n 2, 1), (74, .iaload, 1), (75, .if_icmp .ne 98, 3), (78, .iload 6, 2)] : List (Nat × Instr × Nat)).all (fun e => decide (decode prog_14_method_42_code e.1 = .ok e.2)) = true := by decide +kernel
abbrev cl_210_1 : List (Nat × jm_O) := [(39, op_ibin (fun x y => x * y)), (40, op_ibin (fun x y => x + y)), (41, op_iload 4 2), (43, op_ibin (fun x y => x + y)), (44, op_istore 5 2), (46, op_aload 0 1), (47, op_getA 11 22), (50, op_iload 5 2), (52, op_ic (-1) 1), (53, op_iast), (54, op_ic 0 1), (55, op_istore 6 2), (57, op_iload 6 2), (59, op_ic 4 1), (60, op_cge 173), (63, op_aload 0 1), (64, op_getA 11 14), (67, op_iload 1 1), (68, op_iald 13), (69, op_aload 0 1), (70, op_getA 11 14), (73, op_iload 2 1), (74, op_iald 13), (75, op_cne 173), (78, op_iload 6 2)]
set_option maxRecDepth 100000 in
theorem gl_210_1 : jm_gl "FrescoWallModel" prog_14_method_42_code 8 (Option.none : Option Jvm.ClassFile.FieldType) false cl_210_1 :=
  jm_gc (pu_ibin _) (sn_imul (jm_dc dc_210_1 0 rfl)) (
  jm_gc (pu_ibin _) (sn_iadd (jm_dc dc_210_1 1 rfl)) (
  jm_gc (pu_iload _ _) (sn_iload (jm_dc dc_210_1 2 rfl)) (
  jm_gc (pu_ibin _) (sn_iadd (jm_dc dc_210_1 3 rfl)) (
  jm_gc (pu_istore _ _) (sn_istore (jm_dc dc_210_1 4 rfl)) (
  jm_gc (pu_aload _ _) (sn_aload_n (i := 0) (jm_dc dc_210_1 5 rfl)) (
  jm_gc (pu_getA _ _) (sn_getA (jm_dc dc_210_1 6 rfl) fl_11_67 rfl) (
  jm_gc (pu_iload _ _) (sn_iload (jm_dc dc_210_1 7 rfl)) (
  jm_gc (pu_ic _ _) (sn_iconst (jm_dc dc_210_1 8 rfl) (by decide)) (
  jm_gc (pu_iast) (sn_iast (jm_dc dc_210_1 9 rfl)) (
  jm_gc (pu_ic _ _) (sn_iconst (jm_dc dc_210_1 10 rfl) (by decide)) (
  jm_gc (pu_istore _ _) (sn_istore (jm_dc dc_210_1 11 rfl)) (
  jm_gc (pu_iload _ _) (sn_iload (jm_dc dc_210_1 12 rfl)) (
  jm_gc (pu_ic _ _) (sn_iconst (jm_dc dc_210_1 13 rfl) (by decide)) (
  jm_gc (pu_cge _) (sn_cge (jm_dc dc_210_1 14 rfl) (by decide)) (
  jm_gc (pu_aload _ _) (sn_aload_n (i := 0) (jm_dc dc_210_1 15 rfl)) (
  jm_gc (pu_getA _ _) (sn_getA (jm_dc dc_210_1 16 rfl) fl_11_43 rfl) (
  jm_gc (pu_iload _ _) (sn_iload_n (i := 1) (jm_dc dc_210_1 17 rfl)) (
  jm_gc (pu_iald _) (sn_iald (jm_dc dc_210_1 18 rfl)) (
  jm_gc (pu_aload _ _) (sn_aload_n (i := 0) (jm_dc dc_210_1 19 rfl)) (
  jm_gc (pu_getA _ _) (sn_getA (jm_dc dc_210_1 20 rfl) fl_11_43 rfl) (
  jm_gc (pu_iload _ _) (sn_iload_n (i := 2) (jm_dc dc_210_1 21 rfl)) (
  jm_gc (pu_iald _) (sn_iald (jm_dc dc_210_1 22 rfl)) (
  jm_gc (pu_cne _) (sn_cne (jm_dc dc_210_1 23 rfl) (by decide)) (
  jm_gc (pu_iload _ _) (sn_iload (jm_dc dc_210_1 24 rfl)) (
  jm_gn)))))))))))))))))))))))))
theorem dc_210_2 : ([(80, .aload_n 0, 1), (81, .iload_n 2, 1), (82, .iload 4, 2), (84, .invokevirtual 266, 3), (87, .aload_n 0, 1), (88, .iload_n 2, 1), (89, .iload 4, 2), (91, .invokevirtual 269, 3), (94, .invokestatic 338, 3), (97, .aload_n 0, 1), (98, .iload_n 1, 1), (99, .iload_n 3, 1), (100, .invokevirtual 266, 3), (103, .ineg, 1), (104, .if_icmp .ne 36, 3), (107, .iload 6, 2), (109, .aload_n 0, 1), (110, .iload_n 2, 1), (111, .iload 4, 2), (113, .invokevirtual 266, 3), (116, .aload_n 0, 1), (117, .iload_n 2, 1), (118, .iload 4, 2), (120, .invokevirtual 269, 3), (123, .invokestatic 341, 3)] : List (Nat × Instr × Nat)).all (fun e => decide (decode prog_14_method_42_code e.1 = .ok e.2)) = true := by decide +kernel
abbrev cl_210_2 : List (Nat × jm_O) := [(80, op_aload 0 1), (81, op_iload 2 1), (82, op_iload 4 2), (84, op_callV 11 185 3), (87, op_aload 0 1), (88, op_iload 2 1), (89, op_iload 4 2), (91, op_callV 11 186 3), (94, op_callS 203 3), (97, op_aload 0 1), (98, op_iload 1 1), (99, op_iload 3 1), (100, op_callV 11 185 3), (103, op_iun (fun x => -x)), (104, op_cne 140), (107, op_iload 6 2), (109, op_aload 0 1), (110, op_iload 2 1), (111, op_iload 4 2), (113, op_callV 11 185 3), (116, op_aload 0 1), (117, op_iload 2 1), (118, op_iload 4 2), (120, op_callV 11 186 3), (123, op_callS 204 3)]
set_option maxRecDepth 100000 in
theorem gl_210_2 : jm_gl "FrescoWallModel" prog_14_method_42_code 8 (Option.none : Option Jvm.ClassFile.FieldType) false cl_210_2 :=
  jm_gc (pu_aload _ _) (sn_aload_n (i := 0) (jm_dc dc_210_2 0 rfl)) (
  jm_gc (pu_iload _ _) (sn_iload_n (i := 2) (jm_dc dc_210_2 1 rfl)) (
  jm_gc (pu_iload _ _) (sn_iload (jm_dc dc_210_2 2 rfl)) (
  jm_gc (pu_callV _ _ _) (sn_callV (jm_dc dc_210_2 3 rfl) lk_11_266) (
  jm_gc (pu_aload _ _) (sn_aload_n (i := 0) (jm_dc dc_210_2 4 rfl)) (
  jm_gc (pu_iload _ _) (sn_iload_n (i := 2) (jm_dc dc_210_2 5 rfl)) (
  jm_gc (pu_iload _ _) (sn_iload (jm_dc dc_210_2 6 rfl)) (
  jm_gc (pu_callV _ _ _) (sn_callV (jm_dc dc_210_2 7 rfl) lk_11_269) (
  jm_gc (pu_callS _ _) (sn_callS (jm_dc dc_210_2 8 rfl) lk_11_338) (
  jm_gc (pu_aload _ _) (sn_aload_n (i := 0) (jm_dc dc_210_2 9 rfl)) (
  jm_gc (pu_iload _ _) (sn_iload_n (i := 1) (jm_dc dc_210_2 10 rfl)) (
  jm_gc (pu_iload _ _) (sn_iload_n (i := 3) (jm_dc dc_210_2 11 rfl)) (
  jm_gc (pu_callV _ _ _) (sn_callV (jm_dc dc_210_2 12 rfl) lk_11_266) (
  jm_gc (pu_iun _) (sn_ineg (jm_dc dc_210_2 13 rfl)) (
  jm_gc (pu_cne _) (sn_cne (jm_dc dc_210_2 14 rfl) (by decide)) (
  jm_gc (pu_iload _ _) (sn_iload (jm_dc dc_210_2 15 rfl)) (
  jm_gc (pu_aload _ _) (sn_aload_n (i := 0) (jm_dc dc_210_2 16 rfl)) (
  jm_gc (pu_iload _ _) (sn_iload_n (i := 2) (jm_dc dc_210_2 17 rfl)) (
  jm_gc (pu_iload _ _) (sn_iload (jm_dc dc_210_2 18 rfl)) (
  jm_gc (pu_callV _ _ _) (sn_callV (jm_dc dc_210_2 19 rfl) lk_11_266) (
  jm_gc (pu_aload _ _) (sn_aload_n (i := 0) (jm_dc dc_210_2 20 rfl)) (
  jm_gc (pu_iload _ _) (sn_iload_n (i := 2) (jm_dc dc_210_2 21 rfl)) (
  jm_gc (pu_iload _ _) (sn_iload (jm_dc dc_210_2 22 rfl)) (
  jm_gc (pu_callV _ _ _) (sn_callV (jm_dc dc_210_2 23 rfl) lk_11_269) (
  jm_gc (pu_callS _ _) (sn_callS (jm_dc dc_210_2 24 rfl) lk_11_341) (
  jm_gn)))))))))))))))))))))))))
theorem dc_210_3 : ([(126, .aload_n 0, 1), (127, .iload_n 1, 1), (128, .iload_n 3, 1), (129, .invokevirtual 269, 3), (132, .ineg, 1), (133, .if_icmp .ne 7, 3), (136, .iconst 1, 1), (137, .goto 4, 3), (140, .iconst 0, 1), (141, .istore 7, 2), (143, .aload_n 0, 1), (144, .getfield 67, 3), (147, .iload 5, 2), (149, .iload 7, 2), (151, .ifCond .eq 8, 3), (154, .iload 6, 2), (156, .goto 10, 3), (159, .aload_n 0, 1), (160, .getfield 67, 3), (163, .iload 5, 2), (165, .iaload, 1), (166, .iastore, 1), (167, .iinc 6 1, 3), (170, .goto (-113), 3), (173, .aload_n 0, 1)] : List (Nat × Instr × Nat)).all (fun e => decide (decode prog_14_method_42_code e.1 = .ok e.2)) = true := by decide +kernel
abbrev cl_210_3 : List (Nat × jm_O) := [(126, op_aload 0 1), (127, op_iload 1 1), (128, op_iload 3 1), (129, op_callV 11 186 3), (132, op_iun (fun x => -x)), (133, op_cne 140), (136, op_ic 1 1), (137, op_goto 141), (140, op_ic 0 1), (141, op_istore 7 2), (143, op_aload 0 1), (144, op_getA 11 22), (147, op_iload 5 2), (149, op_iload 7 2), (151, op_ifeq 159), (154, op_iload 6 2), (156, op_goto 166), (159, op_aload 0 1), (160, op_getA 11 22), (163, op_iload 5 2), (165, op_iald 13), (166, op_iast), (167, op_iinc 6 1), (170, op_goto 57), (173, op_aload 0 1)]
set_option maxRecDepth 100000 in
theorem gl_210_3 : jm_gl "FrescoWallModel" prog_14_method_42_code 8 (Option.none : Option Jvm.ClassFile.FieldType) false cl_210_3 :=
  jm_gc (pu_aload _ _) (sn_aload_n (i := 0) (jm_dc dc_210_3 0 rfl)) (
  jm_gc (pu_iload _ _) (sn_iload_n (i := 1) (jm_dc dc_210_3 1 rfl)) (
  jm_gc (pu_iload _ _) (sn_iload_n (i := 3) (jm_dc dc_210_3 2 rfl)) (
  jm_gc (pu_callV _ _ _) (sn_callV (jm_dc dc_210_3 3 rfl) lk_11_269) (
  jm_gc (pu_iun _) (sn_ineg (jm_dc dc_210_3 4 rfl)) (
  jm_gc (pu_cne _) (sn_cne (jm_dc dc_210_3 5 rfl) (by decide)) (
  jm_gc (pu_ic _ _) (sn_iconst (jm_dc dc_210_3 6 rfl) (by decide)) (
  jm_gc (pu_goto _) (sn_goto (jm_dc dc_210_3 7 rfl) (by decide)) (
  jm_gc (pu_ic _ _) (sn_iconst (jm_dc dc_210_3 8 rfl) (by decide)) (
  jm_gc (pu_istore _ _) (sn_istore (jm_dc dc_210_3 9 rfl)) (
  jm_gc (pu_aload _ _) (sn_aload_n (i := 0) (jm_dc dc_210_3 10 rfl)) (
  jm_gc (pu_getA _ _) (sn_getA (jm_dc dc_210_3 11 rfl) fl_11_67 rfl) (
  jm_gc (pu_iload _ _) (sn_iload (jm_dc dc_210_3 12 rfl)) (
  jm_gc (pu_iload _ _) (sn_iload (jm_dc dc_210_3 13 rfl)) (
  jm_gc (pu_ifeq _) (sn_ifeq (jm_dc dc_210_3 14 rfl) (by decide)) (
  jm_gc (pu_iload _ _) (sn_iload (jm_dc dc_210_3 15 rfl)) (
  jm_gc (pu_goto _) (sn_goto (jm_dc dc_210_3 16 rfl) (by decide)) (
  jm_gc (pu_aload _ _) (sn_aload_n (i := 0) (jm_dc dc_210_3 17 rfl)) (
  jm_gc (pu_getA _ _) (sn_getA (jm_dc dc_210_3 18 rfl) fl_11_67 rfl) (
  jm_gc (pu_iload _ _) (sn_iload (jm_dc dc_210_3 19 rfl)) (
  jm_gc (pu_iald _) (sn_iald (jm_dc dc_210_3 20 rfl)) (
  jm_gc (pu_iast) (sn_iast (jm_dc dc_210_3 21 rfl)) (
  jm_gc (pu_iinc _ _) (sn_iinc (jm_dc dc_210_3 22 rfl) (by decide)) (
  jm_gc (pu_goto _) (sn_goto (jm_dc dc_210_3 23 rfl) (by decide)) (
  jm_gc (pu_aload _ _) (sn_aload_n (i := 0) (jm_dc dc_210_3 24 rfl)) (
  jm_gn)))))))))))))))))))))))))
theorem dc_210_4 : ([(174, .getfield 67, 3), (177, .iload 5, 2), (179, .iaload, 1), (180, .iconst (-1), 1), (181, .if_icmp .eq 41, 3), (184, .aload_n 0, 1), (185, .getfield 70, 3), (188, .iload 5, 2), (190, .aload_n 0, 1), (191, .iload_n 1, 1), (192, .iload_n 2, 1), (193, .aload_n 0, 1), (194, .getfield 67, 3), (197, .iload 5, 2), (199, .iaload, 1), (200, .aload_n 0, 1), (201, .iload_n 1, 1), (202, .iload_n 3, 1), (203, .iload_n 2, 1), (204, .iload 4, 2), (206, .invokevirtual 357, 3), (209, .aload_n 0, 1), (210, .iload_n 1, 1), (211, .iload_n 3, 1), (212, .iload_n 2, 1)] : List (Nat × Instr × Nat)).all (fun e => decide (decode prog_14_method_42_code e.1 = .ok e.2)) = true := by decide +kernel
abbrev cl_210_4 : List (Nat × jm_O) := [(174, op_getA 11 22), (177, op_iload 5 2), (179, op_iald 13), (180, op_ic (-1) 1), (181, op_ceq 222), (184, op_aload 0 1), (185, op_getA 11 23), (188, op_iload 5 2), (190, op_aload 0 1), (191, op_iload 1 1), (192, op_iload 2 1), (193, op_aload 0 1), (194, op_getA 11 22), (197, op_iload 5 2), (199, op_iald 13), (200, op_aload 0 1), (201, op_iload 1 1), (202, op_iload 3 1), (203, op_iload 2 1), (204, op_iload 4 2), (206, op_callV 11 212 5), (209, op_aload 0 1), (210, op_iload 1 1), (211, op_iload 3 1), (212, op_iload 2 1)]
set_option maxRecDepth 100000 in
theorem gl_210_4 : jm_gl "FrescoWallModel" prog_14_method_42_code 8 (Option.none : Option Jvm.ClassFile.FieldType) false cl_210_4 :=
  jm_gc (pu_getA _ _) (sn_getA (jm_dc dc_210_4 0 rfl) fl_11_67 rfl) (
  jm_gc (pu_iload _ _) (sn_iload (jm_dc dc_210_4 1 rfl)) (
  jm_gc (pu_iald _) (sn_iald (jm_dc dc_210_4 2 rfl)) (
  jm_gc (pu_ic _ _) (sn_iconst (jm_dc dc_210_4 3 rfl) (by decide)) (
  jm_gc (pu_ceq _) (sn_ceq (jm_dc dc_210_4 4 rfl) (by decide)) (
  jm_gc (pu_aload _ _) (sn_aload_n (i := 0) (jm_dc dc_210_4 5 rfl)) (
  jm_gc (pu_getA _ _) (sn_getA (jm_dc dc_210_4 6 rfl) fl_11_70 rfl) (
  jm_gc (pu_iload _ _) (sn_iload (jm_dc dc_210_4 7 rfl)) (
  jm_gc (pu_aload _ _) (sn_aload_n (i := 0) (jm_dc dc_210_4 8 rfl)) (
  jm_gc (pu_iload _ _) (sn_iload_n (i := 1) (jm_dc dc_210_4 9 rfl)) (
  jm_gc (pu_iload _ _) (sn_iload_n (i := 2) (jm_dc dc_210_4 10 rfl)) (
  jm_gc (pu_aload _ _) (sn_aload_n (i := 0) (jm_dc dc_210_4 11 rfl)) (
  jm_gc (pu_getA _ _) (sn_getA (jm_dc dc_210_4 12 rfl) fl_11_67 rfl) (
  jm_gc (pu_iload _ _) (sn_iload (jm_dc dc_210_4 13 rfl)) (
  jm_gc (pu_iald _) (sn_iald (jm_dc dc_210_4 14 rfl)) (
  jm_gc (pu_aload _ _) (sn_aload_n (i := 0) (jm_dc dc_210_4 15 rfl)) (
  jm_gc (pu_iload _ _) (sn_iload_n (i := 1) (jm_dc dc_210_4 16 rfl)) (
  jm_gc (pu_iload _ _) (sn_iload_n (i := 3) (jm_dc dc_210_4 17 rfl)) (
  jm_gc (pu_iload _ _) (sn_iload_n (i := 2) (jm_dc dc_210_4 18 rfl)) (
  jm_gc (pu_iload _ _) (sn_iload (jm_dc dc_210_4 19 rfl)) (
  jm_gc (pu_callV _ _ _) (sn_callV (jm_dc dc_210_4 20 rfl) lk_11_357) (
  jm_gc (pu_aload _ _) (sn_aload_n (i := 0) (jm_dc dc_210_4 21 rfl)) (
  jm_gc (pu_iload _ _) (sn_iload_n (i := 1) (jm_dc dc_210_4 22 rfl)) (
  jm_gc (pu_iload _ _) (sn_iload_n (i := 3) (jm_dc dc_210_4 23 rfl)) (
  jm_gc (pu_iload _ _) (sn_iload_n (i := 2) (jm_dc dc_210_4 24 rfl)) (
  jm_gn)))))))))))))))))))))))))
theorem dc_210_5 : ([(213, .iload 4, 2), (215, .invokevirtual 360, 3), (218, .invokevirtual 350, 3), (221, .iastore, 1), (222, .iinc 4 1, 3), (225, .goto (-210), 3), (228, .iinc 3 1, 3), (231, .goto (-229), 3), (234, .return_, 1)] : List (Nat × Instr × Nat)).all (fun e => decide (decode prog_14_method_42_code e.1 = .ok e.2)) = true := by decide +kernel
abbrev cl_210_5 : List (Nat × jm_O) := [(213, op_iload 4 2), (215, op_callV 11 213 5), (218, op_callV 11 207 6), (221, op_iast), (222, op_iinc 4 1), (225, op_goto 15), (228, op_iinc 3 1), (231, op_goto 2), (234, op_vret)]
set_option maxRecDepth 100000 in
theorem gl_210_5 : jm_gl "FrescoWallModel" prog_14_method_42_code 8 (Option.none : Option Jvm.ClassFile.FieldType) false cl_210_5 :=
  jm_gc (pu_iload _ _) (sn_iload (jm_dc dc_210_5 0 rfl)) (
  jm_gc (pu_callV _ _ _) (sn_callV (jm_dc dc_210_5 1 rfl) lk_11_360) (
  jm_gc (pu_callV _ _ _) (sn_callV (jm_dc dc_210_5 2 rfl) lk_11_350) (
  jm_gc (pu_iast) (sn_iast (jm_dc dc_210_5 3 rfl)) (
  jm_gc (pu_iinc _ _) (sn_iinc (jm_dc dc_210_5 4 rfl) (by decide)) (
  jm_gc (pu_goto _) (sn_goto (jm_dc dc_210_5 5 rfl) (by decide)) (
  jm_gc (pu_iinc _ _) (sn_iinc (jm_dc dc_210_5 6 rfl) (by decide)) (
  jm_gc (pu_goto _) (sn_goto (jm_dc dc_210_5 7 rfl) (by decide)) (
  jm_gc (pu_vret) (sn_vret (jm_dc dc_210_5 8 rfl) rfl) (
  jm_gn)))))))))
theorem dc_211_0 : ([(0, .sipush 240, 3), (3, .bipush 8, 2), (5, .iload_n 1, 1), (6, .imul, 1), (7, .iload_n 2, 1), (8, .iadd, 1), (9, .imul, 1), (10, .bipush 8, 2), (12, .iload_n 3, 1), (13, .imul, 1), (14, .iadd, 1), (15, .iload 4, 2), (17, .iadd, 1), (18, .ireturn, 1)] : List (Nat × Instr × Nat)).all (fun e => decide (decode prog_14_method_43_code e.1 = .ok e.2)) = true := by decide +kernel
abbrev cl_211_0 : List (Nat × jm_O) := [(0, op_ic 240 3), (3, op_ic 8 2), (5, op_iload 1 1), (6, op_ibin (fun x y => x * y)), (7, op_iload 2 1), (8, op_ibin (fun x y => x + y)), (9, op_ibin (fun x y => x * y)), (10, op_ic 8 2), (12, op_iload 3 1), (13, op_ibin (fun x y => x * y)), (14, op_ibin (fun x y => x + y)), (15, op_iload 4 2), (17, op_ibin (fun x y => x + y)), (18, op_iret)]
set_option maxRecDepth 100000 in
theorem gl_211_0 : jm_gl "FrescoWallModel" prog_14_method_43_code 5 (Option.some Jvm.ClassFile.FieldType.int) false cl_211_0 :=
  jm_gc (pu_ic _ _) (sn_sipush (jm_dc dc_211_0 0 rfl) (by decide)) (
  jm_gc (pu_ic _ _) (sn_bipush (jm_dc dc_211_0 1 rfl) (by decide)) (
  jm_gc (pu_iload _ _) (sn_iload_n (i := 1) (jm_dc dc_211_0 2 rfl)) (
  jm_gc (pu_ibin _) (sn_imul (jm_dc dc_211_0 3 rfl)) (
  jm_gc (pu_iload _ _) (sn_iload_n (i := 2) (jm_dc dc_211_0 4 rfl)) (
  jm_gc (pu_ibin _) (sn_iadd (jm_dc dc_211_0 5 rfl)) (
  jm_gc (pu_ibin _) (sn_imul (jm_dc dc_211_0 6 rfl)) (
  jm_gc (pu_ic _ _) (sn_bipush (jm_dc dc_211_0 7 rfl) (by decide)) (
  jm_gc (pu_iload _ _) (sn_iload_n (i := 3) (jm_dc dc_211_0 8 rfl)) (
  jm_gc (pu_ibin _) (sn_imul (jm_dc dc_211_0 9 rfl)) (
  jm_gc (pu_ibin _) (sn_iadd (jm_dc dc_211_0 10 rfl)) (
  jm_gc (pu_iload _ _) (sn_iload (jm_dc dc_211_0 11 rfl)) (
  jm_gc (pu_ibin _) (sn_iadd (jm_dc dc_211_0 12 rfl)) (
  jm_gc (pu_iret) (sn_iret (jm_dc dc_211_0 13 rfl) rfl) (
  jm_gn))))))))))))))
theorem dc_212_0 : ([(0, .bipush 8, 2), (2, .iload_n 3, 1), (3, .imul, 1), (4, .iload 4, 2), (6, .iadd, 1), (7, .istore 5, 2), (9, .aload_n 0, 1), (10, .getfield 16, 3), (13, .aload_n 0, 1), (14, .iload_n 1, 1), (15, .iload_n 2, 1), (16, .invokevirtual 262, 3), (19, .iaload, 1), (20, .aload_n 0, 1), (21, .getfield 67, 3), (24, .aload_n 0, 1), (25, .iload_n 1, 1), (26, .iload_n 2, 1), (27, .iload_n 3, 1), (28, .iload 4, 2), (30, .invokevirtual 363, 3), (33, .iaload, 1), (34, .aload_n 0, 1), (35, .getfield 16, 3), (38, .iload 5, 2)] : List (Nat × Instr × Nat)).all (fun e => decide (decode prog_14_method_44_code e.1 = .ok e.2)) = true := by decide +kernel
abbrev cl_212_0 : List (Nat × jm_O) := [(0, op_ic 8 2), (2, op_iload 3 1), (3, op_ibin (fun x y => x * y)), (4, op_iload 4 2), (6, op_ibin (fun x y => x + y)), (7, op_istore 5 2), (9, op_aload 0 1), (10, op_getA 11 5), (13, op_aload 0 1), (14, op_iload 1 1), (15, op_iload 2 1), (16, op_callV 11 184 3), (19, op_iald 13), (20, op_aload 0 1), (21, op_getA 11 22), (24, op_aload 0 1), (25, op_iload 1 1), (26, op_iload 2 1), (27, op_iload 3 1), (28, op_iload 4 2), (30, op_callV 11 211 5), (33, op_iald 13), (34, op_aload 0 1), (35, op_getA 11 5), (38, op_iload 5 2)]
set_option maxRecDepth 100000 in
theorem gl_212_0 : jm_gl "FrescoWallModel" prog_14_method_44_code 6 (Option.some Jvm.ClassFile.FieldType.int) false cl_212_0 :=
  jm_gc (pu_ic _ _) (sn_bipush (jm_dc dc_212_0 0 rfl) (by decide)) (
  jm_gc (pu_iload _ _) (sn_iload_n (i := 3) (jm_dc dc_212_0 1 rfl)) (
  jm_gc (pu_ibin _) (sn_imul (jm_dc dc_212_0 2 rfl)) (
  jm_gc (pu_iload _ _) (sn_iload (jm_dc dc_212_0 3 rfl)) (
  jm_gc (pu_ibin _) (sn_iadd (jm_dc dc_212_0 4 rfl)) (
  jm_gc (pu_istore _ _) (sn_istore (jm_dc dc_212_0 5 rfl)) (
  jm_gc (pu_aload _ _) (sn_aload_n (i := 0) (jm_dc dc_212_0 6 rfl)) (
  jm_gc (pu_getA _ _) (sn_getA (jm_dc dc_212_0 7 rfl) fl_11_16 rfl) (
  jm_gc (pu_aload _ _) (sn_aload_n (i := 0) (jm_dc dc_212_0 8 rfl)) (
  jm_gc (pu_iload _ _) (sn_iload_n (i := 1) (jm_dc dc_212_0 9 rfl)) (
  jm_gc (pu_iload _ _) (sn_iload_n (i := 2) (jm_dc dc_212_0 10 rfl)) (
  jm_gc (pu_callV _ _ _) (sn_callV (jm_dc dc_212_0 11 rfl) lk_11_262) (
  jm_gc (pu_iald _) (sn_iald (jm_dc dc_212_0 12 rfl)) (
  jm_gc (pu_aload _ _) (sn_aload_n (i := 0) (jm_dc dc_212_0 13 rfl)) (
  jm_gc (pu_getA _ _) (sn_getA (jm_dc dc_212_0 14 rfl) fl_11_67 rfl) (
  jm_gc (pu_aload _ _) (sn_aload_n (i := 0) (jm_dc dc_212_0 15 rfl)) (
  jm_gc (pu_iload _ _) (sn_iload_n (i := 1) (jm_dc dc_212_0 16 rfl)) (
  jm_gc (pu_iload _ _) (sn_iload_n (i := 2) (jm_dc dc_212_0 17 rfl)) (
  jm_gc (pu_iload _ _) (sn_iload_n (i := 3) (jm_dc dc_212_0 18 rfl)) (
  jm_gc (pu_iload _ _) (sn_iload (jm_dc dc_212_0 19 rfl)) (
  jm_gc (pu_callV _ _ _) (sn_callV (jm_dc dc_212_0 20 rfl) lk_11_363) (
  jm_gc (pu_iald _) (sn_iald (jm_dc dc_212_0 21 rfl)) (
  jm_gc (pu_aload _ _) (sn_aload_n (i := 0) (jm_dc dc_212_0 22 rfl)) (
  jm_gc (pu_getA _ _) (sn_getA (jm_dc dc_212_0 23 rfl) fl_11_16 rfl) (
  jm_gc (pu_iload _ _) (sn_iload (jm_dc dc_212_0 24 rfl)) (
  jm_gn)))))))))))))))))))))))))
theorem dc_212_1 : ([(40, .iaload, 1), (41, .aload_n 0, 1), (42, .getfield 19, 3), (45, .iload 5, 2), (47, .iaload, 1), (48, .invokestatic 338, 3), (51, .isub, 1), (52, .ireturn, 1)] : List (Nat × Instr × Nat)).all (fun e => decide (decode prog_14_method_44_code e.1 = .ok e.2)) = true := by decide +kernel
abbrev cl_212_1 : List (Nat × jm_O) := [(40, op_iald 13), (41, op_aload 0 1), (42, op_getA 11 6), (45, op_iload 5 2), (47, op_iald 13), (48, op_callS 203 3), (51, op_ibin (fun x y => x - y)), (52, op_iret)]
set_option maxRecDepth 100000 in
theorem gl_212_1 : jm_gl "FrescoWallModel" prog_14_method_44_code 6 (Option.some Jvm.ClassFile.FieldType.int) false cl_212_1 :=
  jm_gc (pu_iald _) (sn_iald (jm_dc dc_212_1 0 rfl)) (
  jm_gc (pu_aload _ _) (sn_aload_n (i := 0) (jm_dc dc_212_1 1 rfl)) (
  jm_gc (pu_getA _ _) (sn_getA (jm_dc dc_212_1 2 rfl) fl_11_19 rfl) (
  jm_gc (pu_iload _ _) (sn_iload (jm_dc dc_212_1 3 rfl)) (
  jm_gc (pu_iald _) (sn_iald (jm_dc dc_212_1 4 rfl)) (
  jm_gc (pu_callS _ _) (sn_callS (jm_dc dc_212_1 5 rfl) lk_11_338) (
  jm_gc (pu_ibin _) (sn_isub (jm_dc dc_212_1 6 rfl)) (
  jm_gc (pu_iret) (sn_iret (jm_dc dc_212_1 7 rfl) rfl) (
  jm_gn))))))))
theorem dc_213_0 : ([(0, .bipush 8, 2), (2, .iload_n 3, 1), (3, .imul, 1), (4, .iload 4, 2), (6, .iadd, 1), (7, .istore 5, 2), (9, .aload_n 0, 1), (10, .getfield 19, 3), (13, .aload_n 0, 1), (14, .iload_n 1, 1), (15, .iload_n 2, 1), (16, .invokevirtual 262, 3), (19, .iaload, 1), (20, .aload_n 0, 1), (21, .getfield 67, 3), (24, .aload_n 0, 1), (25, .iload_n 1, 1), (26, .iload_n 2, 1), (27, .iload_n 3, 1), (28, .iload 4, 2), (30, .invokevirtual 363, 3), (33, .iaload, 1), (34, .aload_n 0, 1), (35, .getfield 16, 3), (38, .iload 5, 2)] : List (Nat × Instr × Nat)).all (fun e => decide (decode prog_14_method_45_code e.1 = .ok e.2)) = true := by decide +kernel
abbrev cl_213_0 : List (Nat × jm_O) := [(0, op_ic 8 2), (2, op_iload 3 1), (3, op_ibin (fun x y => x * y)), (4, op_iload 4 2), (6, op_ibin (fun x y => x + y)), (7, op_istore 5 2), (9, op_aload 0 1), (10, op_getA 11 6), (13, op_aload 0 1), (14, op_iload 1 1), (15, op_iload 2 1), (16, op_callV 11 184 3), (19, op_iald 13), (20, op_aload 0 1), (21, op_getA 11 22), (24, op_aload 0 1), (25, op_iload 1 1), (26, op_iload 2 1), (27, op_iload 3 1), (28, op_iload 4 2), (30, op_callV 11 211 5), (33, op_iald 13), (34, op_aload 0 1), (35, op_getA 11 5), (38, op_iload 5 2)]
set_option maxRecDepth 100000 in
theorem gl_213_0 : jm_gl "FrescoWallModel" prog_14_method_45_code 6 (Option.some Jvm.ClassFile.FieldType.int) false cl_213_0 :=
  jm_gc (pu_ic _ _) (sn_bipush (jm_dc dc_213_0 0 rfl) (by decide)) (
  jm_gc (pu_iload _ _) (sn_iload_n (i := 3) (jm_dc dc_213_0 1 rfl)) (
  jm_gc (pu_ibin _) (sn_imul (jm_dc dc_213_0 2 rfl)) (
  jm_gc (pu_iload _ _) (sn_iload (jm_dc dc_213_0 3 rfl)) (
  jm_gc (pu_ibin _) (sn_iadd (jm_dc dc_213_0 4 rfl)) (
  jm_gc (pu_istore _ _) (sn_istore (jm_dc dc_213_0 5 rfl)) (
  jm_gc (pu_aload _ _) (sn_aload_n (i := 0) (jm_dc dc_213_0 6 rfl)) (
  jm_gc (pu_getA _ _) (sn_getA (jm_dc dc_213_0 7 rfl) fl_11_19 rfl) (
  jm_gc (pu_aload _ _) (sn_aload_n (i := 0) (jm_dc dc_213_0 8 rfl)) (
  jm_gc (pu_iload _ _) (sn_iload_n (i := 1) (jm_dc dc_213_0 9 rfl)) (
  jm_gc (pu_iload _ _) (sn_iload_n (i := 2) (jm_dc dc_213_0 10 rfl)) (
  jm_gc (pu_callV _ _ _) (sn_callV (jm_dc dc_213_0 11 rfl) lk_11_262) (
  jm_gc (pu_iald _) (sn_iald (jm_dc dc_213_0 12 rfl)) (
  jm_gc (pu_aload _ _) (sn_aload_n (i := 0) (jm_dc dc_213_0 13 rfl)) (
  jm_gc (pu_getA _ _) (sn_getA (jm_dc dc_213_0 14 rfl) fl_11_67 rfl) (
  jm_gc (pu_aload _ _) (sn_aload_n (i := 0) (jm_dc dc_213_0 15 rfl)) (
  jm_gc (pu_iload _ _) (sn_iload_n (i := 1) (jm_dc dc_213_0 16 rfl)) (
  jm_gc (pu_iload _ _) (sn_iload_n (i := 2) (jm_dc dc_213_0 17 rfl)) (
  jm_gc (pu_iload _ _) (sn_iload_n (i := 3) (jm_dc dc_213_0 18 rfl)) (
  jm_gc (pu_iload _ _) (sn_iload (jm_dc dc_213_0 19 rfl)) (
  jm_gc (pu_callV _ _ _) (sn_callV (jm_dc dc_213_0 20 rfl) lk_11_363) (
  jm_gc (pu_iald _) (sn_iald (jm_dc dc_213_0 21 rfl)) (
  jm_gc (pu_aload _ _) (sn_aload_n (i := 0) (jm_dc dc_213_0 22 rfl)) (
  jm_gc (pu_getA _ _) (sn_getA (jm_dc dc_213_0 23 rfl) fl_11_16 rfl) (
  jm_gc (pu_iload _ _) (sn_iload (jm_dc dc_213_0 24 rfl)) (
  jm_gn)))))))))))))))))))))))))
theorem dc_213_1 : ([(40, .iaload, 1), (41, .aload_n 0, 1), (42, .getfield 19, 3), (45, .iload 5, 2), (47, .iaload, 1), (48, .invokestatic 341, 3), (51, .isub, 1), (52, .ireturn, 1)] : List (Nat × Instr × Nat)).all (fun e => decide (decode prog_14_method_45_code e.1 = .ok e.2)) = true := by decide +kernel
abbrev cl_213_1 : List (Nat × jm_O) := [(40, op_iald 13), (41, op_aload 0 1), (42, op_getA 11 6), (45, op_iload 5 2), (47, op_iald 13), (48, op_callS 204 3), (51, op_ibin (fun x y => x - y)), (52, op_iret)]
set_option maxRecDepth 100000 in
theorem gl_213_1 : jm_gl "FrescoWallModel" prog_14_method_45_code 6 (Option.some Jvm.ClassFile.FieldType.int) false cl_213_1 :=
  jm_gc (pu_iald _) (sn_iald (jm_dc dc_213_1 0 rfl)) (
  jm_gc (pu_aload _ _) (sn_aload_n (i := 0) (jm_dc dc_213_1 1 rfl)) (
  jm_gc (pu_getA _ _) (sn_getA (jm_dc dc_213_1 2 rfl) fl_11_19 rfl) (
  jm_gc (pu_iload _ _) (sn_iload (jm_dc dc_213_1 3 rfl)) (
  jm_gc (pu_iald _) (sn_iald (jm_dc dc_213_1 4 rfl)) (
  jm_gc (pu_callS _ _) (sn_callS (jm_dc dc_213_1 5 rfl) lk_11_341) (
  jm_gc (pu_ibin _) (sn_isub (jm_dc dc_213_1 6 rfl)) (
  jm_gc (pu_iret) (sn_iret (jm_dc dc_213_1 7 rfl) rfl) (
  jm_gn))))))))
theorem dc_214_0 : ([(0, .aload_n 0, 1), (1, .iload_n 1, 1), (2, .iload_n 2, 1), (3, .iload_n 3, 1), (4, .iload 4, 2), (6, .invokevirtual 363, 3), (9, .istore 5, 2), (11, .iload_n 1, 1), (12, .iload_n 3, 1), (13, .if_icmp .eq 32, 3), (16, .aload_n 0, 1), (17, .getfield 67, 3), (20, .iload 5, 2), (22, .iaload, 1), (23, .iconst (-1), 1), (24, .if_icmp .eq 21, 3), (27, .aload_n 0, 1), (28, .getfield 70, 3), (31, .iload 5, 2), (33, .iaload, 1), (34, .aload_n 0, 1), (35, .getfield 354, 3), (38, .if_icmp .gt 7, 3), (41, .iconst 1, 1), (42, .goto 4, 3)] : List (Nat × Instr × Nat)).all (fun e => decide (decode prog_14_method_46_code e.1 = .ok e.2)) = true := by decide +kernel
abbrev cl_214_0 : List (Nat × jm_O) := [(0, op_aload 0 1), (1, op_iload 1 1), (2, op_iload 2 1), (3, op_iload 3 1), (4, op_iload 4 2), (6, op_callV 11 211 5), (9, op_istore 5 2), (11, op_iload 1 1), (12, op_iload 3 1), (13, op_ceq 45), (16, op_aload 0 1), (17, op_getA 11 22), (20, op_iload 5 2), (22, op_iald 13), (23, op_ic (-1) 1), (24, op_ceq 45), (27, op_aload 0 1), (28, op_getA 11 23), (31, op_iload 5 2), (33, op_iald 13), (34, op_aload 0 1), (35, op_getI 11 20), (38, op_cgt 45), (41, op_ic 1 1), (42, op_goto 46)]
set_option maxRecDepth 100000 in
theorem gl_214_0 : jm_gl "FrescoWallModel" prog_14_method_46_code 6 (Option.some Jvm.ClassFile.FieldType.boolean) false cl_214_0 :=
  jm_gc (pu_aload _ _) (sn_aload_n (i := 0) (jm_dc dc_214_0 0 rfl)) (
  jm_gc (pu_iload _ _) (sn_iload_n (i := 1) (jm_dc dc_214_0 1 rfl)) (
  jm_gc (pu_iload _ _) (sn_iload_n (i := 2) (jm_dc dc_214_0 2 rfl)) (
  jm_gc (pu_iload _ _) (sn_iload_n (i := 3) (jm_dc dc_214_0 3 rfl)) (
  jm_gc (pu_iload _ _) (sn_iload (jm_dc dc_214_0 4 rfl)) (
  jm_gc (pu_callV _ _ _) (sn_callV (jm_dc dc_214_0 5 rfl) lk_11_363) (
  jm_gc (pu_istore _ _) (sn_istore (jm_dc dc_214_0 6 rfl)) (
  jm_gc (pu_iload _ _) (sn_iload_n (i := 1) (jm_dc dc_214_0 7 rfl)) (
  jm_gc (pu_iload _ _) (sn_iload_n (i := 3) (jm_dc dc_214_0 8 rfl)) (
  jm_gc (pu_ceq _) (sn_ceq (jm_dc dc_214_0 9 rfl) (by decide)) (
  jm_gc (pu_aload _ _) (sn_aload_n (i := 0) (jm_dc dc_214_0 10 rfl)) (
  jm_gc (pu_getA _ _) (sn_getA (jm_dc dc_214_0 11 rfl) fl_11_67 rfl) (
  jm_gc (pu_iload _ _) (sn_iload (jm_dc dc_214_0 12 rfl)) (
  jm_gc (pu_iald _) (sn_iald (jm_dc dc_214_0 13 rfl)) (
  jm_gc (pu_ic _ _) (sn_iconst (jm_dc dc_214_0 14 rfl) (by decide)) (
  jm_gc (pu_ceq _) (sn_ceq (jm_dc dc_214_0 15 rfl) (by decide)) (
  jm_gc (pu_aload _ _) (sn_aload_n (i := 0) (jm_dc dc_214_0 16 rfl)) (
  jm_gc (pu_getA _ _) (sn_getA (jm_dc dc_214_0 17 rfl) fl_11_70 rfl) (
  jm_gc (pu_iload _ _) (sn_iload (jm_dc dc_214_0 18 rfl)) (
  jm_gc (pu_iald _) (sn_iald (jm_dc dc_214_0 19 rfl)) (
  jm_gc (pu_aload _ _) (sn_aload_n (i := 0) (jm_dc dc_214_0 20 rfl)) (
  jm_gc (pu_getI _ _) (sn_getI (jm_dc dc_214_0 21 rfl) fl_11_354 (Or.inl rfl)) (
  jm_gc (pu_cgt _) (sn_cgt (jm_dc dc_214_0 22 rfl) (by decide)) (
  jm_gc (pu_ic _ _) (sn_iconst (jm_dc dc_214_0 23 rfl) (by decide)) (
  jm_gc (pu_goto _) (sn_goto (jm_dc dc_214_0 24 rfl) (by decide)) (
  jm_gn)))))))))))))))))))))))))
theorem dc_214_1 : ([(45, .iconst 0, 1), (46, .ireturn, 1)] : List (Nat × Instr × Nat)).all (fun e => decide (decode prog_14_method_46_code e.1 = .ok e.2)) = true := by decide +kernel
abbrev cl_214_1 : List (Nat × jm_O) := [(45, op_ic 0 1), (46, op_zret)]
set_option maxRecDepth 100000 in
theorem gl_214_1 : jm_gl "FrescoWallModel" prog_14_method_46_code 6 (Option.some Jvm.ClassFile.FieldType.boolean) false cl_214_1 :=
  jm_gc (pu_ic _ _) (sn_iconst (jm_dc dc_214_1 0 rfl) (by decide)) (
  jm_gc (pu_zret) (sn_zret (jm_dc dc_214_1 1 rfl) rfl) (
  jm_gn))
theorem dc_215_0 : ([(0, .aload_n 0, 1), (1, .getfield 37, 3), (4, .iload_n 1, 1), (5, .iaload, 1), (6, .aload_n 0, 1), (7, .getfield 37, 3), (10, .iload_n 3, 1), (11, .iaload, 1), (12, .if_icmp .ge 19, 3), (15, .aload_n 0, 1), (16, .getfield 37, 3), (19, .iload_n 3, 1), (20, .iaload, 1), (21, .aload_n 0, 1), (22, .getfield 37, 3), (25, .iload_n 1, 1), (26, .iaload, 1), (27, .isub, 1), (28, .goto 16, 3), (31, .aload_n 0, 1), (32, .getfield 37, 3), (35, .iload_n 1, 1), (36, .iaload, 1), (37, .aload_n 0, 1), (38, .getfield 37, 3)] : List (Nat × Instr × Nat)).all (fun e => decide (decode prog_14_method_47_code e.1 = .ok e.2)) = true := by decide +kernel
abbrev cl_215_0 : List (Nat × jm_O) := [(0, op_aload 0 1), (1, op_getA 11 12), (4, op_iload 1 1), (5, op_iald 13), (6, op_aload 0 1), (7, op_getA 11 12), (10, op_iload 3 1), (11, op_iald 13), (12, op_cge 31), (15, op_aload 0 1), (16, op_getA 11 12), (19, op_iload 3 1), (20, op_iald 13), (21, op_aload 0 1), (22, op_getA 11 12), (25, op_iload 1 1), (26, op_iald 13), (27, op_ibin (fun x y => x - y)), (28, op_goto 44), (31, op_aload 0 1), (32, op_getA 11 12), (35, op_iload 1 1), (36, op_iald 13), (37, op_aload 0 1), (38, op_getA 11 12)]
set_option maxRecDepth 100000 in
theorem gl_215_0 : jm_gl "FrescoWallModel" prog_14_method_47_code 7 (Option.some Jvm.ClassFile.FieldType.int) false cl_215_0 :=
  jm_gc (pu_aload _ _) (sn_aload_n (i := 0) (jm_dc dc_215_0 0 rfl)) (
  jm_gc (pu_getA _ _) (sn_getA (jm_dc dc_215_0 1 rfl) fl_11_37 rfl) (
  jm_gc (pu_iload _ _) (sn_iload_n (i := 1) (jm_dc dc_215_0 2 rfl)) (
  jm_gc (pu_iald _) (sn_iald (jm_dc dc_215_0 3 rfl)) (
  jm_gc (pu_aload _ _) (sn_aload_n (i := 0) (jm_dc dc_215_0 4 rfl)) (
  jm_gc (pu_getA _ _) (sn_getA (jm_dc dc_215_0 5 rfl) fl_11_37 rfl) (
  jm_gc (pu_iload _ _) (sn_iload_n (i := 3) (jm_dc dc_215_0 6 rfl)) (
  jm_gc (pu_iald _) (sn_iald (jm_dc dc_215_0 7 rfl)) (
  jm_gc (pu_cge _) (sn_cge (jm_dc dc_215_0 8 rfl) (by decide)) (
  jm_gc (pu_aload _ _) (sn_aload_n (i := 0) (jm_dc dc_215_0 9 rfl)) (
  jm_gc (pu_getA _ _) (sn_getA (jm_dc dc_215_0 10 rfl) fl_11_37 rfl) (
  jm_gc (pu_iload _ _) (sn_iload_n (i := 3) (jm_dc dc_215_0 11 rfl)) (
  jm_gc (pu_iald _) (sn_iald (jm_dc dc_215_0 12 rfl)) (
  jm_gc (pu_aload _ _) (sn_aload_n (i := 0) (jm_dc dc_215_0 13 rfl)) (
  jm_gc (pu_getA _ _) (sn_getA (jm_dc dc_215_0 14 rfl) fl_11_37 rfl) (
  jm_gc (pu_iload _ _) (sn_iload_n (i := 1) (jm_dc dc_215_0 15 rfl)) (
  jm_gc (pu_iald _) (sn_iald (jm_dc dc_215_0 16 rfl)) (
  jm_gc (pu_ibin _) (sn_isub (jm_dc dc_215_0 17 rfl)) (
  jm_gc (pu_goto _) (sn_goto (jm_dc dc_215_0 18 rfl) (by decide)) (
  jm_gc (pu_aload _ _) (sn_aload_n (i := 0) (jm_dc dc_215_0 19 rfl)) (
  jm_gc (pu_getA _ _) (sn_getA (jm_dc dc_215_0 20 rfl) fl_11_37 rfl) (
  jm_gc (pu_iload _ _) (sn_iload_n (i := 1) (jm_dc dc_215_0 21 rfl)) (
  jm_gc (pu_iald _) (sn_iald (jm_dc dc_215_0 22 rfl)) (
  jm_gc (pu_aload _ _) (sn_aload_n (i := 0) (jm_dc dc_215_0 23 rfl)) (
  jm_gc (pu_getA _ _) (sn_getA (jm_dc dc_215_0 24 rfl) fl_11_37 rfl) (
  jm_gn)))))))))))))))))))))))))
theorem dc_215_1 : ([(41, .iload_n 3, 1), (42, .iaload, 1), (43, .isub, 1), (44, .istore 5, 2), (46, .aload_n 0, 1), (47, .getfield 40, 3), (50, .iload_n 1, 1), (51, .iaload, 1), (52, .iconst (-1), 1), (53, .if_icmp .eq 51, 3), (56, .aload_n 0, 1), (57, .getfield 40, 3), (60, .iload_n 3, 1), (61, .iaload, 1), (62, .iconst (-1), 1), (63, .if_icmp .eq 41, 3), (66, .aload_n 0, 1), (67, .getfield 40, 3), (70, .iload_n 1, 1), (71, .iaload, 1), (72, .aload_n 0, 1), (73, .getfield 40, 3), (76, .iload_n 3, 1), (77, .iaload, 1), (78, .iconst 2, 1)] : List (Nat × Instr × Nat)).all (fun e => decide (decode prog_14_method_47_code e.1 = .ok e.2)) = true := by decide +kernel
abbrev cl_215_1 : List (Nat × jm_O) := [(41, op_iload 3 1), (42, op_iald 13), (43, op_ibin (fun x y => x - y)), (44, op_istore 5 2), (46, op_aload 0 1), (47, op_getA 11 13), (50, op_iload 1 1), (51, op_iald 13), (52, op_ic (-1) 1), (53, op_ceq 104), (56, op_aload 0 1), (57, op_getA 11 13), (60, op_iload 3 1), (61, op_iald 13), (62, op_ic (-1) 1), (63, op_ceq 104), (66, op_aload 0 1), (67, op_getA 11 13), (70, op_iload 1 1), (71, op_iald 13), (72, op_aload 0 1), (73, op_getA 11 13), (76, op_iload 3 1), (77, op_iald 13), (78, op_ic 2 1)]
set_option maxRecDepth 100000 in
theorem gl_215_1 : jm_gl "FrescoWallModel" prog_14_method_47_code 7 (Option.some Jvm.ClassFile.FieldType.int) false cl_215_1 :=
  jm_gc (pu_iload _ _) (sn_iload_n (i := 3) (jm_dc dc_215_1 0 rfl)) (
  jm_gc (pu_iald _) (sn_iald (jm_dc dc_215_1 1 rfl)) (
  jm_gc (pu_ibin _) (sn_isub (jm_dc dc_215_1 2 rfl)) (
  jm_gc (pu_istore _ _) (sn_istore (jm_dc dc_215_1 3 rfl)) (
  jm_gc (pu_aload _ _) (sn_aload_n (i := 0) (jm_dc dc_215_1 4 rfl)) (
  jm_gc (pu_getA _ _) (sn_getA (jm_dc dc_215_1 5 rfl) fl_11_40 rfl) (
  jm_gc (pu_iload _ _) (sn_iload_n (i := 1) (jm_dc dc_215_1 6 rfl)) (
  jm_gc (pu_iald _) (sn_iald (jm_dc dc_215_1 7 rfl)) (
  jm_gc (pu_ic _ _) (sn_iconst (jm_dc dc_215_1 8 rfl) (by decide)) (
  jm_gc (pu_ceq _) (sn_ceq (jm_dc dc_215_1 9 rfl) (by decide)) (
  jm_gc (pu_aload _ _) (sn_aload_n (i := 0) (jm_dc dc_215_1 10 rfl)) (
  jm_gc (pu_getA _ _) (sn_getA (jm_dc dc_215_1 11 rfl) fl_11_40 rfl) (
  jm_gc (pu_iload _ _) (sn_iload_n (i := 3) (jm_dc dc_215_1 12 rfl)) (
  jm_gc (pu_iald _) (sn_iald (jm_dc dc_215_1 13 rfl)) (
  jm_gc (pu_ic _ _) (sn_iconst (jm_dc dc_215_1 14 rfl) (by decide)) (
  jm_gc (pu_ceq _) (sn_ceq (jm_dc dc_215_1 15 rfl) (by decide)) (
  jm_gc (pu_aload _ _) (sn_aload_n (i := 0) (jm_dc dc_215_1 16 rfl)) (
  jm_gc (pu_getA _ _) (sn_getA (jm_dc dc_215_1 17 rfl) fl_11_40 rfl) (
  jm_gc (pu_iload _ _) (sn_iload_n (i := 1) (jm_dc dc_215_1 18 rfl)) (
  jm_gc (pu_iald _) (sn_iald (jm_dc dc_215_1 19 rfl)) (
  jm_gc (pu_aload _ _) (sn_aload_n (i := 0) (jm_dc dc_215_1 20 rfl)) (
  jm_gc (pu_getA _ _) (sn_getA (jm_dc dc_215_1 21 rfl) fl_11_40 rfl) (
  jm_gc (pu_iload _ _) (sn_iload_n (i := 3) (jm_dc dc_215_1 22 rfl)) (
  jm_gc (pu_iald _) (sn_iald (jm_dc dc_215_1 23 rfl)) (
  jm_gc (pu_ic _ _) (sn_iconst (jm_dc dc_215_1 24 rfl) (by decide)) (
  jm_gn)))))))))))))))))))))))))
theorem dc_215_2 : ([(79, .aload_n 0, 1), (80, .getfield 67, 3), (83, .aload_n 0, 1), (84, .iload_n 1, 1), (85, .iload_n 2, 1), (86, .iload_n 3, 1), (87, .iload 4, 2), (89, .invokevirtual 363, 3), (92, .iaload, 1), (93, .imul, 1), (94, .iadd, 1), (95, .iconst 4, 1), (96, .irem, 1), (97, .if_icmp .ne 7, 3), (100, .iconst 1, 1), (101, .goto 4, 3), (104, .iconst 0, 1), (105, .istore 6, 2), (107, .iconst 2, 1), (108, .aload_n 0, 1), (109, .getfield 63, 3), (112, .bipush 10, 2), (114, .aload_n 0, 1), (115, .getfield 22, 3), (118, .bipush 8, 2)] : List (Nat × Instr × Nat)).all (fun e => decide (decode prog_14_method_47_code e.1 = .ok e.2)) = true := by decide +kernel
abbrev cl_215_2 : List (Nat × jm_O) := [(79, op_aload 0 1), (80, op_getA 11 22), (83, op_aload 0 1), (84, op_iload 1 1), (85, op_iload 2 1), (86, op_iload 3 1), (87, op_iload 4 2), (89, op_callV 11 211 5), (92, op_iald 13), (93, op_ibin (fun x y => x * y)), (94, op_ibin (fun x y => x + y)), (95, op_ic 4 1), (96, op_idz (fun x y => x - x / y * y)), (97, op_cne 104), (100, op_ic 1 1), (101, op_goto 105), (104, op_ic 0 1), (105, op_istore 6 2), (107, op_ic 2 1), (108, op_aload 0 1), (109, op_getA 11 21), (112, op_ic 10 2), (114, op_aload 0 1), (115, op_getA 11 7), (118, op_ic 8 2)]
set_option maxRecDepth 100000 in
theorem gl_215_2 : jm_gl "FrescoWallModel" prog_14_method_47_code 7 (Option.some Jvm.ClassFile.FieldType.int) false cl_215_2 :=
  jm_gc (pu_aload _ _) (sn_aload_n (i := 0) (jm_dc dc_215_2 0 rfl)) (
  jm_gc (pu_getA _ _) (sn_getA (jm_dc dc_215_2 1 rfl) fl_11_67 rfl) (
  jm_gc (pu_aload _ _) (sn_aload_n (i := 0) (jm_dc dc_215_2 2 rfl)) (
  jm_gc (pu_iload _ _) (sn_iload_n (i := 1) (jm_dc dc_215_2 3 rfl)) (
  jm_gc (pu_iload _ _) (sn_iload_n (i := 2) (jm_dc dc_215_2 4 rfl)) (
  jm_gc (pu_iload _ _) (sn_iload_n (i := 3) (jm_dc dc_215_2 5 rfl)) (
  jm_gc (pu_iload _ _) (sn_iload (jm_dc dc_215_2 6 rfl)) (
  jm_gc (pu_callV _ _ _) (sn_callV (jm_dc dc_215_2 7 rfl) lk_11_363) (
  jm_gc (pu_iald _) (sn_iald (jm_dc dc_215_2 8 rfl)) (
  jm_gc (pu_ibin _) (sn_imul (jm_dc dc_215_2 9 rfl)) (
  jm_gc (pu_ibin _) (sn_iadd (jm_dc dc_215_2 10 rfl)) (
  jm_gc (pu_ic _ _) (sn_iconst (jm_dc dc_215_2 11 rfl) (by decide)) (
  jm_gc (pu_idz _) (sn_irem (jm_dc dc_215_2 12 rfl)) (
  jm_gc (pu_cne _) (sn_cne (jm_dc dc_215_2 13 rfl) (by decide)) (
  jm_gc (pu_ic _ _) (sn_iconst (jm_dc dc_215_2 14 rfl) (by decide)) (
  jm_gc (pu_goto _) (sn_goto (jm_dc dc_215_2 15 rfl) (by decide)) (
  jm_gc (pu_ic _ _) (sn_iconst (jm_dc dc_215_2 16 rfl) (by decide)) (
  jm_gc (pu_istore _ _) (sn_istore (jm_dc dc_215_2 17 rfl)) (
  jm_gc (pu_ic _ _) (sn_iconst (jm_dc dc_215_2 18 rfl) (by decide)) (
  jm_gc (pu_aload _ _) (sn_aload_n (i := 0) (jm_dc dc_215_2 19 rfl)) (
  jm_gc (pu_getA _ _) (sn_getA (jm_dc dc_215_2 20 rfl) fl_11_63 rfl) (
  jm_gc (pu_ic _ _) (sn_bipush (jm_dc dc_215_2 21 rfl) (by decide)) (
  jm_gc (pu_aload _ _) (sn_aload_n (i := 0) (jm_dc dc_215_2 22 rfl)) (
  jm_gc (pu_getA _ _) (sn_getA (jm_dc dc_215_2 23 rfl) fl_11_22 rfl) (
  jm_gc (pu_ic _ _) (sn_bipush (jm_dc dc_215_2 24 rfl) (by decide)) (
  jm_gn)))))))))))))))))))))))))
theorem dc_215_3 : ([(120, .iload_n 1, 1), (121, .imul, 1), (122, .iload_n 2, 1), (123, .iadd, 1), (124, .iaload, 1), (125, .imul, 1), (126, .aload_n 0, 1), (127, .getfield 22, 3), (130, .bipush 8, 2), (132, .iload_n 3, 1), (133, .imul, 1), (134, .iload 4, 2), (136, .iadd, 1), (137, .iaload, 1), (138, .iadd, 1), (139, .iaload, 1), (140, .imul, 1), (141, .iload 5, 2), (143, .bipush 9, 2), (145, .if_icmp .ge 11, 3), (148, .bipush 9, 2), (150, .iload 5, 2), (152, .isub, 1), (153, .goto 4, 3), (156, .iconst 0, 1)] : List (Nat × Instr × Nat)).all (fun e => decide (decode prog_14_method_47_code e.1 = .ok e.2)) = true := by decide +kernel
abbrev cl_215_3 : List (Nat × jm_O) := [(120, op_iload 1 1), (121, op_ibin (fun x y => x * y)), (122, op_iload 2 1), (123, op_ibin (fun x y => x + y)), (124, op_iald 13), (125, op_ibin (fun x y => x * y)), (126, op_aload 0 1), (127, op_getA 11 7), (130, op_ic 8 2), (132, op_iload 3 1), (133, op_ibin (fun x y => x * y)), (134, op_iload 4 2), (136, op_ibin (fun x y => x + y)), (137, op_iald 13), (138, op_ibin (fun x y => x + y)), (139, op_iald 13), (140, op_ibin (fun x y => x * y)), (141, op_iload 5 2), (143, op_ic 9 2), (145, op_cge 156), (148, op_ic 9 2), (150, op_iload 5 2), (152, op_ibin (fun x y => x - y)), (153, op_goto 157), (156, op_ic 0 1)]
set_option maxRecDepth 100000 in
theorem gl_215_3 : jm_gl "FrescoWallModel" prog_14_method_47_code 7 (Option.some Jvm.ClassFile.FieldType.int) false cl_215_3 :=
  jm_gc (pu_iload _ _) (sn_iload_n (i := 1) (jm_dc dc_215_3 0 rfl)) (
  jm_gc (pu_ibin _) (sn_imul (jm_dc dc_215_3 1 rfl)) (
  jm_gc (pu_iload _ _) (sn_iload_n (i := 2) (jm_dc dc_215_3 2 rfl)) (
  jm_gc (pu_ibin _) (sn_iadd (jm_dc dc_215_3 3 rfl)) (
  jm_gc (pu_iald _) (sn_iald (jm_dc dc_215_3 4 rfl)) (
  jm_gc (pu_ibin _) (sn_imul (jm_dc dc_215_3 5 rfl)) (
  jm_gc (pu_aload _ _) (sn_aload_n (i := 0) (jm_dc dc_215_3 6 rfl)) (
  jm_gc (pu_getA _ _) (sn_getA (jm_dc dc_215_3 7 rfl) fl_11_22 rfl) (
  jm_gc (pu_ic _ _) (sn_bipush (jm_dc dc_215_3 8 rfl) (by decide)) (
  jm_gc (pu_iload _ _) (sn_iload_n (i := 3) (jm_dc dc_215_3 9 rfl)) (
  jm_gc (pu_ibin _) (sn_imul (jm_dc dc_215_3 10 rfl)) (
  jm_gc (pu_iload _ _) (sn_iload (jm_dc dc_215_3 11 rfl)) (
  jm_gc (pu_ibin _) (sn_iadd (jm_dc dc_215_3 12 rfl)) (
  jm_gc (pu_iald _) (sn_iald (jm_dc dc_215_3 13 rfl)) (
  jm_gc (pu_ibin _) (sn_iadd (jm_dc dc_215_3 14 rfl)) (
  jm_gc (pu_iald _) (sn_iald (jm_dc dc_215_3 15 rfl)) (
  jm_gc (pu_ibin _) (sn_imul (jm_dc dc_215_3 16 rfl)) (
  jm_gc (pu_iload _ _) (sn_iload (jm_dc dc_215_3 17 rfl)) (
  jm_gc (pu_ic _ _) (sn_bipush (jm_dc dc_215_3 18 rfl) (by decide)) (
  jm_gc (pu_cge _) (sn_cge (jm_dc dc_215_3 19 rfl) (by decide)) (
  jm_gc (pu_ic _ _) (sn_bipush (jm_dc dc_215_3 20 rfl) (by decide)) (
  jm_gc (pu_iload _ _) (sn_iload (jm_dc dc_215_3 21 rfl)) (
  jm_gc (pu_ibin _) (sn_isub (jm_dc dc_215_3 22 rfl)) (
  jm_gc (pu_goto _) (sn_goto (jm_dc dc_215_3 23 rfl) (by decide)) (
  jm_gc (pu_ic _ _) (sn_iconst (jm_dc dc_215_3 24 rfl) (by decide)) (
  jm_gn)))))))))))))))))))))))))
theorem dc_215_4 : ([(157, .iadd, 1), (158, .iload 6, 2), (160, .ifCond .eq 7, 3), (163, .iconst 5, 1), (164, .goto 4, 3), (167, .iconst 0, 1), (168, .iadd, 1), (169, .ireturn, 1)] : List (Nat × Instr × Nat)).all (fun e => decide (decode prog_14_method_47_code e.1 = .ok e.2)) = true := by decide +kernel
abbrev cl_215_4 : List (Nat × jm_O) := [(157, op_ibin (fun x y => x + y)), (158, op_iload 6 2), (160, op_ifeq 167), (163, op_ic 5 1), (164, op_goto 168), (167, op_ic 0 1), (168, op_ibin (fun x y => x + y)), (169, op_iret)]
set_option maxRecDepth 100000 in
theorem gl_215_4 : jm_gl "FrescoWallModel" prog_14_method_47_code 7 (Option.some Jvm.ClassFile.FieldType.int) false cl_215_4 :=
  jm_gc (pu_ibin _) (sn_iadd (jm_dc dc_215_4 0 rfl)) (
  jm_gc (pu_iload _ _) (sn_iload (jm_dc dc_215_4 1 rfl)) (
  jm_gc (pu_ifeq _) (sn_ifeq (jm_dc dc_215_4 2 rfl) (by decide)) (
  jm_gc (pu_ic _ _) (sn_iconst (jm_dc dc_215_4 3 rfl) (by decide)) (
  jm_gc (pu_goto _) (sn_goto (jm_dc dc_215_4 4 rfl) (by decide)) (
  jm_gc (pu_ic _ _) (sn_iconst (jm_dc dc_215_4 5 rfl) (by decide)) (
  jm_gc (pu_ibin _) (sn_iadd (jm_dc dc_215_4 6 rfl)) (
  jm_gc (pu_iret) (sn_iret (jm_dc dc_215_4 7 rfl) rfl) (
  jm_gn))))))))
theorem dc_216_0 : ([(0, .iload_n 1, 1), (1, .iconst 0, 1), (2, .bipush 9, 2), (4, .invokestatic 218, 3), (7, .ifCond .eq 13, 3), (10, .iload_n 2, 1), (11, .iconst 0, 1), (12, .bipush 9, 2), (14, .invokestatic 218, 3), (17, .ifCond .ne 5, 3), (20, .iconst (-1), 1), (21, .ireturn, 1), (22, .iload_n 3, 1), (23, .iconst 0, 1), (24, .bipush 9, 2), (26, .invokestatic 218, 3), (29, .ifCond .ne 6, 3), (32, .bipush (-2), 2), (34, .ireturn, 1), (35, .aload_n 0, 1), (36, .getfield 63, 3), (39, .bipush 10, 2), (41, .iload_n 1, 1), (42, .imul, 1), (43, .iload_n 2, 1)] : List (Nat × Instr × Nat)).all (fun e => decide (decode prog_14_method_48_code e.1 = .ok e.2)) = true := by decide +kernel
abbrev cl_216_0 : List (Nat × jm_O) := [(0, op_iload 1 1), (1, op_ic 0 1), (2, op_ic 9 2), (4, op_callS 171 3), (7, op_ifeq 20), (10, op_iload 2 1), (11, op_ic 0 1), (12, op_ic 9 2), (14, op_callS 171 3), (17, op_ifne 22), (20, op_ic (-1) 1), (21, op_iret), (22, op_iload 3 1), (23, op_ic 0 1), (24, op_ic 9 2), (26, op_callS 171 3), (29, op_ifne 35), (32, op_ic (-2) 2), (34, op_iret), (35, op_aload 0 1), (36, op_getA 11 21), (39, op_ic 10 2), (41, op_iload 1 1), (42, op_ibin (fun x y => x * y)), (43, op_iload 2 1)]
set_option maxRecDepth 100000 in
theorem gl_216_0 : jm_gl "FrescoWallModel" prog_14_method_48_code 5 (Option.some Jvm.ClassFile.FieldType.int) false cl_216_0 :=
  jm_gc (pu_iload _ _) (sn_iload_n (i := 1) (jm_dc dc_216_0 0 rfl)) (
  jm_gc (pu_ic _ _) (sn_iconst (jm_dc dc_216_0 1 rfl) (by decide)) (
  jm_gc (pu_ic _ _) (sn_bipush (jm_dc dc_216_0 2 rfl) (by decide)) (
  jm_gc (pu_callS _ _) (sn_callS (jm_dc dc_216_0 3 rfl) lk_11_218) (
  jm_gc (pu_ifeq _) (sn_ifeq (jm_dc dc_216_0 4 rfl) (by decide)) (
  jm_gc (pu_iload _ _) (sn_iload_n (i := 2) (jm_dc dc_216_0 5 rfl)) (
  jm_gc (pu_ic _ _) (sn_iconst (jm_dc dc_216_0 6 rfl) (by decide)) (
  jm_gc (pu_ic _ _) (sn_bipush (jm_dc dc_216_0 7 rfl) (by decide)) (
  jm_gc (pu_callS _ _) (sn_callS (jm_dc dc_216_0 8 rfl) lk_11_218) (
  jm_gc (pu_ifne _) (sn_ifne (jm_dc dc_216_0 9 rfl) (by decide)) (
  jm_gc (pu_ic _ _) (sn_iconst (jm_dc dc_216_0 10 rfl) (by decide)) (
  jm_gc (pu_iret) (sn_iret (jm_dc dc_216_0 11 rfl) rfl) (
  jm_gc (pu_iload _ _) (sn_iload_n (i := 3) (jm_dc dc_216_0 12 rfl)) (
  jm_gc (pu_ic _ _) (sn_iconst (jm_dc dc_216_0 13 rfl) (by decide)) (
  jm_gc (pu_ic _ _) (sn_bipush (jm_dc dc_216_0 14 rfl) (by decide)) (
  jm_gc (pu_callS _ _) (sn_callS (jm_dc dc_216_0 15 rfl) lk_11_218) (
  jm_gc (pu_ifne _) (sn_ifne (jm_dc dc_216_0 16 rfl) (by decide)) (
  jm_gc (pu_ic _ _) (sn_bipush (jm_dc dc_216_0 17 rfl) (by decide)) (
  jm_gc (pu_iret) (sn_iret (jm_dc dc_216_0 18 rfl) rfl) (
  jm_gc (pu_aload _ _) (sn_aload_n (i := 0) (jm_dc dc_216_0 19 rfl)) (
  jm_gc (pu_getA _ _) (sn_getA (jm_dc dc_216_0 20 rfl) fl_11_63 rfl) (
  jm_gc (pu_ic _ _) (sn_bipush (jm_dc dc_216_0 21 rfl) (by decide)) (
  jm_gc (pu_iload _ _) (sn_iload_n (i := 1) (jm_dc dc_216_0 22 rfl)) (
  jm_gc (pu_ibin _) (sn_imul (jm_dc dc_216_0 23 rfl)) (
  jm_gc (pu_iload _ _) (sn_iload_n (i := 2) (jm_dc dc_216_0 24 rfl)) (
  jm_gn)))))))))))))))))))))))))
theorem dc_216_1 : ([(44, .iadd, 1), (45, .iaload, 1), (46, .istore 4, 2), (48, .aload_n 0, 1), (49, .getfield 63, 3), (52, .bipush 10, 2), (54, .iload_n 1, 1), (55, .imul, 1), (56, .iload_n 2, 1), (57, .iadd, 1), (58, .iload_n 3, 1), (59, .iastore, 1), (60, .aload_n 0, 1), (61, .getfield 63, 3), (64, .bipush 10, 2), (66, .iload_n 2, 1), (67, .imul, 1), (68, .iload_n 1, 1), (69, .iadd, 1), (70, .iload_n 3, 1), (71, .iastore, 1), (72, .iload 4, 2), (74, .ireturn, 1)] : List (Nat × Instr × Nat)).all (fun e => decide (decode prog_14_method_48_code e.1 = .ok e.2)) = true := by decide +kernel
abbrev cl_216_1 : List (Nat × jm_O) := [(44, op_ibin (fun x y => x + y)), (45, op_iald 13), (46, op_istore 4 2), (48, op_aload 0 1), (49, op_getA 11 21), (52, op_ic 10 2), (54, op_iload 1 1), (55, op_ibin (fun x y => x * y)), (56, op_iload 2 1), (57, op_ibin (fun x y => x + y)), (58, op_iload 3 1), (59, op_iast), (60, op_aload 0 1), (61, op_getA 11 21), (64, op_ic 10 2), (66, op_iload 2 1), (67, op_ibin (fun x y => x * y)), (68, op_iload 1 1), (69, op_ibin (fun x y => x + y)), (70, op_iload 3 1), (71, op_iast), (72, op_iload 4 2), (74, op_iret)]
set_option maxRecDepth 100000 in
theorem gl_216_1 : jm_gl "FrescoWallModel" prog_14_method_48_code 5 (Option.some Jvm.ClassFile.FieldType.int) false cl_216_1 :=
  jm_gc (pu_ibin _) (sn_iadd (jm_dc dc_216_1 0 rfl)) (
  jm_gc (pu_iald _) (sn_iald (jm_dc dc_216_1 1 rfl)) (
  jm_gc (pu_istore _ _) (sn_istore (jm_dc dc_216_1 2 rfl)) (
  jm_gc (pu_aload _ _) (sn_aload_n (i := 0) (jm_dc dc_216_1 3 rfl)) (
  jm_gc (pu_getA _ _) (sn_getA (jm_dc dc_216_1 4 rfl) fl_11_63 rfl) (
  jm_gc (pu_ic _ _) (sn_bipush (jm_dc dc_216_1 5 rfl) (by decide)) (
  jm_gc (pu_iload _ _) (sn_iload_n (i := 1) (jm_dc dc_216_1 6 rfl)) (
  jm_gc (pu_ibin _) (sn_imul (jm_dc dc_216_1 7 rfl)) (
  jm_gc (pu_iload _ _) (sn_iload_n (i := 2) (jm_dc dc_216_1 8 rfl)) (
  jm_gc (pu_ibin _) (sn_iadd (jm_dc dc_216_1 9 rfl)) (
  jm_gc (pu_iload _ _) (sn_iload_n (i := 3) (jm_dc dc_216_1 10 rfl)) (
  jm_gc (pu_iast) (sn_iast (jm_dc dc_216_1 11 rfl)) (
  jm_gc (pu_aload _ _) (sn_aload_n (i := 0) (jm_dc dc_216_1 12 rfl)) (
  jm_gc (pu_getA _ _) (sn_getA (jm_dc dc_216_1 13 rfl) fl_11_63 rfl) (
  jm_gc (pu_ic _ _) (sn_bipush (jm_dc dc_216_1 14 rfl) (by decide)) (
  jm_gc (pu_iload _ _) (sn_iload_n (i := 2) (jm_dc dc_216_1 15 rfl)) (
  jm_gc (pu_ibin _) (sn_imul (jm_dc dc_216_1 16 rfl)) (
  jm_gc (pu_iload _ _) (sn_iload_n (i := 1) (jm_dc dc_216_1 17 rfl)) (
  jm_gc (pu_ibin _) (sn_iadd (jm_dc dc_216_1 18 rfl)) (
  jm_gc (pu_iload _ _) (sn_iload_n (i := 3) (jm_dc dc_216_1 19 rfl)) (
  jm_gc (pu_iast) (sn_iast (jm_dc dc_216_1 20 rfl)) (
  jm_gc (pu_iload _ _) (sn_iload (jm_dc dc_216_1 21 rfl)) (
  jm_gc (pu_iret) (sn_iret (jm_dc dc_216_1 22 rfl) rfl) (
  jm_gn)))))))))))))))))))))))
theorem dc_217_0 : ([(0, .aload_n 0, 1), (1, .iload_n 1, 1), (2, .iload_n 2, 1), (3, .invokevirtual 335, 3), (6, .ifCond .eq 13, 3), (9, .aload_n 0, 1), (10, .iload_n 3, 1), (11, .iload 4, 2), (13, .invokevirtual 335, 3), (16, .ifCond .ne 5, 3), (19, .iconst (-1), 1), (20, .ireturn, 1), (21, .iload_n 1, 1), (22, .iload_n 3, 1), (23, .if_icmp .ne 8, 3), (26, .bipush (-2), 2), (28, .goto 29, 3), (31, .aload_n 0, 1), (32, .iload_n 1, 1), (33, .iload_n 2, 1), (34, .iload_n 3, 1), (35, .iload 4, 2), (37, .invokevirtual 366, 3), (40, .ifCond .eq 15, 3), (43, .aload_n 0, 1)] : List (Nat × Instr × Nat)).all (fun e => decide (decode prog_14_method_49_code e.1 = .ok e.2)) = true := by decide +kernel
abbrev cl_217_0 : List (Nat × jm_O) := [(0, op_aload 0 1), (1, op_iload 1 1), (2, op_iload 2 1), (3, op_callV 11 173 3), (6, op_ifeq 19), (9, op_aload 0 1), (10, op_iload 3 1), (11, op_iload 4 2), (13, op_callV 11 173 3), (16, op_ifne 21), (19, op_ic (-1) 1), (20, op_iret), (21, op_iload 1 1), (22, op_iload 3 1), (23, op_cne 31), (26, op_ic (-2) 2), (28, op_goto 57), (31, op_aload 0 1), (32, op_iload 1 1), (33, op_iload 2 1), (34, op_iload 3 1), (35, op_iload 4 2), (37, op_callV 11 214 5), (40, op_ifeq 55), (43, op_aload 0 1)]
set_option maxRecDepth 100000 in
theorem gl_217_0 : jm_gl "FrescoWallModel" prog_14_method_49_code 5 (Option.some Jvm.ClassFile.FieldType.int) false cl_217_0 :=
  jm_gc (pu_aload _ _) (sn_aload_n (i := 0) (jm_dc dc_217_0 0 rfl)) (
  jm_gc (pu_iload _ _) (sn_iload_n (i := 1) (jm_dc dc_217_0 1 rfl)) (
  jm_gc (pu_iload _ _) (sn_iload_n (i := 2) (jm_dc dc_217_0 2 rfl)) (
  jm_gc (pu_callV _ _ _) (sn_callV (jm_dc dc_217_0 3 rfl) lk_11_335) (
  jm_gc (pu_ifeq _) (sn_ifeq (jm_dc dc_217_0 4 rfl) (by decide)) (
  jm_gc (pu_aload _ _) (sn_aload_n (i := 0) (jm_dc dc_217_0 5 rfl)) (
  jm_gc (pu_iload _ _) (sn_iload_n (i := 3) (jm_dc dc_217_0 6 rfl)) (
  jm_gc (pu_iload _ _) (sn_iload (jm_dc dc_217_0 7 rfl)) (
  jm_gc (pu_callV _ _ _) (sn_callV (jm_dc dc_217_0 8 rfl) lk_11_335) (
  jm_gc (pu_ifne _) (sn_ifne (jm_dc dc_217_0 9 rfl) (by decide)) (
  jm_gc (pu_ic _ _) (sn_iconst (jm_dc dc_217_0 10 rfl) (by decide)) (
  jm_gc (pu_iret) (sn_iret (jm_dc dc_217_0 11 rfl) rfl) (
  jm_gc (pu_iload _ _) (sn_iload_n (i := 1) (jm_dc dc_217_0 12 rfl)) (
  jm_gc (pu_iload _ _) (sn_iload_n (i := 3) (jm_dc dc_217_0 13 rfl)) (
  jm_gc (pu_cne _) (sn_cne (jm_dc dc_217_0 14 rfl) (by decide)) (
  jm_gc (pu_ic _ _) (sn_bipush (jm_dc dc_217_0 15 rfl) (by decide)) (
  jm_gc (pu_goto _) (sn_goto (jm_dc dc_217_0 16 rfl) (by decide)) (
  jm_gc (pu_aload _ _) (sn_aload_n (i := 0) (jm_dc dc_217_0 17 rfl)) (
  jm_gc (pu_iload _ _) (sn_iload_n (i := 1) (jm_dc dc_217_0 18 rfl)) (
  jm_gc (pu_iload _ _) (sn_iload_n (i := 2) (jm_dc dc_217_0 19 rfl)) (
  jm_gc (pu_iload _ _) (sn_iload_n (i := 3) (jm_dc dc_217_0 20 rfl)) (
  jm_gc (pu_iload _ _) (sn_iload (jm_dc dc_217_0 21 rfl)) (
  jm_gc (pu_callV _ _ _) (sn_callV (jm_dc dc_217_0 22 rfl) lk_11_366) (
  jm_gc (pu_ifeq _) (sn_ifeq (jm_dc dc_217_0 23 rfl) (by decide)) (
  jm_gc (pu_aload _ _) (sn_aload_n (i := 0) (jm_dc dc_217_0 24 rfl)) (
  jm_gn)))))))))))))))))))))))))
theorem dc_217_1 : ([(44, .iload_n 1, 1), (45, .iload_n 2, 1), (46, .iload_n 3, 1), (47, .iload 4, 2), (49, .invokevirtual 369, 3), (52, .goto 5, 3), (55, .bipush (-3), 2), (57, .ireturn, 1)] : List (Nat × Instr × Nat)).all (fun e => decide (decode prog_14_method_49_code e.1 = .ok e.2)) = true := by decide +kernel
abbrev cl_217_1 : List (Nat × jm_O) := [(44, op_iload 1 1), (45, op_iload 2 1), (46, op_iload 3 1), (47, op_iload 4 2), (49, op_callV 11 215 5), (52, op_goto 57), (55, op_ic (-3) 2), (57, op_iret)]
set_option maxRecDepth 100000 in
theorem gl_217_1 : jm_gl "FrescoWallModel" prog_14_method_49_code 5 (Option.some Jvm.ClassFile.FieldType.int) false cl_217_1 :=
  jm_gc (pu_iload _ _) (sn_iload_n (i := 1) (jm_dc dc_217_1 0 rfl)) (
  jm_gc (pu_iload _ _) (sn_iload_n (i := 2) (jm_dc dc_217_1 1 rfl)) (
  jm_gc (pu_iload _ _) (sn_iload_n (i := 3) (jm_dc dc_217_1 2 rfl)) (
  jm_gc (pu_iload _ _) (sn_iload (jm_dc dc_217_1 3 rfl)) (
  jm_gc (pu_callV _ _ _) (sn_callV (jm_dc dc_217_1 4 rfl) lk_11_369) (
  jm_gc (pu_goto _) (sn_goto (jm_dc dc_217_1 5 rfl) (by decide)) (
  jm_gc (pu_ic _ _) (sn_bipush (jm_dc dc_217_1 6 rfl) (by decide)) (
  jm_gc (pu_iret) (sn_iret (jm_dc dc_217_1 7 rfl) rfl) (
  jm_gn))))))))
theorem dc_218_0 : ([(0, .aload_n 0, 1), (1, .iload_n 1, 1), (2, .iload_n 2, 1), (3, .invokevirtual 335, 3), (6, .ifCond .eq 35, 3), (9, .aload_n 0, 1), (10, .iload_n 3, 1), (11, .iload 4, 2), (13, .invokevirtual 335, 3), (16, .ifCond .eq 25, 3), (19, .iload 5, 2), (21, .iconst 0, 1), (22, .iconst 2, 1), (23, .invokestatic 218, 3), (26, .ifCond .eq 15, 3), (29, .aload_n 0, 1), (30, .iload_n 1, 1), (31, .iload_n 2, 1), (32, .iload_n 3, 1), (33, .iload 4, 2), (35, .invokevirtual 366, 3), (38, .ifCond .ne 7, 3), (41, .ldc_w 334, 3), (44, .ireturn, 1), (45, .iload 5, 2)] : List (Nat × Instr × Nat)).all (fun e => decide (decode prog_14_method_50_code e.1 = .ok e.2)) = true := by decide +kernel
abbrev cl_218_0 : List (Nat × jm_O) := [(0, op_aload 0 1), (1, op_iload 1 1), (2, op_iload 2 1), (3, op_callV 11 173 3), (6, op_ifeq 41), (9, op_aload 0 1), (10, op_iload 3 1), (11, op_iload 4 2), (13, op_callV 11 173 3), (16, op_ifeq 41), (19, op_iload 5 2), (21, op_ic 0 1), (22, op_ic 2 1), (23, op_callS 171 3), (26, op_ifeq 41), (29, op_aload 0 1), (30, op_iload 1 1), (31, op_iload 2 1), (32, op_iload 3 1), (33, op_iload 4 2), (35, op_callV 11 214 5), (38, op_ifne 45), (41, op_ic (-100000) 3), (44, op_iret), (45, op_iload 5 2)]
set_option maxRecDepth 100000 in
theorem gl_218_0 : jm_gl "FrescoWallModel" prog_14_method_50_code 6 (Option.some Jvm.ClassFile.FieldType.int) false cl_218_0 :=
  jm_gc (pu_aload _ _) (sn_aload_n (i := 0) (jm_dc dc_218_0 0 rfl)) (
  jm_gc (pu_iload _ _) (sn_iload_n (i := 1) (jm_dc dc_218_0 1 rfl)) (
  jm_gc (pu_iload _ _) (sn_iload_n (i := 2) (jm_dc dc_218_0 2 rfl)) (
  jm_gc (pu_callV _ _ _) (sn_callV (jm_dc dc_218_0 3 rfl) lk_11_335) (
  jm_gc (pu_ifeq _) (sn_ifeq (jm_dc dc_218_0 4 rfl) (by decide)) (
  jm_gc (pu_aload _ _) (sn_aload_n (i := 0) (jm_dc dc_218_0 5 rfl)) (
  jm_gc (pu_iload _ _) (sn_iload_n (i := 3) (jm_dc dc_218_0 6 rfl)) (
  jm_gc (pu_iload _ _) (sn_iload (jm_dc dc_218_0 7 rfl)) (
  jm_gc (pu_callV _ _ _) (sn_callV (jm_dc dc_218_0 8 rfl) lk_11_335) (
  jm_gc (pu_ifeq _) (sn_ifeq (jm_dc dc_218_0 9 rfl) (by decide)) (
  jm_gc (pu_iload _ _) (sn_iload (jm_dc dc_218_0 10 rfl)) (
  jm_gc (pu_ic _ _) (sn_iconst (jm_dc dc_218_0 11 rfl) (by decide)) (
  jm_gc (pu_ic _ _) (sn_iconst (jm_dc dc_218_0 12 rfl) (by decide)) (
  jm_gc (pu_callS _ _) (sn_callS (jm_dc dc_218_0 13 rfl) lk_11_218) (
  jm_gc (pu_ifeq _) (sn_ifeq (jm_dc dc_218_0 14 rfl) (by decide)) (
  jm_gc (pu_aload _ _) (sn_aload_n (i := 0) (jm_dc dc_218_0 15 rfl)) (
  jm_gc (pu_iload _ _) (sn_iload_n (i := 1) (jm_dc dc_218_0 16 rfl)) (
  jm_gc (pu_iload _ _) (sn_iload_n (i := 2) (jm_dc dc_218_0 17 rfl)) (
  jm_gc (pu_iload _ _) (sn_iload_n (i := 3) (jm_dc dc_218_0 18 rfl)) (
  jm_gc (pu_iload _ _) (sn_iload (jm_dc dc_218_0 19 rfl)) (
  jm_gc (pu_callV _ _ _) (sn_callV (jm_dc dc_218_0 20 rfl) lk_11_366) (
  jm_gc (pu_ifne _) (sn_ifne (jm_dc dc_218_0 21 rfl) (by decide)) (
  jm_gc (pu_ic _ _) (sn_ldcw (jm_dc dc_218_0 22 rfl) (kc_tb 1700 (by decide +kernel))) (
  jm_gc (pu_iret) (sn_iret (jm_dc dc_218_0 23 rfl) rfl) (
  jm_gc (pu_iload _ _) (sn_iload (jm_dc dc_218_0 24 rfl)) (
  jm_gn)))))))))))))))))))))))))
theorem dc_218_1 : ([(47, .ifCond .ne 20, 3), (50, .aload_n 0, 1), (51, .getfield 67, 3), (54, .aload_n 0, 1), (55, .iload_n 1, 1), (56, .iload_n 2, 1), (57, .iload_n 3, 1), (58, .iload 4, 2), (60, .invokevirtual 363, 3), (63, .iaload, 1), (64, .goto 30, 3), (67, .iload 5, 2), (69, .iconst 1, 1), (70, .if_icmp .ne 15, 3), (73, .aload_n 0, 1), (74, .iload_n 1, 1), (75, .iload_n 2, 1), (76, .iload_n 3, 1), (77, .iload 4, 2), (79, .invokevirtual 357, 3), (82, .goto 12, 3), (85, .aload_n 0, 1), (86, .iload_n 1, 1), (87, .iload_n 2, 1), (88, .iload_n 3, 1)] : List (Nat × Instr × Nat)).all (fun e => decide (decode prog_14_method_50_code e.1 = .ok e.2)) = true := by decide +kernel
abbrev cl_218_1 : List (Nat × jm_O) := [(47, op_ifne 67), (50, op_aload 0 1), (51, op_getA 11 22), (54, op_aload 0 1), (55, op_iload 1 1), (56, op_iload 2 1), (57, op_iload 3 1), (58, op_iload 4 2), (60, op_callV 11 211 5), (63, op_iald 13), (64, op_goto 94), (67, op_iload 5 2), (69, op_ic 1 1), (70, op_cne 85), (73, op_aload 0 1), (74, op_iload 1 1), (75, op_iload 2 1), (76, op_iload 3 1), (77, op_iload 4 2), (79, op_callV 11 212 5), (82, op_goto 94), (85, op_aload 0 1), (86, op_iload 1 1), (87, op_iload 2 1), (88, op_iload 3 1)]
set_option maxRecDepth 100000 in
theorem gl_218_1 : jm_gl "FrescoWallModel" prog_14_method_50_code 6 (Option.some Jvm.ClassFile.FieldType.int) false cl_218_1 :=
  jm_gc (pu_ifne _) (sn_ifne (jm_dc dc_218_1 0 rfl) (by decide)) (
  jm_gc (pu_aload _ _) (sn_aload_n (i := 0) (jm_dc dc_218_1 1 rfl)) (
  jm_gc (pu_getA _ _) (sn_getA (jm_dc dc_218_1 2 rfl) fl_11_67 rfl) (
  jm_gc (pu_aload _ _) (sn_aload_n (i := 0) (jm_dc dc_218_1 3 rfl)) (
  jm_gc (pu_iload _ _) (sn_iload_n (i := 1) (jm_dc dc_218_1 4 rfl)) (
  jm_gc (pu_iload _ _) (sn_iload_n (i := 2) (jm_dc dc_218_1 5 rfl)) (
  jm_gc (pu_iload _ _) (sn_iload_n (i := 3) (jm_dc dc_218_1 6 rfl)) (
  jm_gc (pu_iload _ _) (sn_iload (jm_dc dc_218_1 7 rfl)) (
  jm_gc (pu_callV _ _ _) (sn_callV (jm_dc dc_218_1 8 rfl) lk_11_363) (
  jm_gc (pu_iald _) (sn_iald (jm_dc dc_218_1 9 rfl)) (
  jm_gc (pu_goto _) (sn_goto (jm_dc dc_218_1 10 rfl) (by decide)) (
  jm_gc (pu_iload _ _) (sn_iload (jm_dc dc_218_1 11 rfl)) (
  jm_gc (pu_ic _ _) (sn_iconst (jm_dc dc_218_1 12 rfl) (by decide)) (
  jm_gc (pu_cne _) (sn_cne (jm_dc dc_218_1 13 rfl) (by decide)) (
  jm_gc (pu_aload _ _) (sn_aload_n (i := 0) (jm_dc dc_218_1 14 rfl)) (
  jm_gc (pu_iload _ _) (sn_iload_n (i := 1) (jm_dc dc_218_1 15 rfl)) (
  jm_gc (pu_iload _ _) (sn_iload_n (i := 2) (jm_dc dc_218_1 16 rfl)) (
  jm_gc (pu_iload _ _) (sn_iload_n (i := 3) (jm_dc dc_218_1 17 rfl)) (
  jm_gc (pu_iload _ _) (sn_iload (jm_dc dc_218_1 18 rfl)) (
  jm_gc (pu_callV _ _ _) (sn_callV (jm_dc dc_218_1 19 rfl) lk_11_357) (
  jm_gc (pu_goto _) (sn_goto (jm_dc dc_218_1 20 rfl) (by decide)) (
  jm_gc (pu_aload _ _) (sn_aload_n (i := 0) (jm_dc dc_218_1 21 rfl)) (
  jm_gc (pu_iload _ _) (sn_iload_n (i := 1) (jm_dc dc_218_1 22 rfl)) (
  jm_gc (pu_iload _ _) (sn_iload_n (i := 2) (jm_dc dc_218_1 23 rfl)) (
  jm_gc (pu_iload _ _) (sn_iload_n (i := 3) (jm_dc dc_218_1 24 rfl)) (
  jm_gn)))))))))))))))))))))))))
theorem dc_218_2 : ([(89, .iload 4, 2), (91, .invokevirtual 360, 3), (94, .ireturn, 1)] : List (Nat × Instr × Nat)).all (fun e => decide (decode prog_14_method_50_code e.1 = .ok e.2)) = true := by decide +kernel
abbrev cl_218_2 : List (Nat × jm_O) := [(89, op_iload 4 2), (91, op_callV 11 213 5), (94, op_iret)]
set_option maxRecDepth 100000 in
theorem gl_218_2 : jm_gl "FrescoWallModel" prog_14_method_50_code 6 (Option.some Jvm.ClassFile.FieldType.int) false cl_218_2 :=
  jm_gc (pu_iload _ _) (sn_iload (jm_dc dc_218_2 0 rfl)) (
  jm_gc (pu_callV _ _ _) (sn_callV (jm_dc dc_218_2 1 rfl) lk_11_360) (
  jm_gc (pu_iret) (sn_iret (jm_dc dc_218_2 2 rfl) rfl) (
  jm_gn)))
theorem dc_219_0 : ([(0, .aload_n 0, 1), (1, .iconst 0, 1), (2, .putfield 372, 3), (5, .iconst 0, 1), (6, .istore_n 3, 1), (7, .iload_n 3, 1), (8, .aload_n 0, 1), (9, .getfield 215, 3), (12, .if_icmp .ge 153, 3), (15, .iconst 0, 1), (16, .istore 4, 2), (18, .iload 4, 2), (20, .aload_n 0, 1), (21, .getfield 13, 3), (24, .iload_n 3, 1), (25, .iaload, 1), (26, .if_icmp .ge 133, 3), (29, .iload_n 3, 1), (30, .iload_n 1, 1), (31, .if_icmp .eq 122, 3), (34, .aload_n 0, 1), (35, .iload_n 1, 1), (36, .iload_n 2, 1), (37, .iload_n 3, 1), (38, .iload 4, 2)] : List (Nat × Instr × Nat)).all (fun e => decide (decode prog_14_method_51_code e.1 = .ok e.2)) = true := by decide +kernel
abbrev cl_219_0 : List (Nat × jm_O) := [(0, op_aload 0 1), (1, op_ic 0 1), (2, op_putI 11 42), (5, op_ic 0 1), (6, op_istore 3 1), (7, op_iload 3 1), (8, op_aload 0 1), (9, op_getI 11 3), (12, op_cge 165), (15, op_ic 0 1), (16, op_istore 4 2), (18, op_iload 4 2), (20, op_aload 0 1), (21, op_getA 11 4), (24, op_iload 3 1), (25, op_iald 13), (26, op_cge 159), (29, op_iload 3 1), (30, op_iload 1 1), (31, op_ceq 153), (34, op_aload 0 1), (35, op_iload 1 1), (36, op_iload 2 1), (37, op_iload 3 1), (38, op_iload 4 2)]
set_option maxRecDepth 100000 in
theorem gl_219_0 : jm_gl "FrescoWallModel" prog_14_method_51_code 7 (Option.none : Option Jvm.ClassFile.FieldType) false cl_219_0 :=
  jm_gc (pu_aload _ _) (sn_aload_n (i := 0) (jm_dc dc_219_0 0 rfl)) (
  jm_gc (pu_ic _ _) (sn_iconst (jm_dc dc_219_0 1 rfl) (by decide)) (
  jm_gc (pu_putI _ _) (sn_putI (jm_dc dc_219_0 2 rfl) flw_11_372 rfl) (
  jm_gc (pu_ic _ _) (sn_iconst (jm_dc dc_219_0 3 rfl) (by decide)) (
  jm_gc (pu_istore _ _) (sn_istore_n (i := 3) (jm_dc dc_219_0 4 rfl)) (
  jm_gc (pu_iload _ _) (sn_iload_n (i := 3) (jm_dc dc_219_0 5 rfl)) (
  jm_gc (pu_aload _ _) (sn_aload_n (i := 0) (jm_dc dc_219_0 6 rfl)) (
  jm_gc (pu_getI _ _) (sn_getI (jm_dc dc_219_0 7 rfl) fl_11_215 (Or.inl rfl)) (
  jm_gc (pu_cge _) (sn_cge (jm_dc dc_219_0 8 rfl) (by decide)) (
  jm_gc (pu_ic _ _) (sn_iconst (jm_dc dc_219_0 9 rfl) (by decide)) (
  jm_gc (pu_istore _ _) (sn_istore (jm_dc dc_219_0 10 rfl)) (
  jm_gc (pu_iload _ _) (sn_iload (jm_dc dc_219_0 11 rfl)) (
  jm_gc (pu_aload _ _) (sn_aload_n (i := 0) (jm_dc dc_219_0 12 rfl)) (
  jm_gc (pu_getA _ _) (sn_getA (jm_dc dc_219_0 13 rfl) fl_11_13 rfl) (
  jm_gc (pu_iload _ _) (sn_iload_n (i := 3) (jm_dc dc_219_0 14 rfl)) (
  jm_gc (pu_iald _) (sn_iald (jm_dc dc_219_0 15 rfl)) (
  jm_gc (pu_cge _) (sn_cge (jm_dc dc_219_0 16 rfl) (by decide)) (
  jm_gc (pu_iload _ _) (sn_iload_n (i := 3) (jm_dc dc_219_0 17 rfl)) (
  jm_gc (pu_iload _ _) (sn_iload_n (i := 1) (jm_dc dc_219_0 18 rfl)) (
  jm_gc (pu_ceq _) (sn_ceq (jm_dc dc_219_0 19 rfl) (by decide)) (
  jm_gc (pu_aload _ _) (sn_aload_n (i := 0) (jm_dc dc_219_0 20 rfl)) (
  jm_gc (pu_iload _ _) (sn_iload_n (i := 1) (jm_dc dc_219_0 21 rfl)) (
  jm_gc (pu_iload _ _) (sn_iload_n (i := 2) (jm_dc dc_219_0 22 rfl)) (
  jm_gc (pu_iload _ _) (sn_iload_n (i := 3) (jm_dc dc_219_0 23 rfl)) (
  jm_gc (pu_iload _ _) (sn_iload (jm_dc dc_219_0 24 rfl)) (
  jm_gn)))))))))))))))))))))))))
theorem dc_219_1 : ([(40, .invokevirtual 366, 3), (43, .ifCond .eq 110, 3), (46, .aload_n 0, 1), (47, .iload_n 1, 1), (48, .iload_n 2, 1), (49, .iload_n 3, 1), (50, .iload 4, 2), (52, .invokevirtual 369, 3), (55, .istore 5, 2), (57, .aload_n 0, 1), (58, .getfield 372, 3), (61, .istore 6, 2), (63, .iload 6, 2), (65, .ifCond .le 55, 3), (68, .aload_n 0, 1), (69, .getfield 109, 3), (72, .iload 6, 2), (74, .iconst 1, 1), (75, .isub, 1), (76, .iaload, 1), (77, .iload 5, 2), (79, .if_icmp .ge 41, 3), (82, .aload_n 0, 1), (83, .getfield 109, 3), (86, .iload 6, 2)] : List (Nat × Instr × Nat)).all (fun e => decide (decode prog_14_method_51_code e.1 = .ok e.2)) = true := by decide +kernel
abbrev cl_219_1 : List (Nat × jm_O) := [(40, op_callV 11 214 5), (43, op_ifeq 153), (46, op_aload 0 1), (47, op_iload 1 1), (48, op_iload 2 1), (49, op_iload 3 1), (50, op_iload 4 2), (52, op_callV 11 215 5), (55, op_istore 5 2), (57, op_aload 0 1), (58, op_getI 11 42), (61, op_istore 6 2), (63, op_iload 6 2), (65, op_ifle 120), (68, op_aload 0 1), (69, op_getA 11 44), (72, op_iload 6 2), (74, op_ic 1 1), (75, op_ibin (fun x y => x - y)), (76, op_iald 13), (77, op_iload 5 2), (79, op_cge 120), (82, op_aload 0 1), (83, op_getA 11 44), (86, op_iload 6 2)]
set_option maxRecDepth 100000 in
theorem gl_219_1 : jm_gl "FrescoWallModel" prog_14_method_51_code 7 (Option.none : Option Jvm.ClassFile.FieldType) false cl_219_1 :=
  jm_gc (pu_callV _ _ _) (sn_callV (jm_dc dc_219_1 0 rfl) lk_11_366) (
  jm_gc (pu_ifeq _) (sn_ifeq (jm_dc dc_219_1 1 rfl) (by decide)) (
  jm_gc (pu_aload _ _) (sn_aload_n (i := 0) (jm_dc dc_219_1 2 rfl)) (
  jm_gc (pu_iload _ _) (sn_iload_n (i := 1) (jm_dc dc_219_1 3 rfl)) (
  jm_gc (pu_iload _ _) (sn_iload_n (i := 2) (jm_dc dc_219_1 4 rfl)) (
  jm_gc (pu_iload _ _) (sn_iload_n (i := 3) (jm_dc dc_219_1 5 rfl)) (
  jm_gc (pu_iload _ _) (sn_iload (jm_dc dc_219_1 6 rfl)) (
  jm_gc (pu_callV _ _ _) (sn_callV (jm_dc dc_219_1 7 rfl) lk_11_369) (
  jm_gc (pu_istore _ _) (sn_istore (jm_dc dc_219_1 8 rfl)) (
  jm_gc (pu_aload _ _) (sn_aload_n (i := 0) (jm_dc dc_219_1 9 rfl)) (
  jm_gc (pu_getI _ _) (sn_getI (jm_dc dc_219_1 10 rfl) fl_11_372 (Or.inl rfl)) (
  jm_gc (pu_istore _ _) (sn_istore (jm_dc dc_219_1 11 rfl)) (
  jm_gc (pu_iload _ _) (sn_iload (jm_dc dc_219_1 12 rfl)) (
  jm_gc (pu_ifle _) (sn_ifle (jm_dc dc_219_1 13 rfl) (by decide)) (
  jm_gc (pu_aload _ _) (sn_aload_n (i := 0) (jm_dc dc_219_1 14 rfl)) (
  jm_gc (pu_getA _ _) (sn_getA (jm_dc dc_219_1 15 rfl) fl_11_109 rfl) (
  jm_gc (pu_iload _ _) (sn_iload (jm_dc dc_219_1 16 rfl)) (
  jm_gc (pu_ic _ _) (sn_iconst (jm_dc dc_219_1 17 rfl) (by decide)) (
  jm_gc (pu_ibin _) (sn_isub (jm_dc dc_219_1 18 rfl)) (
  jm_gc (pu_iald _) (sn_iald (jm_dc dc_219_1 19 rfl)) (
  jm_gc (pu_iload _ _) (sn_iload (jm_dc dc_219_1 20 rfl)) (
  jm_gc (pu_cge _) (sn_cge (jm_dc dc_219_1 21 rfl) (by decide)) (
  jm_gc (pu_aload _ _) (sn_aload_n (i := 0) (jm_dc dc_219_1 22 rfl)) (
  jm_gc (pu_getA _ _) (sn_getA (jm_dc dc_219_1 23 rfl) fl_11_109 rfl) (
  jm_gc (pu_iload _ _) (sn_iload (jm_dc dc_219_1 24 rfl)) (
  jm_gn)))))))))))))))))))))))))
theorem dc_219_2 : ([(88, .aload_n 0, 1), (89, .getfield 109, 3), (92, .iload 6, 2), (94, .iconst 1, 1), (95, .isub, 1), (96, .iaload, 1), (97, .iastore, 1), (98, .aload_n 0, 1), (99, .getfield 106, 3), (102, .iload 6, 2), (104, .aload_n 0, 1), (105, .getfield 106, 3), (108, .iload 6, 2), (110, .iconst 1, 1), (111, .isub, 1), (112, .iaload, 1), (113, .iastore, 1), (114, .iinc 6 (-1), 3), (117, .goto (-54), 3), (120, .aload_n 0, 1), (121, .getfield 109, 3), (124, .iload 6, 2), (126, .iload 5, 2), (128, .iastore, 1), (129, .aload_n 0, 1)] : List (Nat × Instr × Nat)).all (fun e => decide (decode prog_14_method_51_code e.1 = .ok e.2)) = true := by decide +kernel
abbrev cl_219_2 : List (Nat × jm_O) := [(88, op_aload 0 1), (89, op_getA 11 44), (92, op_iload 6 2), (94, op_ic 1 1), (95, op_ibin (fun x y => x - y)), (96, op_iald 13), (97, op_iast), (98, op_aload 0 1), (99, op_getA 11 43), (102, op_iload 6 2), (104, op_aload 0 1), (105, op_getA 11 43), (108, op_iload 6 2), (110, op_ic 1 1), (111, op_ibin (fun x y => x - y)), (112, op_iald 13), (113, op_iast), (114, op_iinc 6 (-1)), (117, op_goto 63), (120, op_aload 0 1), (121, op_getA 11 44), (124, op_iload 6 2), (126, op_iload 5 2), (128, op_iast), (129, op_aload 0 1)]
set_option maxRecDepth 100000 in
theorem gl_219_2 : jm_gl "FrescoWallModel" prog_14_method_51_code 7 (Option.none : Option Jvm.ClassFile.FieldType) false cl_219_2 :=
  jm_gc (pu_aload _ _) (sn_aload_n (i := 0) (jm_dc dc_219_2 0 rfl)) (
  jm_gc (pu_getA _ _) (sn_getA (jm_dc dc_219_2 1 rfl) fl_11_109 rfl) (
  jm_gc (pu_iload _ _) (sn_iload (jm_dc dc_219_2 2 rfl)) (
  jm_gc (pu_ic _ _) (sn_iconst (jm_dc dc_219_2 3 rfl) (by decide)) (
  jm_gc (pu_ibin _) (sn_isub (jm_dc dc_219_2 4 rfl)) (
  jm_gc (pu_iald _) (sn_iald (jm_dc dc_219_2 5 rfl)) (
  jm_gc (pu_iast) (sn_iast (jm_dc dc_219_2 6 rfl)) (
  jm_gc (pu_aload _ _) (sn_aload_n (i := 0) (jm_dc dc_219_2 7 rfl)) (
  jm_gc (pu_getA _ _) (sn_getA (jm_dc dc_219_2 8 rfl) fl_11_106 rfl) (
  jm_gc (pu_iload _ _) (sn_iload (jm_dc dc_219_2 9 rfl)) (
  jm_gc (pu_aload _ _) (sn_aload_n (i := 0) (jm_dc dc_219_2 10 rfl)) (
  jm_gc (pu_getA _ _) (sn_getA (jm_dc dc_219_2 11 rfl) fl_11_106 rfl) (
  jm_gc (pu_iload _ _) (sn_iload (jm_dc dc_219_2 12 rfl)) (
  jm_gc (pu_ic _ _) (sn_iconst (jm_dc dc_219_2 13 rfl) (by decide)) (
  jm_gc (pu_ibin _) (sn_isub (jm_dc dc_219_2 14 rfl)) (
  jm_gc (pu_iald _) (sn_iald (jm_dc dc_219_2 15 rfl)) (
  jm_gc (pu_iast) (sn_iast (jm_dc dc_219_2 16 rfl)) (
  jm_gc (pu_iinc _ _) (sn_iinc (jm_dc dc_219_2 17 rfl) (by decide)) (
  jm_gc (pu_goto _) (sn_goto (jm_dc dc_219_2 18 rfl) (by decide)) (
  jm_gc (pu_aload _ _) (sn_aload_n (i := 0) (jm_dc dc_219_2 19 rfl)) (
  jm_gc (pu_getA _ _) (sn_getA (jm_dc dc_219_2 20 rfl) fl_11_109 rfl) (
  jm_gc (pu_iload _ _) (sn_iload (jm_dc dc_219_2 21 rfl)) (
  jm_gc (pu_iload _ _) (sn_iload (jm_dc dc_219_2 22 rfl)) (
  jm_gc (pu_iast) (sn_iast (jm_dc dc_219_2 23 rfl)) (
  jm_gc (pu_aload _ _) (sn_aload_n (i := 0) (jm_dc dc_219_2 24 rfl)) (
  jm_gn)))))))))))))))))))))))))
theorem dc_219_3 : ([(130, .getfield 106, 3), (133, .iload 6, 2), (135, .bipush 10, 2), (137, .iload_n 3, 1), (138, .imul, 1), (139, .iload 4, 2), (141, .iadd, 1), (142, .iastore, 1), (143, .aload_n 0, 1), (144, .dup, 1), (145, .getfield 372, 3), (148, .iconst 1, 1), (149, .iadd, 1), (150, .putfield 372, 3), (153, .iinc 4 1, 3), (156, .goto (-138), 3), (159, .iinc 3 1, 3), (162, .goto (-155), 3), (165, .return_, 1)] : List (Nat × Instr × Nat)).all (fun e => decide (decode prog_14_method_51_code e.1 = .ok e.2)) = true := by decide +kernel
abbrev cl_219_3 : List (Nat × jm_O) := [(130, op_getA 11 43), (133, op_iload 6 2), (135, op_ic 10 2), (137, op_iload 3 1), (138, op_ibin (fun x y => x * y)), (139, op_iload 4 2), (141, op_ibin (fun x y => x + y)), (142, op_iast), (143, op_aload 0 1), (144, op_dup), (145, op_getI 11 42), (148, op_ic 1 1), (149, op_ibin (fun x y => x + y)), (150, op_putI 11 42), (153, op_iinc 4 1), (156, op_goto 18), (159, op_iinc 3 1), (162, op_goto 7), (165, op_vret)]
set_option maxRecDepth 100000 in
theorem gl_219_3 : jm_gl "FrescoWallModel" prog_14_method_51_code 7 (Option.none : Option Jvm.ClassFile.FieldType) false cl_219_3 :=
  jm_gc (pu_getA _ _) (sn_getA (jm_dc dc_219_3 0 rfl) fl_11_106 rfl) (
  jm_gc (pu_iload _ _) (sn_iload (jm_dc dc_219_3 1 rfl)) (
  jm_gc (pu_ic _ _) (sn_bipush (jm_dc dc_219_3 2 rfl) (by decide)) (
  jm_gc (pu_iload _ _) (sn_iload_n (i := 3) (jm_dc dc_219_3 3 rfl)) (
  jm_gc (pu_ibin _) (sn_imul (jm_dc dc_219_3 4 rfl)) (
  jm_gc (pu_iload _ _) (sn_iload (jm_dc dc_219_3 5 rfl)) (
  jm_gc (pu_ibin _) (sn_iadd (jm_dc dc_219_3 6 rfl)) (
  jm_gc (pu_iast) (sn_iast (jm_dc dc_219_3 7 rfl)) (
  jm_gc (pu_aload _ _) (sn_aload_n (i := 0) (jm_dc dc_219_3 8 rfl)) (
  jm_gc (pu_dup) (sn_dup (jm_dc dc_219_3 9 rfl)) (
  jm_gc (pu_getI _ _) (sn_getI (jm_dc dc_219_3 10 rfl) fl_11_372 (Or.inl rfl)) (
  jm_gc (pu_ic _ _) (sn_iconst (jm_dc dc_219_3 11 rfl) (by decide)) (
  jm_gc (pu_ibin _) (sn_iadd (jm_dc dc_219_3 12 rfl)) (
  jm_gc (pu_putI _ _) (sn_putI (jm_dc dc_219_3 13 rfl) flw_11_372 rfl) (
  jm_gc (pu_iinc _ _) (sn_iinc (jm_dc dc_219_3 14 rfl) (by decide)) (
  jm_gc (pu_goto _) (sn_goto (jm_dc dc_219_3 15 rfl) (by decide)) (
  jm_gc (pu_iinc _ _) (sn_iinc (jm_dc dc_219_3 16 rfl) (by decide)) (
  jm_gc (pu_goto _) (sn_goto (jm_dc dc_219_3 17 rfl) (by decide)) (
  jm_gc (pu_vret) (sn_vret (jm_dc dc_219_3 18 rfl) rfl) (
  jm_gn)))))))))))))))))))
def cd_170 (pc : Nat) : jm_O := if pc < 53 then jm_lu cl_170_0 pc else if pc < 107 then jm_lu cl_170_1 pc else if pc < 156 then jm_lu cl_170_2 pc else if pc < 206 then jm_lu cl_170_3 pc else if pc < 256 then jm_lu cl_170_4 pc else if pc < 309 then jm_lu cl_170_5 pc else if pc < 358 then jm_lu cl_170_6 pc else if pc < 405 then jm_lu cl_170_7 pc else if pc < 449 then jm_lu cl_170_8 pc else if pc < 500 then jm_lu cl_170_9 pc else if pc < 548 then jm_lu cl_170_10 pc else jm_lu cl_170_11 pc
theorem ok_170 (pc : Nat) : jm_pu (cd_170 pc) ∧ jm_snd "FrescoWallModel" prog_14_method_1_code 2 (Option.none : Option Jvm.ClassFile.FieldType) true pc (cd_170 pc) := jm_if2 (jm_lu_ok _ gl_170_0 pc) (jm_if2 (jm_lu_ok _ gl_170_1 pc) (jm_if2 (jm_lu_ok _ gl_170_2 pc) (jm_if2 (jm_lu_ok _ gl_170_3 pc) (jm_if2 (jm_lu_ok _ gl_170_4 pc) (jm_if2 (jm_lu_ok _ gl_170_5 pc) (jm_if2 (jm_lu_ok _ gl_170_6 pc) (jm_if2 (jm_lu_ok _ gl_170_7 pc) (jm_if2 (jm_lu_ok _ gl_170_8 pc) (jm_if2 (jm_lu_ok _ gl_170_9 pc) (jm_if2 (jm_lu_ok _ gl_170_10 pc) (jm_lu_ok _ gl_170_11 pc)))))))))))
def cd_171 (pc : Nat) : jm_O := jm_lu cl_171_0 pc
theorem ok_171 (pc : Nat) : jm_pu (cd_171 pc) ∧ jm_snd "FrescoWallModel" prog_14_method_3_code 3 (Option.some Jvm.ClassFile.FieldType.boolean) false pc (cd_171 pc) := jm_lu_ok _ gl_171_0 pc
def cd_172 (pc : Nat) : jm_O := jm_lu cl_172_0 pc
theorem ok_172 (pc : Nat) : jm_pu (cd_172 pc) ∧ jm_snd "FrescoWallModel" prog_14_method_4_code 2 (Option.some Jvm.ClassFile.FieldType.boolean) false pc (cd_172 pc) := jm_lu_ok _ gl_172_0 pc
def cd_173 (pc : Nat) : jm_O := jm_lu cl_173_0 pc
theorem ok_173 (pc : Nat) : jm_pu (cd_173 pc) ∧ jm_snd "FrescoWallModel" prog_14_method_5_code 3 (Option.some Jvm.ClassFile.FieldType.boolean) false pc (cd_173 pc) := jm_lu_ok _ gl_173_0 pc
def cd_174 (pc : Nat) : jm_O := if pc < 46 then jm_lu cl_174_0 pc else jm_lu cl_174_1 pc
theorem ok_174 (pc : Nat) : jm_pu (cd_174 pc) ∧ jm_snd "FrescoWallModel" prog_14_method_6_code 5 (Option.some Jvm.ClassFile.FieldType.int) false pc (cd_174 pc) := jm_if2 (jm_lu_ok _ gl_174_0 pc) (jm_lu_ok _ gl_174_1 pc)
def cd_175 (pc : Nat) : jm_O := jm_lu cl_175_0 pc
theorem ok_175 (pc : Nat) : jm_pu (cd_175 pc) ∧ jm_snd "FrescoWallModel" prog_14_method_7_code 1 (Option.some Jvm.ClassFile.FieldType.int) false pc (cd_175 pc) := jm_lu_ok _ gl_175_0 pc
def cd_176 (pc : Nat) : jm_O := jm_lu cl_176_0 pc
theorem ok_176 (pc : Nat) : jm_pu (cd_176 pc) ∧ jm_snd "FrescoWallModel" prog_14_method_8_code 1 (Option.some Jvm.ClassFile.FieldType.boolean) false pc (cd_176 pc) := jm_lu_ok _ gl_176_0 pc
def cd_177 (pc : Nat) : jm_O := jm_lu cl_177_0 pc
theorem ok_177 (pc : Nat) : jm_pu (cd_177 pc) ∧ jm_snd "FrescoWallModel" prog_14_method_9_code 2 (Option.none : Option Jvm.ClassFile.FieldType) false pc (cd_177 pc) := jm_lu_ok _ gl_177_0 pc
def cd_178 (pc : Nat) : jm_O := if pc < 48 then jm_lu cl_178_0 pc else jm_lu cl_178_1 pc
theorem ok_178 (pc : Nat) : jm_pu (cd_178 pc) ∧ jm_snd "FrescoWallModel" prog_14_method_10_code 2 (Option.some Jvm.ClassFile.FieldType.int) false pc (cd_178 pc) := jm_if2 (jm_lu_ok _ gl_178_0 pc) (jm_lu_ok _ gl_178_1 pc)
def cd_179 (pc : Nat) : jm_O := if pc < 48 then jm_lu cl_179_0 pc else if pc < 97 then jm_lu cl_179_1 pc else if pc < 140 then jm_lu cl_179_2 pc else jm_lu cl_179_3 pc
theorem ok_179 (pc : Nat) : jm_pu (cd_179 pc) ∧ jm_snd "FrescoWallModel" prog_14_method_11_code 4 (Option.some Jvm.ClassFile.FieldType.int) false pc (cd_179 pc) := jm_if2 (jm_lu_ok _ gl_179_0 pc) (jm_if2 (jm_lu_ok _ gl_179_1 pc) (jm_if2 (jm_lu_ok _ gl_179_2 pc) (jm_lu_ok _ gl_179_3 pc)))
def cd_180 (pc : Nat) : jm_O := if pc < 43 then jm_lu cl_180_0 pc else jm_lu cl_180_1 pc
theorem ok_180 (pc : Nat) : jm_pu (cd_180 pc) ∧ jm_snd "FrescoWallModel" prog_14_method_12_code 2 (Option.none : Option Jvm.ClassFile.FieldType) false pc (cd_180 pc) := jm_if2 (jm_lu_ok _ gl_180_0 pc) (jm_lu_ok _ gl_180_1 pc)
def cd_181 (pc : Nat) : jm_O := if pc < 43 then jm_lu cl_181_0 pc else jm_lu cl_181_1 pc
theorem ok_181 (pc : Nat) : jm_pu (cd_181 pc) ∧ jm_snd "FrescoWallModel" prog_14_method_13_code 2 (Option.none : Option Jvm.ClassFile.FieldType) false pc (cd_181 pc) := jm_if2 (jm_lu_ok _ gl_181_0 pc) (jm_lu_ok _ gl_181_1 pc)
def cd_182 (pc : Nat) : jm_O := if pc < 45 then jm_lu cl_182_0 pc else if pc < 97 then jm_lu cl_182_1 pc else if pc < 149 then jm_lu cl_182_2 pc else jm_lu cl_182_3 pc
theorem ok_182 (pc : Nat) : jm_pu (cd_182 pc) ∧ jm_snd "FrescoWallModel" prog_14_method_14_code 1 (Option.none : Option Jvm.ClassFile.FieldType) false pc (cd_182 pc) := jm_if2 (jm_lu_ok _ gl_182_0 pc) (jm_if2 (jm_lu_ok _ gl_182_1 pc) (jm_if2 (jm_lu_ok _ gl_182_2 pc) (jm_lu_ok _ gl_182_3 pc)))
def cd_183 (pc : Nat) : jm_O := jm_lu cl_183_0 pc
theorem ok_183 (pc : Nat) : jm_pu (cd_183 pc) ∧ jm_snd "FrescoWallModel" prog_14_method_15_code 4 (Option.some Jvm.ClassFile.FieldType.int) false pc (cd_183 pc) := jm_lu_ok _ gl_183_0 pc
def cd_184 (pc : Nat) : jm_O := jm_lu cl_184_0 pc
theorem ok_184 (pc : Nat) : jm_pu (cd_184 pc) ∧ jm_snd "FrescoWallModel" prog_14_method_16_code 3 (Option.some Jvm.ClassFile.FieldType.int) false pc (cd_184 pc) := jm_lu_ok _ gl_184_0 pc
def cd_185 (pc : Nat) : jm_O := jm_lu cl_185_0 pc
theorem ok_185 (pc : Nat) : jm_pu (cd_185 pc) ∧ jm_snd "FrescoWallModel" prog_14_method_17_code 3 (Option.some Jvm.ClassFile.FieldType.int) false pc (cd_185 pc) := jm_lu_ok _ gl_185_0 pc
def cd_186 (pc : Nat) : jm_O := jm_lu cl_186_0 pc
theorem ok_186 (pc : Nat) : jm_pu (cd_186 pc) ∧ jm_snd "FrescoWallModel" prog_14_method_18_code 3 (Option.some Jvm.ClassFile.FieldType.int) false pc (cd_186 pc) := jm_lu_ok _ gl_186_0 pc
def cd_187 (pc : Nat) : jm_O := jm_lu cl_187_0 pc
theorem ok_187 (pc : Nat) : jm_pu (cd_187 pc) ∧ jm_snd "FrescoWallModel" prog_14_method_19_code 1 (Option.some Jvm.ClassFile.FieldType.int) false pc (cd_187 pc) := jm_lu_ok _ gl_187_0 pc
def cd_188 (pc : Nat) : jm_O := if pc < 36 then jm_lu cl_188_0 pc else jm_lu cl_188_1 pc
theorem ok_188 (pc : Nat) : jm_pu (cd_188 pc) ∧ jm_snd "FrescoWallModel" prog_14_method_20_code 5 (Option.some Jvm.ClassFile.FieldType.int) false pc (cd_188 pc) := jm_if2 (jm_lu_ok _ gl_188_0 pc) (jm_lu_ok _ gl_188_1 pc)
def cd_189 (pc : Nat) : jm_O := if pc < 41 then jm_lu cl_189_0 pc else if pc < 89 then jm_lu cl_189_1 pc else jm_lu cl_189_2 pc
theorem ok_189 (pc : Nat) : jm_pu (cd_189 pc) ∧ jm_snd "FrescoWallModel" prog_14_method_21_code 8 (Option.some Jvm.ClassFile.FieldType.boolean) false pc (cd_189 pc) := jm_if2 (jm_lu_ok _ gl_189_0 pc) (jm_if2 (jm_lu_ok _ gl_189_1 pc) (jm_lu_ok _ gl_189_2 pc))
def cd_190 (pc : Nat) : jm_O := if pc < 35 then jm_lu cl_190_0 pc else if pc < 80 then jm_lu cl_190_1 pc else if pc < 125 then jm_lu cl_190_2 pc else if pc < 166 then jm_lu cl_190_3 pc else if pc < 207 then jm_lu cl_190_4 pc else jm_lu cl_190_5 pc
theorem ok_190 (pc : Nat) : jm_pu (cd_190 pc) ∧ jm_snd "FrescoWallModel" prog_14_method_22_code 8 (Option.some Jvm.ClassFile.FieldType.boolean) false pc (cd_190 pc) := jm_if2 (jm_lu_ok _ gl_190_0 pc) (jm_if2 (jm_lu_ok _ gl_190_1 pc) (jm_if2 (jm_lu_ok _ gl_190_2 pc) (jm_if2 (jm_lu_ok _ gl_190_3 pc) (jm_if2 (jm_lu_ok _ gl_190_4 pc) (jm_lu_ok _ gl_190_5 pc)))))
def cd_191 (pc : Nat) : jm_O := if pc < 36 then jm_lu cl_191_0 pc else jm_lu cl_191_1 pc
theorem ok_191 (pc : Nat) : jm_pu (cd_191 pc) ∧ jm_snd "FrescoWallModel" prog_14_method_23_code 5 (Option.some Jvm.ClassFile.FieldType.boolean) false pc (cd_191 pc) := jm_if2 (jm_lu_ok _ gl_191_0 pc) (jm_lu_ok _ gl_191_1 pc)
def cd_192 (pc : Nat) : jm_O := if pc < 37 then jm_lu cl_192_0 pc else jm_lu cl_192_1 pc
theorem ok_192 (pc : Nat) : jm_pu (cd_192 pc) ∧ jm_snd "FrescoWallModel" prog_14_method_24_code 6 (Option.some Jvm.ClassFile.FieldType.int) false pc (cd_192 pc) := jm_if2 (jm_lu_ok _ gl_192_0 pc) (jm_lu_ok _ gl_192_1 pc)
def cd_193 (pc : Nat) : jm_O := if pc < 41 then jm_lu cl_193_0 pc else if pc < 78 then jm_lu cl_193_1 pc else jm_lu cl_193_2 pc
theorem ok_193 (pc : Nat) : jm_pu (cd_193 pc) ∧ jm_snd "FrescoWallModel" prog_14_method_25_code 5 (Option.some Jvm.ClassFile.FieldType.boolean) false pc (cd_193 pc) := jm_if2 (jm_lu_ok _ gl_193_0 pc) (jm_if2 (jm_lu_ok _ gl_193_1 pc) (jm_lu_ok _ gl_193_2 pc))
def cd_194 (pc : Nat) : jm_O := if pc < 36 then jm_lu cl_194_0 pc else if pc < 72 then jm_lu cl_194_1 pc else if pc < 114 then jm_lu cl_194_2 pc else if pc < 171 then jm_lu cl_194_3 pc else if pc < 225 then jm_lu cl_194_4 pc else jm_lu cl_194_5 pc
theorem ok_194 (pc : Nat) : jm_pu (cd_194 pc) ∧ jm_snd "FrescoWallModel" prog_14_method_26_code 15 (Option.some Jvm.ClassFile.FieldType.boolean) false pc (cd_194 pc) := jm_if2 (jm_lu_ok _ gl_194_0 pc) (jm_if2 (jm_lu_ok _ gl_194_1 pc) (jm_if2 (jm_lu_ok _ gl_194_2 pc) (jm_if2 (jm_lu_ok _ gl_194_3 pc) (jm_if2 (jm_lu_ok _ gl_194_4 pc) (jm_lu_ok _ gl_194_5 pc)))))
def cd_195 (pc : Nat) : jm_O := jm_lu cl_195_0 pc
theorem ok_195 (pc : Nat) : jm_pu (cd_195 pc) ∧ jm_snd "FrescoWallModel" prog_14_method_27_code 2 (Option.some Jvm.ClassFile.FieldType.boolean) false pc (cd_195 pc) := jm_lu_ok _ gl_195_0 pc
def cd_196 (pc : Nat) : jm_O := jm_lu cl_196_0 pc
theorem ok_196 (pc : Nat) : jm_pu (cd_196 pc) ∧ jm_snd "FrescoWallModel" prog_14_method_28_code 3 (Option.some Jvm.ClassFile.FieldType.int) false pc (cd_196 pc) := jm_lu_ok _ gl_196_0 pc
def cd_197 (pc : Nat) : jm_O := jm_lu cl_197_0 pc
theorem ok_197 (pc : Nat) : jm_pu (cd_197 pc) ∧ jm_snd "FrescoWallModel" prog_14_method_29_code 4 (Option.some Jvm.ClassFile.FieldType.boolean) false pc (cd_197 pc) := jm_lu_ok _ gl_197_0 pc
def cd_198 (pc : Nat) : jm_O := if pc < 40 then jm_lu cl_198_0 pc else if pc < 83 then jm_lu cl_198_1 pc else jm_lu cl_198_2 pc
theorem ok_198 (pc : Nat) : jm_pu (cd_198 pc) ∧ jm_snd "FrescoWallModel" prog_14_method_30_code 5 (Option.none : Option Jvm.ClassFile.FieldType) false pc (cd_198 pc) := jm_if2 (jm_lu_ok _ gl_198_0 pc) (jm_if2 (jm_lu_ok _ gl_198_1 pc) (jm_lu_ok _ gl_198_2 pc))
def cd_199 (pc : Nat) : jm_O := if pc < 35 then jm_lu cl_199_0 pc else if pc < 80 then jm_lu cl_199_1 pc else jm_lu cl_199_2 pc
theorem ok_199 (pc : Nat) : jm_pu (cd_199 pc) ∧ jm_snd "FrescoWallModel" prog_14_method_31_code 5 (Option.some Jvm.ClassFile.FieldType.boolean) false pc (cd_199 pc) := jm_if2 (jm_lu_ok _ gl_199_0 pc) (jm_if2 (jm_lu_ok _ gl_199_1 pc) (jm_lu_ok _ gl_199_2 pc))
def cd_200 (pc : Nat) : jm_O := if pc < 48 then jm_lu cl_200_0 pc else if pc < 95 then jm_lu cl_200_1 pc else if pc < 139 then jm_lu cl_200_2 pc else if pc < 181 then jm_lu cl_200_3 pc else jm_lu cl_200_4 pc
theorem ok_200 (pc : Nat) : jm_pu (cd_200 pc) ∧ jm_snd "FrescoWallModel" prog_14_method_32_code 5 (Option.some Jvm.ClassFile.FieldType.int) false pc (cd_200 pc) := jm_if2 (jm_lu_ok _ gl_200_0 pc) (jm_if2 (jm_lu_ok _ gl_200_1 pc) (jm_if2 (jm_lu_ok _ gl_200_2 pc) (jm_if2 (jm_lu_ok _ gl_200_3 pc) (jm_lu_ok _ gl_200_4 pc))))
def cd_201 (pc : Nat) : jm_O := if pc < 81 then jm_lu cl_201_0 pc else jm_lu cl_201_1 pc
theorem ok_201 (pc : Nat) : jm_pu (cd_201 pc) ∧ jm_snd "FrescoWallModel" prog_14_method_33_code 3 (Option.some Jvm.ClassFile.FieldType.int) false pc (cd_201 pc) := jm_if2 (jm_lu_ok _ gl_201_0 pc) (jm_lu_ok _ gl_201_1 pc)
def cd_202 (pc : Nat) : jm_O := if pc < 44 then jm_lu cl_202_0 pc else jm_lu cl_202_1 pc
theorem ok_202 (pc : Nat) : jm_pu (cd_202 pc) ∧ jm_snd "FrescoWallModel" prog_14_method_34_code 5 (Option.some Jvm.ClassFile.FieldType.int) false pc (cd_202 pc) := jm_if2 (jm_lu_ok _ gl_202_0 pc) (jm_lu_ok _ gl_202_1 pc)
def cd_203 (pc : Nat) : jm_O := jm_lu cl_203_0 pc
theorem ok_203 (pc : Nat) : jm_pu (cd_203 pc) ∧ jm_snd "FrescoWallModel" prog_14_method_35_code 3 (Option.some Jvm.ClassFile.FieldType.int) false pc (cd_203 pc) := jm_lu_ok _ gl_203_0 pc
def cd_204 (pc : Nat) : jm_O := jm_lu cl_204_0 pc
theorem ok_204 (pc : Nat) : jm_pu (cd_204 pc) ∧ jm_snd "FrescoWallModel" prog_14_method_36_code 3 (Option.some Jvm.ClassFile.FieldType.int) false pc (cd_204 pc) := jm_lu_ok _ gl_204_0 pc
def cd_205 (pc : Nat) : jm_O := jm_lu cl_205_0 pc
theorem ok_205 (pc : Nat) : jm_pu (cd_205 pc) ∧ jm_snd "FrescoWallModel" prog_14_method_37_code 3 (Option.some Jvm.ClassFile.FieldType.int) false pc (cd_205 pc) := jm_lu_ok _ gl_205_0 pc
def cd_206 (pc : Nat) : jm_O := jm_lu cl_206_0 pc
theorem ok_206 (pc : Nat) : jm_pu (cd_206 pc) ∧ jm_snd "FrescoWallModel" prog_14_method_38_code 3 (Option.some Jvm.ClassFile.FieldType.int) false pc (cd_206 pc) := jm_lu_ok _ gl_206_0 pc
def cd_207 (pc : Nat) : jm_O := if pc < 40 then jm_lu cl_207_0 pc else if pc < 87 then jm_lu cl_207_1 pc else jm_lu cl_207_2 pc
theorem ok_207 (pc : Nat) : jm_pu (cd_207 pc) ∧ jm_snd "FrescoWallModel" prog_14_method_39_code 8 (Option.some Jvm.ClassFile.FieldType.int) false pc (cd_207 pc) := jm_if2 (jm_lu_ok _ gl_207_0 pc) (jm_if2 (jm_lu_ok _ gl_207_1 pc) (jm_lu_ok _ gl_207_2 pc))
def cd_208 (pc : Nat) : jm_O := if pc < 51 then jm_lu cl_208_0 pc else jm_lu cl_208_1 pc
theorem ok_208 (pc : Nat) : jm_pu (cd_208 pc) ∧ jm_snd "FrescoWallModel" prog_14_method_40_code 6 (Option.some Jvm.ClassFile.FieldType.int) false pc (cd_208 pc) := jm_if2 (jm_lu_ok _ gl_208_0 pc) (jm_lu_ok _ gl_208_1 pc)
def cd_209 (pc : Nat) : jm_O := jm_lu cl_209_0 pc
theorem ok_209 (pc : Nat) : jm_pu (cd_209 pc) ∧ jm_snd "FrescoWallModel" prog_14_method_41_code 3 (Option.some Jvm.ClassFile.FieldType.int) false pc (cd_209 pc) := jm_lu_ok _ gl_209_0 pc
def cd_210 (pc : Nat) : jm_O := if pc < 39 then jm_lu cl_210_0 pc else if pc < 80 then jm_lu cl_210_1 pc else if pc < 126 then jm_lu cl_210_2 pc else if pc < 174 then jm_lu cl_210_3 pc else if pc < 213 then jm_lu cl_210_4 pc else jm_lu cl_210_5 pc
theorem ok_210 (pc : Nat) : jm_pu (cd_210 pc) ∧ jm_snd "FrescoWallModel" prog_14_method_42_code 8 (Option.none : Option Jvm.ClassFile.FieldType) false pc (cd_210 pc) := jm_if2 (jm_lu_ok _ gl_210_0 pc) (jm_if2 (jm_lu_ok _ gl_210_1 pc) (jm_if2 (jm_lu_ok _ gl_210_2 pc) (jm_if2 (jm_lu_ok _ gl_210_3 pc) (jm_if2 (jm_lu_ok _ gl_210_4 pc) (jm_lu_ok _ gl_210_5 pc)))))
def cd_211 (pc : Nat) : jm_O := jm_lu cl_211_0 pc
theorem ok_211 (pc : Nat) : jm_pu (cd_211 pc) ∧ jm_snd "FrescoWallModel" prog_14_method_43_code 5 (Option.some Jvm.ClassFile.FieldType.int) false pc (cd_211 pc) := jm_lu_ok _ gl_211_0 pc
def cd_212 (pc : Nat) : jm_O := if pc < 40 then jm_lu cl_212_0 pc else jm_lu cl_212_1 pc
theorem ok_212 (pc : Nat) : jm_pu (cd_212 pc) ∧ jm_snd "FrescoWallModel" prog_14_method_44_code 6 (Option.some Jvm.ClassFile.FieldType.int) false pc (cd_212 pc) := jm_if2 (jm_lu_ok _ gl_212_0 pc) (jm_lu_ok _ gl_212_1 pc)
def cd_213 (pc : Nat) : jm_O := if pc < 40 then jm_lu cl_213_0 pc else jm_lu cl_213_1 pc
theorem ok_213 (pc : Nat) : jm_pu (cd_213 pc) ∧ jm_snd "FrescoWallModel" prog_14_method_45_code 6 (Option.some Jvm.ClassFile.FieldType.int) false pc (cd_213 pc) := jm_if2 (jm_lu_ok _ gl_213_0 pc) (jm_lu_ok _ gl_213_1 pc)
def cd_214 (pc : Nat) : jm_O := if pc < 45 then jm_lu cl_214_0 pc else jm_lu cl_214_1 pc
theorem ok_214 (pc : Nat) : jm_pu (cd_214 pc) ∧ jm_snd "FrescoWallModel" prog_14_method_46_code 6 (Option.some Jvm.ClassFile.FieldType.boolean) false pc (cd_214 pc) := jm_if2 (jm_lu_ok _ gl_214_0 pc) (jm_lu_ok _ gl_214_1 pc)
def cd_215 (pc : Nat) : jm_O := if pc < 41 then jm_lu cl_215_0 pc else if pc < 79 then jm_lu cl_215_1 pc else if pc < 120 then jm_lu cl_215_2 pc else if pc < 157 then jm_lu cl_215_3 pc else jm_lu cl_215_4 pc
theorem ok_215 (pc : Nat) : jm_pu (cd_215 pc) ∧ jm_snd "FrescoWallModel" prog_14_method_47_code 7 (Option.some Jvm.ClassFile.FieldType.int) false pc (cd_215 pc) := jm_if2 (jm_lu_ok _ gl_215_0 pc) (jm_if2 (jm_lu_ok _ gl_215_1 pc) (jm_if2 (jm_lu_ok _ gl_215_2 pc) (jm_if2 (jm_lu_ok _ gl_215_3 pc) (jm_lu_ok _ gl_215_4 pc))))
def cd_216 (pc : Nat) : jm_O := if pc < 44 then jm_lu cl_216_0 pc else jm_lu cl_216_1 pc
theorem ok_216 (pc : Nat) : jm_pu (cd_216 pc) ∧ jm_snd "FrescoWallModel" prog_14_method_48_code 5 (Option.some Jvm.ClassFile.FieldType.int) false pc (cd_216 pc) := jm_if2 (jm_lu_ok _ gl_216_0 pc) (jm_lu_ok _ gl_216_1 pc)
def cd_217 (pc : Nat) : jm_O := if pc < 44 then jm_lu cl_217_0 pc else jm_lu cl_217_1 pc
theorem ok_217 (pc : Nat) : jm_pu (cd_217 pc) ∧ jm_snd "FrescoWallModel" prog_14_method_49_code 5 (Option.some Jvm.ClassFile.FieldType.int) false pc (cd_217 pc) := jm_if2 (jm_lu_ok _ gl_217_0 pc) (jm_lu_ok _ gl_217_1 pc)
def cd_218 (pc : Nat) : jm_O := if pc < 47 then jm_lu cl_218_0 pc else if pc < 89 then jm_lu cl_218_1 pc else jm_lu cl_218_2 pc
theorem ok_218 (pc : Nat) : jm_pu (cd_218 pc) ∧ jm_snd "FrescoWallModel" prog_14_method_50_code 6 (Option.some Jvm.ClassFile.FieldType.int) false pc (cd_218 pc) := jm_if2 (jm_lu_ok _ gl_218_0 pc) (jm_if2 (jm_lu_ok _ gl_218_1 pc) (jm_lu_ok _ gl_218_2 pc))
def cd_219 (pc : Nat) : jm_O := if pc < 40 then jm_lu cl_219_0 pc else if pc < 88 then jm_lu cl_219_1 pc else if pc < 130 then jm_lu cl_219_2 pc else jm_lu cl_219_3 pc
theorem ok_219 (pc : Nat) : jm_pu (cd_219 pc) ∧ jm_snd "FrescoWallModel" prog_14_method_51_code 7 (Option.none : Option Jvm.ClassFile.FieldType) false pc (cd_219 pc) := jm_if2 (jm_lu_ok _ gl_219_0 pc) (jm_if2 (jm_lu_ok _ gl_219_1 pc) (jm_if2 (jm_lu_ok _ gl_219_2 pc) (jm_lu_ok _ gl_219_3 pc)))
