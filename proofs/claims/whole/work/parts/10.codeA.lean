theorem jm_dc {cc : ByteArray} {l : List (Nat × Instr × Nat)} (h : l.all (fun e => decide (decode cc e.1 = .ok e.2)) = true) (i : Nat) {pc : Nat} {x : Instr} {n : Nat} (hi : l[i]? = some (pc, x, n)) : decode cc pc = .ok (x, n) := of_decide_eq_true (List.all_eq_true.mp h (pc, x, n) (List.mem_of_getElem? hi))
def jm_lu : List (Nat × jm_O) → Nat → jm_O
  | [], _ => jm_bad
  | (p, o) :: r, pc => if pc = p then o else jm_lu r pc
def jm_gl (own : String) (cc : ByteArray) (nL : Nat) (ret : Option FieldType) (ini : Bool) (l : List (Nat × jm_O)) : Prop := ∀ e ∈ l, jm_pu e.2 ∧ jm_snd own cc nL ret ini e.1 e.2
theorem jm_gn {own : String} {cc : ByteArray} {nL : Nat} {ret : Option FieldType} {ini : Bool} : jm_gl own cc nL ret ini [] := fun _ h => absurd h List.not_mem_nil
theorem jm_gc {own : String} {cc : ByteArray} {nL : Nat} {ret : Option FieldType} {ini : Bool} {pc : Nat} {op : jm_O} {l : List (Nat × jm_O)} (hp : jm_pu op) (hs : jm_snd own cc nL ret ini pc op) (hl : jm_gl own cc nL ret ini l) : jm_gl own cc nL ret ini ((pc, op) :: l) := fun e he => (List.mem_cons.mp he).elim (fun q => q ▸ ⟨hp, hs⟩) (hl e)
theorem jm_ga {own : String} {cc : ByteArray} {nL : Nat} {ret : Option FieldType} {ini : Bool} {l l2 : List (Nat × jm_O)} (h1 : jm_gl own cc nL ret ini l) (h2 : jm_gl own cc nL ret ini l2) : jm_gl own cc nL ret ini (l ++ l2) := fun e he => (List.mem_append.mp he).elim (h1 e) (h2 e)
theorem jm_lu_ok {own : String} {cc : ByteArray} {nL : Nat} {ret : Option FieldType} {ini : Bool} : ∀ (l : List (Nat × jm_O)), jm_gl own cc nL ret ini l → ∀ pc, jm_pu (jm_lu l pc) ∧ jm_snd own cc nL ret ini pc (jm_lu l pc)
  | [], _, _ => ⟨pu_bad, sn_bad⟩
  | (p, o) :: r, h, pc => by
    unfold jm_lu
    by_cases hq : pc = p
    · rw [if_pos hq, hq]
      exact h (p, o) List.mem_cons_self
    · rw [if_neg hq]
      exact jm_lu_ok r (fun e he => h e (List.mem_cons_of_mem _ he)) pc

theorem dc_94_0 : ([(0, .aload_n 0, 1), (1, .invokespecial 1, 3), (4, .aload_n 0, 1), (5, .sipush 240, 3), (8, .newarray .byte, 2), (10, .putfield 9, 3), (13, .return_, 1)] : List (Nat × Instr × Nat)).all (fun e => decide (decode prog_11_method_1_code e.1 = .ok e.2)) = true := by decide +kernel
abbrev cl_94_0 : List (Nat × jm_O) := [(0, op_aload 0 1), (1, op_objInit), (4, op_aload 0 1), (5, op_ic 240 3), (8, op_newa 12 2), (10, op_putA 8 1), (13, op_vret)]
set_option maxRecDepth 100000 in
theorem gl_94_0 : jm_gl "FrescoWall$Tape" prog_11_method_1_code 1 (Option.none : Option Jvm.ClassFile.FieldType) true cl_94_0 :=
  jm_gc (pu_aload _ _) (sn_aload_n (i := 0) (jm_dc dc_94_0 0 rfl)) (
  jm_gc (pu_objInit) (sn_objInit (jm_dc dc_94_0 1 rfl) ⟨kc_tb 30 (by decide +kernel), kc_tb 23 (by decide +kernel), kc_tb 24 (by decide +kernel)⟩) (
  jm_gc (pu_aload _ _) (sn_aload_n (i := 0) (jm_dc dc_94_0 2 rfl)) (
  jm_gc (pu_ic _ _) (sn_sipush (jm_dc dc_94_0 3 rfl) (by decide)) (
  jm_gc (pu_newa _ _) (sn_newB (jm_dc dc_94_0 4 rfl) (kc_tb 42 (by decide +kernel))) (
  jm_gc (pu_putA _ _) (sn_putAF (jm_dc dc_94_0 5 rfl) flw_8_9 rfl rfl) (
  jm_gc (pu_vret) (sn_vret (jm_dc dc_94_0 6 rfl) rfl) (
  jm_gn)))))))
theorem dc_95_0 : ([(0, .aload_n 0, 1), (1, .getfield 13, 3), (4, .sipush 240, 3), (7, .if_icmp .ge 24, 3), (10, .aload_n 0, 1), (11, .getfield 9, 3), (14, .aload_n 0, 1), (15, .getfield 13, 3), (18, .iload_n 1, 1), (19, .i2b, 1), (20, .bastore, 1), (21, .aload_n 0, 1), (22, .dup, 1), (23, .getfield 13, 3), (26, .iconst 1, 1), (27, .iadd, 1), (28, .putfield 13, 3), (31, .return_, 1)] : List (Nat × Instr × Nat)).all (fun e => decide (decode prog_11_method_2_code e.1 = .ok e.2)) = true := by decide +kernel
abbrev cl_95_0 : List (Nat × jm_O) := [(0, op_aload 0 1), (1, op_getI 8 0), (4, op_ic 240 3), (7, op_cge 31), (10, op_aload 0 1), (11, op_getA 8 1), (14, op_aload 0 1), (15, op_getI 8 0), (18, op_iload 1 1), (19, op_iun (fun x => x.toInt8.toInt32)), (20, op_bast), (21, op_aload 0 1), (22, op_dup), (23, op_getI 8 0), (26, op_ic 1 1), (27, op_ibin (fun x y => x + y)), (28, op_putI 8 0), (31, op_vret)]
set_option maxRecDepth 100000 in
theorem gl_95_0 : jm_gl "FrescoWall$Tape" prog_11_method_2_code 2 (Option.none : Option Jvm.ClassFile.FieldType) false cl_95_0 :=
  jm_gc (pu_aload _ _) (sn_aload_n (i := 0) (jm_dc dc_95_0 0 rfl)) (
  jm_gc (pu_getI _ _) (sn_getI (jm_dc dc_95_0 1 rfl) fl_8_13 (Or.inl rfl)) (
  jm_gc (pu_ic _ _) (sn_sipush (jm_dc dc_95_0 2 rfl) (by decide)) (
  jm_gc (pu_cge _) (sn_cge (jm_dc dc_95_0 3 rfl) (by decide)) (
  jm_gc (pu_aload _ _) (sn_aload_n (i := 0) (jm_dc dc_95_0 4 rfl)) (
  jm_gc (pu_getA _ _) (sn_getA (jm_dc dc_95_0 5 rfl) fl_8_9 rfl) (
  jm_gc (pu_aload _ _) (sn_aload_n (i := 0) (jm_dc dc_95_0 6 rfl)) (
  jm_gc (pu_getI _ _) (sn_getI (jm_dc dc_95_0 7 rfl) fl_8_13 (Or.inl rfl)) (
  jm_gc (pu_iload _ _) (sn_iload_n (i := 1) (jm_dc dc_95_0 8 rfl)) (
  jm_gc (pu_iun _) (sn_i2b (jm_dc dc_95_0 9 rfl)) (
  jm_gc (pu_bast) (sn_bast (jm_dc dc_95_0 10 rfl)) (
  jm_gc (pu_aload _ _) (sn_aload_n (i := 0) (jm_dc dc_95_0 11 rfl)) (
  jm_gc (pu_dup) (sn_dup (jm_dc dc_95_0 12 rfl)) (
  jm_gc (pu_getI _ _) (sn_getI (jm_dc dc_95_0 13 rfl) fl_8_13 (Or.inl rfl)) (
  jm_gc (pu_ic _ _) (sn_iconst (jm_dc dc_95_0 14 rfl) (by decide)) (
  jm_gc (pu_ibin _) (sn_iadd (jm_dc dc_95_0 15 rfl)) (
  jm_gc (pu_putI _ _) (sn_putI (jm_dc dc_95_0 16 rfl) flw_8_13 rfl) (
  jm_gc (pu_vret) (sn_vret (jm_dc dc_95_0 17 rfl) rfl) (
  jm_gn))))))))))))))))))
theorem dc_96_0 : ([(0, .iload_n 1, 1), (1, .ifCond .lt 24, 3), (4, .iload_n 1, 1), (5, .aload_n 0, 1), (6, .getfield 13, 3), (9, .if_icmp .ge 16, 3), (12, .aload_n 0, 1), (13, .getfield 9, 3), (16, .iload_n 1, 1), (17, .baload, 1), (18, .sipush 255, 3), (21, .iand, 1), (22, .goto 4, 3), (25, .iconst (-1), 1), (26, .ireturn, 1)] : List (Nat × Instr × Nat)).all (fun e => decide (decode prog_11_method_3_code e.1 = .ok e.2)) = true := by decide +kernel
abbrev cl_96_0 : List (Nat × jm_O) := [(0, op_iload 1 1), (1, op_iflt 25), (4, op_iload 1 1), (5, op_aload 0 1), (6, op_getI 8 0), (9, op_cge 25), (12, op_aload 0 1), (13, op_getA 8 1), (16, op_iload 1 1), (17, op_iald 12), (18, op_ic 255 3), (21, op_ibin (fun x y => x &&& y)), (22, op_goto 26), (25, op_ic (-1) 1), (26, op_iret)]
set_option maxRecDepth 100000 in
theorem gl_96_0 : jm_gl "FrescoWall$Tape" prog_11_method_3_code 2 (Option.some Jvm.ClassFile.FieldType.int) false cl_96_0 :=
  jm_gc (pu_iload _ _) (sn_iload_n (i := 1) (jm_dc dc_96_0 0 rfl)) (
  jm_gc (pu_iflt _) (sn_iflt (jm_dc dc_96_0 1 rfl) (by decide)) (
  jm_gc (pu_iload _ _) (sn_iload_n (i := 1) (jm_dc dc_96_0 2 rfl)) (
  jm_gc (pu_aload _ _) (sn_aload_n (i := 0) (jm_dc dc_96_0 3 rfl)) (
  jm_gc (pu_getI _ _) (sn_getI (jm_dc dc_96_0 4 rfl) fl_8_13 (Or.inl rfl)) (
  jm_gc (pu_cge _) (sn_cge (jm_dc dc_96_0 5 rfl) (by decide)) (
  jm_gc (pu_aload _ _) (sn_aload_n (i := 0) (jm_dc dc_96_0 6 rfl)) (
  jm_gc (pu_getA _ _) (sn_getA (jm_dc dc_96_0 7 rfl) fl_8_9 rfl) (
  jm_gc (pu_iload _ _) (sn_iload_n (i := 1) (jm_dc dc_96_0 8 rfl)) (
  jm_gc (pu_iald _) (sn_bald (jm_dc dc_96_0 9 rfl)) (
  jm_gc (pu_ic _ _) (sn_sipush (jm_dc dc_96_0 10 rfl) (by decide)) (
  jm_gc (pu_ibin _) (sn_iand (jm_dc dc_96_0 11 rfl)) (
  jm_gc (pu_goto _) (sn_goto (jm_dc dc_96_0 12 rfl) (by decide)) (
  jm_gc (pu_ic _ _) (sn_iconst (jm_dc dc_96_0 13 rfl) (by decide)) (
  jm_gc (pu_iret) (sn_iret (jm_dc dc_96_0 14 rfl) rfl) (
  jm_gn)))))))))))))))
theorem dc_97_0 : ([(0, .aload_n 0, 1), (1, .iload_n 1, 1), (2, .invokevirtual 17, 3), (5, .istore_n 2, 1), (6, .iload_n 2, 1), (7, .bipush 48, 2), (9, .if_icmp .lt 16, 3), (12, .iload_n 2, 1), (13, .bipush 57, 2), (15, .if_icmp .gt 10, 3), (18, .iload_n 2, 1), (19, .bipush 48, 2), (21, .isub, 1), (22, .goto 4, 3), (25, .iconst (-1), 1), (26, .ireturn, 1)] : List (Nat × Instr × Nat)).all (fun e => decide (decode prog_11_method_4_code e.1 = .ok e.2)) = true := by decide +kernel
abbrev cl_97_0 : List (Nat × jm_O) := [(0, op_aload 0 1), (1, op_iload 1 1), (2, op_callV 8 96 2), (5, op_istore 2 1), (6, op_iload 2 1), (7, op_ic 48 2), (9, op_clt 25), (12, op_iload 2 1), (13, op_ic 57 2), (15, op_cgt 25), (18, op_iload 2 1), (19, op_ic 48 2), (21, op_ibin (fun x y => x - y)), (22, op_goto 26), (25, op_ic (-1) 1), (26, op_iret)]
set_option maxRecDepth 100000 in
theorem gl_97_0 : jm_gl "FrescoWall$Tape" prog_11_method_4_code 3 (Option.some Jvm.ClassFile.FieldType.int) false cl_97_0 :=
  jm_gc (pu_aload _ _) (sn_aload_n (i := 0) (jm_dc dc_97_0 0 rfl)) (
  jm_gc (pu_iload _ _) (sn_iload_n (i := 1) (jm_dc dc_97_0 1 rfl)) (
  jm_gc (pu_callV _ _ _) (sn_callV (jm_dc dc_97_0 2 rfl) lk_8_17) (
  jm_gc (pu_istore _ _) (sn_istore_n (i := 2) (jm_dc dc_97_0 3 rfl)) (
  jm_gc (pu_iload _ _) (sn_iload_n (i := 2) (jm_dc dc_97_0 4 rfl)) (
  jm_gc (pu_ic _ _) (sn_bipush (jm_dc dc_97_0 5 rfl) (by decide)) (
  jm_gc (pu_clt _) (sn_clt (jm_dc dc_97_0 6 rfl) (by decide)) (
  jm_gc (pu_iload _ _) (sn_iload_n (i := 2) (jm_dc dc_97_0 7 rfl)) (
  jm_gc (pu_ic _ _) (sn_bipush (jm_dc dc_97_0 8 rfl) (by decide)) (
  jm_gc (pu_cgt _) (sn_cgt (jm_dc dc_97_0 9 rfl) (by decide)) (
  jm_gc (pu_iload _ _) (sn_iload_n (i := 2) (jm_dc dc_97_0 10 rfl)) (
  jm_gc (pu_ic _ _) (sn_bipush (jm_dc dc_97_0 11 rfl) (by decide)) (
  jm_gc (pu_ibin _) (sn_isub (jm_dc dc_97_0 12 rfl)) (
  jm_gc (pu_goto _) (sn_goto (jm_dc dc_97_0 13 rfl) (by decide)) (
  jm_gc (pu_ic _ _) (sn_iconst (jm_dc dc_97_0 14 rfl) (by decide)) (
  jm_gc (pu_iret) (sn_iret (jm_dc dc_97_0 15 rfl) rfl) (
  jm_gn))))))))))))))))
theorem dc_98_0 : ([(0, .iconst 0, 1), (1, .istore_n 2, 1), (2, .iload_n 2, 1), (3, .aload_n 0, 1), (4, .getfield 13, 3), (7, .if_icmp .ge 20, 3), (10, .aload_n 0, 1), (11, .iload_n 2, 1), (12, .invokevirtual 17, 3), (15, .iload_n 1, 1), (16, .if_icmp .ne 5, 3), (19, .iconst 1, 1), (20, .ireturn, 1), (21, .iinc 2 1, 3), (24, .goto (-22), 3), (27, .iconst 0, 1), (28, .ireturn, 1)] : List (Nat × Instr × Nat)).all (fun e => decide (decode prog_11_method_5_code e.1 = .ok e.2)) = true := by decide +kernel
abbrev cl_98_0 : List (Nat × jm_O) := [(0, op_ic 0 1), (1, op_istore 2 1), (2, op_iload 2 1), (3, op_aload 0 1), (4, op_getI 8 0), (7, op_cge 27), (10, op_aload 0 1), (11, op_iload 2 1), (12, op_callV 8 96 2), (15, op_iload 1 1), (16, op_cne 21), (19, op_ic 1 1), (20, op_zret), (21, op_iinc 2 1), (24, op_goto 2), (27, op_ic 0 1), (28, op_zret)]
set_option maxRecDepth 100000 in
theorem gl_98_0 : jm_gl "FrescoWall$Tape" prog_11_method_5_code 3 (Option.some Jvm.ClassFile.FieldType.boolean) false cl_98_0 :=
  jm_gc (pu_ic _ _) (sn_iconst (jm_dc dc_98_0 0 rfl) (by decide)) (
  jm_gc (pu_istore _ _) (sn_istore_n (i := 2) (jm_dc dc_98_0 1 rfl)) (
  jm_gc (pu_iload _ _) (sn_iload_n (i := 2) (jm_dc dc_98_0 2 rfl)) (
  jm_gc (pu_aload _ _) (sn_aload_n (i := 0) (jm_dc dc_98_0 3 rfl)) (
  jm_gc (pu_getI _ _) (sn_getI (jm_dc dc_98_0 4 rfl) fl_8_13 (Or.inl rfl)) (
  jm_gc (pu_cge _) (sn_cge (jm_dc dc_98_0 5 rfl) (by decide)) (
  jm_gc (pu_aload _ _) (sn_aload_n (i := 0) (jm_dc dc_98_0 6 rfl)) (
  jm_gc (pu_iload _ _) (sn_iload_n (i := 2) (jm_dc dc_98_0 7 rfl)) (
  jm_gc (pu_callV _ _ _) (sn_callV (jm_dc dc_98_0 8 rfl) lk_8_17) (
  jm_gc (pu_iload _ _) (sn_iload_n (i := 1) (jm_dc dc_98_0 9 rfl)) (
  jm_gc (pu_cne _) (sn_cne (jm_dc dc_98_0 10 rfl) (by decide)) (
  jm_gc (pu_ic _ _) (sn_iconst (jm_dc dc_98_0 11 rfl) (by decide)) (
  jm_gc (pu_zret) (sn_zret (jm_dc dc_98_0 12 rfl) rfl) (
  jm_gc (pu_iinc _ _) (sn_iinc (jm_dc dc_98_0 13 rfl) (by decide)) (
  jm_gc (pu_goto _) (sn_goto (jm_dc dc_98_0 14 rfl) (by decide)) (
  jm_gc (pu_ic _ _) (sn_iconst (jm_dc dc_98_0 15 rfl) (by decide)) (
  jm_gc (pu_zret) (sn_zret (jm_dc dc_98_0 16 rfl) rfl) (
  jm_gn)))))))))))))))))
theorem dc_305_0 : ([(0, .iload_n 0, 1), (1, .iconst 3, 1), (2, .iand, 1), (3, .i2l, 1), (4, .bipush 40, 2), (6, .lshl, 1), (7, .iload_n 1, 1), (8, .ldc 9, 2), (10, .iadd, 1), (11, .i2l, 1), (12, .ldc2_w 10, 3), (15, .land, 1), (16, .bipush 20, 2), (18, .lshl, 1), (19, .lor, 1), (20, .iload_n 2, 1), (21, .ldc 9, 2), (23, .iadd, 1), (24, .i2l, 1), (25, .ldc2_w 10, 3), (28, .land, 1), (29, .lor, 1), (30, .lreturn, 1)] : List (Nat × Instr × Nat)).all (fun e => decide (decode prog_8_method_2_code e.1 = .ok e.2)) = true := by decide +kernel
abbrev cl_305_0 : List (Nat × jm_O) := [(0, op_iload 0 1), (1, op_ic 3 1), (2, op_ibin (fun x y => x &&& y)), (3, op_i2l), (4, op_ic 40 2), (6, op_lsh (fun x y => x <<< (y.toInt64 &&& 63))), (7, op_iload 1 1), (8, op_ic 524288 2), (10, op_ibin (fun x y => x + y)), (11, op_i2l), (12, op_lc 1048575 3), (15, op_lbin (fun x y => x &&& y)), (16, op_ic 20 2), (18, op_lsh (fun x y => x <<< (y.toInt64 &&& 63))), (19, op_lbin (fun x y => x ||| y)), (20, op_iload 2 1), (21, op_ic 524288 2), (23, op_ibin (fun x y => x + y)), (24, op_i2l), (25, op_lc 1048575 3), (28, op_lbin (fun x y => x &&& y)), (29, op_lbin (fun x y => x ||| y)), (30, op_lret)]
set_option maxRecDepth 100000 in
theorem gl_305_0 : jm_gl "FrescoWall$Place" prog_8_method_2_code 3 (Option.some Jvm.ClassFile.FieldType.long) false cl_305_0 :=
  jm_gc (pu_iload _ _) (sn_iload_n (i := 0) (jm_dc dc_305_0 0 rfl)) (
  jm_gc (pu_ic _ _) (sn_iconst (jm_dc dc_305_0 1 rfl) (by decide)) (
  jm_gc (pu_ibin _) (sn_iand (jm_dc dc_305_0 2 rfl)) (
  jm_gc (pu_i2l) (sn_i2l (jm_dc dc_305_0 3 rfl)) (
  jm_gc (pu_ic _ _) (sn_bipush (jm_dc dc_305_0 4 rfl) (by decide)) (
  jm_gc (pu_lsh _) (sn_lshl (jm_dc dc_305_0 5 rfl)) (
  jm_gc (pu_iload _ _) (sn_iload_n (i := 1) (jm_dc dc_305_0 6 rfl)) (
  jm_gc (pu_ic _ _) (sn_ldc (jm_dc dc_305_0 7 rfl) (kc_tb 692 (by decide +kernel))) (
  jm_gc (pu_ibin _) (sn_iadd (jm_dc dc_305_0 8 rfl)) (
  jm_gc (pu_i2l) (sn_i2l (jm_dc dc_305_0 9 rfl)) (
  jm_gc (pu_lc _ _) (sn_ldc2 (jm_dc dc_305_0 10 rfl) (kc_tb 693 (by decide +kernel))) (
  jm_gc (pu_lbin _) (sn_land (jm_dc dc_305_0 11 rfl)) (
  jm_gc (pu_ic _ _) (sn_bipush (jm_dc dc_305_0 12 rfl) (by decide)) (
  jm_gc (pu_lsh _) (sn_lshl (jm_dc dc_305_0 13 rfl)) (
  jm_gc (pu_lbin _) (sn_lor (jm_dc dc_305_0 14 rfl)) (
  jm_gc (pu_iload _ _) (sn_iload_n (i := 2) (jm_dc dc_305_0 15 rfl)) (
  jm_gc (pu_ic _ _) (sn_ldc (jm_dc dc_305_0 16 rfl) (kc_tb 692 (by decide +kernel))) (
  jm_gc (pu_ibin _) (sn_iadd (jm_dc dc_305_0 17 rfl)) (
  jm_gc (pu_i2l) (sn_i2l (jm_dc dc_305_0 18 rfl)) (
  jm_gc (pu_lc _ _) (sn_ldc2 (jm_dc dc_305_0 19 rfl) (kc_tb 693 (by decide +kernel))) (
  jm_gc (pu_lbin _) (sn_land (jm_dc dc_305_0 20 rfl)) (
  jm_gc (pu_lbin _) (sn_lor (jm_dc dc_305_0 21 rfl)) (
  jm_gc (pu_lret) (sn_lret (jm_dc dc_305_0 22 rfl) rfl) (
  jm_gn)))))))))))))))))))))))
theorem dc_306_0 : ([(0, .lload_n 0, 1), (1, .bipush 40, 2), (3, .lshr, 1), (4, .l2i, 1), (5, .iconst 3, 1), (6, .iand, 1), (7, .ireturn, 1)] : List (Nat × Instr × Nat)).all (fun e => decide (decode prog_8_method_3_code e.1 = .ok e.2)) = true := by decide +kernel
abbrev cl_306_0 : List (Nat × jm_O) := [(0, op_lload 0 1), (1, op_ic 40 2), (3, op_lsh (fun x y => x >>> (y.toInt64 &&& 63))), (4, op_l2i), (5, op_ic 3 1), (6, op_ibin (fun x y => x &&& y)), (7, op_iret)]
set_option maxRecDepth 100000 in
theorem gl_306_0 : jm_gl "FrescoWall$Place" prog_8_method_3_code 2 (Option.some Jvm.ClassFile.FieldType.int) false cl_306_0 :=
  jm_gc (pu_lload _ _) (sn_lload_n (i := 0) (jm_dc dc_306_0 0 rfl)) (
  jm_gc (pu_ic _ _) (sn_bipush (jm_dc dc_306_0 1 rfl) (by decide)) (
  jm_gc (pu_lsh _) (sn_lshr (jm_dc dc_306_0 2 rfl)) (
  jm_gc (pu_l2i) (sn_l2i (jm_dc dc_306_0 3 rfl)) (
  jm_gc (pu_ic _ _) (sn_iconst (jm_dc dc_306_0 4 rfl) (by decide)) (
  jm_gc (pu_ibin _) (sn_iand (jm_dc dc_306_0 5 rfl)) (
  jm_gc (pu_iret) (sn_iret (jm_dc dc_306_0 6 rfl) rfl) (
  jm_gn)))))))
theorem dc_307_0 : ([(0, .lload_n 0, 1), (1, .bipush 20, 2), (3, .lshr, 1), (4, .ldc2_w 10, 3), (7, .land, 1), (8, .l2i, 1), (9, .ldc 9, 2), (11, .isub, 1), (12, .ireturn, 1)] : List (Nat × Instr × Nat)).all (fun e => decide (decode prog_8_method_4_code e.1 = .ok e.2)) = true := by decide +kernel
abbrev cl_307_0 : List (Nat × jm_O) := [(0, op_lload 0 1), (1, op_ic 20 2), (3, op_lsh (fun x y => x >>> (y.toInt64 &&& 63))), (4, op_lc 1048575 3), (7, op_lbin (fun x y => x &&& y)), (8, op_l2i), (9, op_ic 524288 2), (11, op_ibin (fun x y => x - y)), (12, op_iret)]
set_option maxRecDepth 100000 in
theorem gl_307_0 : jm_gl "FrescoWall$Place" prog_8_method_4_code 2 (Option.some Jvm.ClassFile.FieldType.int) false cl_307_0 :=
  jm_gc (pu_lload _ _) (sn_lload_n (i := 0) (jm_dc dc_307_0 0 rfl)) (
  jm_gc (pu_ic _ _) (sn_bipush (jm_dc dc_307_0 1 rfl) (by decide)) (
  jm_gc (pu_lsh _) (sn_lshr (jm_dc dc_307_0 2 rfl)) (
  jm_gc (pu_lc _ _) (sn_ldc2 (jm_dc dc_307_0 3 rfl) (kc_tb 693 (by decide +kernel))) (
  jm_gc (pu_lbin _) (sn_land (jm_dc dc_307_0 4 rfl)) (
  jm_gc (pu_l2i) (sn_l2i (jm_dc dc_307_0 5 rfl)) (
  jm_gc (pu_ic _ _) (sn_ldc (jm_dc dc_307_0 6 rfl) (kc_tb 692 (by decide +kernel))) (
  jm_gc (pu_ibin _) (sn_isub (jm_dc dc_307_0 7 rfl)) (
  jm_gc (pu_iret) (sn_iret (jm_dc dc_307_0 8 rfl) rfl) (
  jm_gn)))))))))
theorem dc_308_0 : ([(0, .lload_n 0, 1), (1, .ldc2_w 10, 3), (4, .land, 1), (5, .l2i, 1), (6, .ldc 9, 2), (8, .isub, 1), (9, .ireturn, 1)] : List (Nat × Instr × Nat)).all (fun e => decide (decode prog_8_method_5_code e.1 = .ok e.2)) = true := by decide +kernel
abbrev cl_308_0 : List (Nat × jm_O) := [(0, op_lload 0 1), (1, op_lc 1048575 3), (4, op_lbin (fun x y => x &&& y)), (5, op_l2i), (6, op_ic 524288 2), (8, op_ibin (fun x y => x - y)), (9, op_iret)]
set_option maxRecDepth 100000 in
theorem gl_308_0 : jm_gl "FrescoWall$Place" prog_8_method_5_code 2 (Option.some Jvm.ClassFile.FieldType.int) false cl_308_0 :=
  jm_gc (pu_lload _ _) (sn_lload_n (i := 0) (jm_dc dc_308_0 0 rfl)) (
  jm_gc (pu_lc _ _) (sn_ldc2 (jm_dc dc_308_0 1 rfl) (kc_tb 693 (by decide +kernel))) (
  jm_gc (pu_lbin _) (sn_land (jm_dc dc_308_0 2 rfl)) (
  jm_gc (pu_l2i) (sn_l2i (jm_dc dc_308_0 3 rfl)) (
  jm_gc (pu_ic _ _) (sn_ldc (jm_dc dc_308_0 4 rfl) (kc_tb 692 (by decide +kernel))) (
  jm_gc (pu_ibin _) (sn_isub (jm_dc dc_308_0 5 rfl)) (
  jm_gc (pu_iret) (sn_iret (jm_dc dc_308_0 6 rfl) rfl) (
  jm_gn)))))))
theorem dc_309_0 : ([(0, .iload_n 0, 1), (1, .iconst 3, 1), (2, .iand, 1), (3, .tableswitch 33 0 2 #[25, 27, 30], 25), (28, .iload_n 1, 1), (29, .ireturn, 1), (30, .iload_n 2, 1), (31, .ineg, 1), (32, .ireturn, 1), (33, .iload_n 1, 1), (34, .ineg, 1), (35, .ireturn, 1), (36, .iload_n 2, 1), (37, .ireturn, 1)] : List (Nat × Instr × Nat)).all (fun e => decide (decode prog_8_method_6_code e.1 = .ok e.2)) = true := by decide +kernel
abbrev cl_309_0 : List (Nat × jm_O) := [(0, op_iload 0 1), (1, op_ic 3 1), (2, op_ibin (fun x y => x &&& y)), (3, op_sw 36 [(0, 28), (1, 30), (2, 33)]), (28, op_iload 1 1), (29, op_iret), (30, op_iload 2 1), (31, op_iun (fun x => -x)), (32, op_iret), (33, op_iload 1 1), (34, op_iun (fun x => -x)), (35, op_iret), (36, op_iload 2 1), (37, op_iret)]
set_option maxRecDepth 100000 in
theorem gl_309_0 : jm_gl "FrescoWall$Place" prog_8_method_6_code 3 (Option.some Jvm.ClassFile.FieldType.int) false cl_309_0 :=
  jm_gc (pu_iload _ _) (sn_iload_n (i := 0) (jm_dc dc_309_0 0 rfl)) (
  jm_gc (pu_ic _ _) (sn_iconst (jm_dc dc_309_0 1 rfl) (by decide)) (
  jm_gc (pu_ibin _) (sn_iand (jm_dc dc_309_0 2 rfl)) (
  jm_gc (pu_sw _ _) (sn_tsw (jm_dc dc_309_0 3 rfl) (by decide) (by decide) (by decide)) (
  jm_gc (pu_iload _ _) (sn_iload_n (i := 1) (jm_dc dc_309_0 4 rfl)) (
  jm_gc (pu_iret) (sn_iret (jm_dc dc_309_0 5 rfl) rfl) (
  jm_gc (pu_iload _ _) (sn_iload_n (i := 2) (jm_dc dc_309_0 6 rfl)) (
  jm_gc (pu_iun _) (sn_ineg (jm_dc dc_309_0 7 rfl)) (
  jm_gc (pu_iret) (sn_iret (jm_dc dc_309_0 8 rfl) rfl) (
  jm_gc (pu_iload _ _) (sn_iload_n (i := 1) (jm_dc dc_309_0 9 rfl)) (
  jm_gc (pu_iun _) (sn_ineg (jm_dc dc_309_0 10 rfl)) (
  jm_gc (pu_iret) (sn_iret (jm_dc dc_309_0 11 rfl) rfl) (
  jm_gc (pu_iload _ _) (sn_iload_n (i := 2) (jm_dc dc_309_0 12 rfl)) (
  jm_gc (pu_iret) (sn_iret (jm_dc dc_309_0 13 rfl) rfl) (
  jm_gn))))))))))))))
theorem dc_310_0 : ([(0, .iload_n 0, 1), (1, .iconst 3, 1), (2, .iand, 1), (3, .tableswitch 32 0 2 #[25, 27, 29], 25), (28, .iload_n 2, 1), (29, .ireturn, 1), (30, .iload_n 1, 1), (31, .ireturn, 1), (32, .iload_n 2, 1), (33, .ineg, 1), (34, .ireturn, 1), (35, .iload_n 1, 1), (36, .ineg, 1), (37, .ireturn, 1)] : List (Nat × Instr × Nat)).all (fun e => decide (decode prog_8_method_7_code e.1 = .ok e.2)) = true := by decide +kernel
abbrev cl_310_0 : List (Nat × jm_O) := [(0, op_iload 0 1), (1, op_ic 3 1), (2, op_ibin (fun x y => x &&& y)), (3, op_sw 35 [(0, 28), (1, 30), (2, 32)]), (28, op_iload 2 1), (29, op_iret), (30, op_iload 1 1), (31, op_iret), (32, op_iload 2 1), (33, op_iun (fun x => -x)), (34, op_iret), (35, op_iload 1 1), (36, op_iun (fun x => -x)), (37, op_iret)]
set_option maxRecDepth 100000 in
theorem gl_310_0 : jm_gl "FrescoWall$Place" prog_8_method_7_code 3 (Option.some Jvm.ClassFile.FieldType.int) false cl_310_0 :=
  jm_gc (pu_iload _ _) (sn_iload_n (i := 0) (jm_dc dc_310_0 0 rfl)) (
  jm_gc (pu_ic _ _) (sn_iconst (jm_dc dc_310_0 1 rfl) (by decide)) (
  jm_gc (pu_ibin _) (sn_iand (jm_dc dc_310_0 2 rfl)) (
  jm_gc (pu_sw _ _) (sn_tsw (jm_dc dc_310_0 3 rfl) (by decide) (by decide) (by decide)) (
  jm_gc (pu_iload _ _) (sn_iload_n (i := 2) (jm_dc dc_310_0 4 rfl)) (
  jm_gc (pu_iret) (sn_iret (jm_dc dc_310_0 5 rfl) rfl) (
  jm_gc (pu_iload _ _) (sn_iload_n (i := 1) (jm_dc dc_310_0 6 rfl)) (
  jm_gc (pu_iret) (sn_iret (jm_dc dc_310_0 7 rfl) rfl) (
  jm_gc (pu_iload _ _) (sn_iload_n (i := 2) (jm_dc dc_310_0 8 rfl)) (
  jm_gc (pu_iun _) (sn_ineg (jm_dc dc_310_0 9 rfl)) (
  jm_gc (pu_iret) (sn_iret (jm_dc dc_310_0 10 rfl) rfl) (
  jm_gc (pu_iload _ _) (sn_iload_n (i := 1) (jm_dc dc_310_0 11 rfl)) (
  jm_gc (pu_iun _) (sn_ineg (jm_dc dc_310_0 12 rfl)) (
  jm_gc (pu_iret) (sn_iret (jm_dc dc_310_0 13 rfl) rfl) (
  jm_gn))))))))))))))
theorem dc_311_0 : ([(0, .iload_n 0, 1), (1, .iload_n 1, 1), (2, .iload_n 2, 1), (3, .invokestatic 12, 3), (6, .iload_n 0, 1), (7, .iconst 1, 1), (8, .if_icmp .eq 8, 3), (11, .iload_n 0, 1), (12, .iconst 2, 1), (13, .if_icmp .ne 7, 3), (16, .iconst 1, 1), (17, .goto 4, 3), (20, .iconst 0, 1), (21, .isub, 1), (22, .ireturn, 1)] : List (Nat × Instr × Nat)).all (fun e => decide (decode prog_8_method_8_code e.1 = .ok e.2)) = true := by decide +kernel
abbrev cl_311_0 : List (Nat × jm_O) := [(0, op_iload 0 1), (1, op_iload 1 1), (2, op_iload 2 1), (3, op_callS 309 3), (6, op_iload 0 1), (7, op_ic 1 1), (8, op_ceq 16), (11, op_iload 0 1), (12, op_ic 2 1), (13, op_cne 20), (16, op_ic 1 1), (17, op_goto 21), (20, op_ic 0 1), (21, op_ibin (fun x y => x - y)), (22, op_iret)]
set_option maxRecDepth 100000 in
theorem gl_311_0 : jm_gl "FrescoWall$Place" prog_8_method_8_code 3 (Option.some Jvm.ClassFile.FieldType.int) false cl_311_0 :=
  jm_gc (pu_iload _ _) (sn_iload_n (i := 0) (jm_dc dc_311_0 0 rfl)) (
  jm_gc (pu_iload _ _) (sn_iload_n (i := 1) (jm_dc dc_311_0 1 rfl)) (
  jm_gc (pu_iload _ _) (sn_iload_n (i := 2) (jm_dc dc_311_0 2 rfl)) (
  jm_gc (pu_callS _ _) (sn_callS (jm_dc dc_311_0 3 rfl) lk_12_12) (
  jm_gc (pu_iload _ _) (sn_iload_n (i := 0) (jm_dc dc_311_0 4 rfl)) (
  jm_gc (pu_ic _ _) (sn_iconst (jm_dc dc_311_0 5 rfl) (by decide)) (
  jm_gc (pu_ceq _) (sn_ceq (jm_dc dc_311_0 6 rfl) (by decide)) (
  jm_gc (pu_iload _ _) (sn_iload_n (i := 0) (jm_dc dc_311_0 7 rfl)) (
  jm_gc (pu_ic _ _) (sn_iconst (jm_dc dc_311_0 8 rfl) (by decide)) (
  jm_gc (pu_cne _) (sn_cne (jm_dc dc_311_0 9 rfl) (by decide)) (
  jm_gc (pu_ic _ _) (sn_iconst (jm_dc dc_311_0 10 rfl) (by decide)) (
  jm_gc (pu_goto _) (sn_goto (jm_dc dc_311_0 11 rfl) (by decide)) (
  jm_gc (pu_ic _ _) (sn_iconst (jm_dc dc_311_0 12 rfl) (by decide)) (
  jm_gc (pu_ibin _) (sn_isub (jm_dc dc_311_0 13 rfl)) (
  jm_gc (pu_iret) (sn_iret (jm_dc dc_311_0 14 rfl) rfl) (
  jm_gn)))))))))))))))
theorem dc_312_0 : ([(0, .iload_n 0, 1), (1, .iload_n 1, 1), (2, .iload_n 2, 1), (3, .invokestatic 16, 3), (6, .iload_n 0, 1), (7, .iconst 2, 1), (8, .if_icmp .eq 8, 3), (11, .iload_n 0, 1), (12, .iconst 3, 1), (13, .if_icmp .ne 7, 3), (16, .iconst 1, 1), (17, .goto 4, 3), (20, .iconst 0, 1), (21, .isub, 1), (22, .ireturn, 1)] : List (Nat × Instr × Nat)).all (fun e => decide (decode prog_8_method_9_code e.1 = .ok e.2)) = true := by decide +kernel
abbrev cl_312_0 : List (Nat × jm_O) := [(0, op_iload 0 1), (1, op_iload 1 1), (2, op_iload 2 1), (3, op_callS 310 3), (6, op_iload 0 1), (7, op_ic 2 1), (8, op_ceq 16), (11, op_iload 0 1), (12, op_ic 3 1), (13, op_cne 20), (16, op_ic 1 1), (17, op_goto 21), (20, op_ic 0 1), (21, op_ibin (fun x y => x - y)), (22, op_iret)]
set_option maxRecDepth 100000 in
theorem gl_312_0 : jm_gl "FrescoWall$Place" prog_8_method_9_code 3 (Option.some Jvm.ClassFile.FieldType.int) false cl_312_0 :=
  jm_gc (pu_iload _ _) (sn_iload_n (i := 0) (jm_dc dc_312_0 0 rfl)) (
  jm_gc (pu_iload _ _) (sn_iload_n (i := 1) (jm_dc dc_312_0 1 rfl)) (
  jm_gc (pu_iload _ _) (sn_iload_n (i := 2) (jm_dc dc_312_0 2 rfl)) (
  jm_gc (pu_callS _ _) (sn_callS (jm_dc dc_312_0 3 rfl) lk_12_16) (
  jm_gc (pu_iload _ _) (sn_iload_n (i := 0) (jm_dc dc_312_0 4 rfl)) (
  jm_gc (pu_ic _ _) (sn_iconst (jm_dc dc_312_0 5 rfl) (by decide)) (
  jm_gc (pu_ceq _) (sn_ceq (jm_dc dc_312_0 6 rfl) (by decide)) (
  jm_gc (pu_iload _ _) (sn_iload_n (i := 0) (jm_dc dc_312_0 7 rfl)) (
  jm_gc (pu_ic _ _) (sn_iconst (jm_dc dc_312_0 8 rfl) (by decide)) (
  jm_gc (pu_cne _) (sn_cne (jm_dc dc_312_0 9 rfl) (by decide)) (
  jm_gc (pu_ic _ _) (sn_iconst (jm_dc dc_312_0 10 rfl) (by decide)) (
  jm_gc (pu_goto _) (sn_goto (jm_dc dc_312_0 11 rfl) (by decide)) (
  jm_gc (pu_ic _ _) (sn_iconst (jm_dc dc_312_0 12 rfl) (by decide)) (
  jm_gc (pu_ibin _) (sn_isub (jm_dc dc_312_0 13 rfl)) (
  jm_gc (pu_iret) (sn_iret (jm_dc dc_312_0 14 rfl) rfl) (
  jm_gn)))))))))))))))
theorem dc_313_0 : ([(0, .lload_n 0, 1), (1, .invokestatic 19, 3), (4, .istore 4, 2), (6, .lload_n 2, 1), (7, .invokestatic 23, 3), (10, .istore 5, 2), (12, .lload_n 2, 1), (13, .invokestatic 26, 3), (16, .istore 6, 2), (18, .iload 4, 2), (20, .lload_n 2, 1), (21, .invokestatic 19, 3), (24, .iadd, 1), (25, .iload 4, 2), (27, .iload 5, 2), (29, .iload 6, 2), (31, .invokestatic 12, 3), (34, .lload_n 0, 1), (35, .invokestatic 23, 3), (38, .iadd, 1), (39, .iload 4, 2), (41, .iload 5, 2), (43, .iload 6, 2), (45, .invokestatic 16, 3), (48, .lload_n 0, 1)] : List (Nat × Instr × Nat)).all (fun e => decide (decode prog_8_method_10_code e.1 = .ok e.2)) = true := by decide +kernel
abbrev cl_313_0 : List (Nat × jm_O) := [(0, op_lload 0 1), (1, op_callS 306 1), (4, op_istore 4 2), (6, op_lload 2 1), (7, op_callS 307 1), (10, op_istore 5 2), (12, op_lload 2 1), (13, op_callS 308 1), (16, op_istore 6 2), (18, op_iload 4 2), (20, op_lload 2 1), (21, op_callS 306 1), (24, op_ibin (fun x y => x + y)), (25, op_iload 4 2), (27, op_iload 5 2), (29, op_iload 6 2), (31, op_callS 309 3), (34, op_lload 0 1), (35, op_callS 307 1), (38, op_ibin (fun x y => x + y)), (39, op_iload 4 2), (41, op_iload 5 2), (43, op_iload 6 2), (45, op_callS 310 3), (48, op_lload 0 1)]
set_option maxRecDepth 100000 in
theorem gl_313_0 : jm_gl "FrescoWall$Place" prog_8_method_10_code 7 (Option.some Jvm.ClassFile.FieldType.long) false cl_313_0 :=
  jm_gc (pu_lload _ _) (sn_lload_n (i := 0) (jm_dc dc_313_0 0 rfl)) (
  jm_gc (pu_callS _ _) (sn_callS (jm_dc dc_313_0 1 rfl) lk_12_19) (
  jm_gc (pu_istore _ _) (sn_istore (jm_dc dc_313_0 2 rfl)) (
  jm_gc (pu_lload _ _) (sn_lload_n (i := 2) (jm_dc dc_313_0 3 rfl)) (
  jm_gc (pu_callS _ _) (sn_callS (jm_dc dc_313_0 4 rfl) lk_12_23) (
  jm_gc (pu_istore _ _) (sn_istore (jm_dc dc_313_0 5 rfl)) (
  jm_gc (pu_lload _ _) (sn_lload_n (i := 2) (jm_dc dc_313_0 6 rfl)) (
  jm_gc (pu_callS _ _) (sn_callS (jm_dc dc_313_0 7 rfl) lk_12_26) (
  jm_gc (pu_istore _ _) (sn_istore (jm_dc dc_313_0 8 rfl)) (
  jm_gc (pu_iload _ _) (sn_iload (jm_dc dc_313_0 9 rfl)) (
  jm_gc (pu_lload _ _) (sn_lload_n (i := 2) (jm_dc dc_313_0 10 rfl)) (
  jm_gc (pu_callS _ _) (sn_callS (jm_dc dc_313_0 11 rfl) lk_12_19) (
  jm_gc (pu_ibin _) (sn_iadd (jm_dc dc_313_0 12 rfl)) (
  jm_gc (pu_iload _ _) (sn_iload (jm_dc dc_313_0 13 rfl)) (
  jm_gc (pu_iload _ _) (sn_iload (jm_dc dc_313_0 14 rfl)) (
  jm_gc (pu_iload _ _) (sn_iload (jm_dc dc_313_0 15 rfl)) (
  jm_gc (pu_callS _ _) (sn_callS (jm_dc dc_313_0 16 rfl) lk_12_12) (
  jm_gc (pu_lload _ _) (sn_lload_n (i := 0) (jm_dc dc_313_0 17 rfl)) (
  jm_gc (pu_callS _ _) (sn_callS (jm_dc dc_313_0 18 rfl) lk_12_23) (
  jm_gc (pu_ibin _) (sn_iadd (jm_dc dc_313_0 19 rfl)) (
  jm_gc (pu_iload _ _) (sn_iload (jm_dc dc_313_0 20 rfl)) (
  jm_gc (pu_iload _ _) (sn_iload (jm_dc dc_313_0 21 rfl)) (
  jm_gc (pu_iload _ _) (sn_iload (jm_dc dc_313_0 22 rfl)) (
  jm_gc (pu_callS _ _) (sn_callS (jm_dc dc_313_0 23 rfl) lk_12_16) (
  jm_gc (pu_lload _ _) (sn_lload_n (i := 0) (jm_dc dc_313_0 24 rfl)) (
  jm_gn)))))))))))))))))))))))))
theorem dc_313_1 : ([(49, .invokestatic 26, 3), (52, .iadd, 1), (53, .invokestatic 29, 3), (56, .lreturn, 1)] : List (Nat × Instr × Nat)).all (fun e => decide (decode prog_8_method_10_code e.1 = .ok e.2)) = true := by decide +kernel
abbrev cl_313_1 : List (Nat × jm_O) := [(49, op_callS 308 1), (52, op_ibin (fun x y => x + y)), (53, op_callS 305 3), (56, op_lret)]
set_option maxRecDepth 100000 in
theorem gl_313_1 : jm_gl "FrescoWall$Place" prog_8_method_10_code 7 (Option.some Jvm.ClassFile.FieldType.long) false cl_313_1 :=
  jm_gc (pu_callS _ _) (sn_callS (jm_dc dc_313_1 0 rfl) lk_12_26) (
  jm_gc (pu_ibin _) (sn_iadd (jm_dc dc_313_1 1 rfl)) (
  jm_gc (pu_callS _ _) (sn_callS (jm_dc dc_313_1 2 rfl) lk_12_29) (
  jm_gc (pu_lret) (sn_lret (jm_dc dc_313_1 3 rfl) rfl) (
  jm_gn))))
theorem dc_314_0 : ([(0, .iconst 4, 1), (1, .lload_n 0, 1), (2, .invokestatic 19, 3), (5, .isub, 1), (6, .istore_n 2, 1), (7, .lload_n 0, 1), (8, .invokestatic 23, 3), (11, .ineg, 1), (12, .istore_n 3, 1), (13, .lload_n 0, 1), (14, .invokestatic 26, 3), (17, .ineg, 1), (18, .istore 4, 2), (20, .iload_n 2, 1), (21, .iload_n 2, 1), (22, .iload_n 3, 1), (23, .iload 4, 2), (25, .invokestatic 12, 3), (28, .iload_n 2, 1), (29, .iload_n 3, 1), (30, .iload 4, 2), (32, .invokestatic 16, 3), (35, .invokestatic 29, 3), (38, .lreturn, 1)] : List (Nat × Instr × Nat)).all (fun e => decide (decode prog_8_method_11_code e.1 = .ok e.2)) = true := by decide +kernel
abbrev cl_314_0 : List (Nat × jm_O) := [(0, op_ic 4 1), (1, op_lload 0 1), (2, op_callS 306 1), (5, op_ibin (fun x y => x - y)), (6, op_istore 2 1), (7, op_lload 0 1), (8, op_callS 307 1), (11, op_iun (fun x => -x)), (12, op_istore 3 1), (13, op_lload 0 1), (14, op_callS 308 1), (17, op_iun (fun x => -x)), (18, op_istore 4 2), (20, op_iload 2 1), (21, op_iload 2 1), (22, op_iload 3 1), (23, op_iload 4 2), (25, op_callS 309 3), (28, op_iload 2 1), (29, op_iload 3 1), (30, op_iload 4 2), (32, op_callS 310 3), (35, op_callS 305 3), (38, op_lret)]
set_option maxRecDepth 100000 in
theorem gl_314_0 : jm_gl "FrescoWall$Place" prog_8_method_11_code 5 (Option.some Jvm.ClassFile.FieldType.long) false cl_314_0 :=
  jm_gc (pu_ic _ _) (sn_iconst (jm_dc dc_314_0 0 rfl) (by decide)) (
  jm_gc (pu_lload _ _) (sn_lload_n (i := 0) (jm_dc dc_314_0 1 rfl)) (
  jm_gc (pu_callS _ _) (sn_callS (jm_dc dc_314_0 2 rfl) lk_12_19) (
  jm_gc (pu_ibin _) (sn_isub (jm_dc dc_314_0 3 rfl)) (
  jm_gc (pu_istore _ _) (sn_istore_n (i := 2) (jm_dc dc_314_0 4 rfl)) (
  jm_gc (pu_lload _ _) (sn_lload_n (i := 0) (jm_dc dc_314_0 5 rfl)) (
  jm_gc (pu_callS _ _) (sn_callS (jm_dc dc_314_0 6 rfl) lk_12_23) (
  jm_gc (pu_iun _) (sn_ineg (jm_dc dc_314_0 7 rfl)) (
  jm_gc (pu_istore _ _) (sn_istore_n (i := 3) (jm_dc dc_314_0 8 rfl)) (
  jm_gc (pu_lload _ _) (sn_lload_n (i := 0) (jm_dc dc_314_0 9 rfl)) (
  jm_gc (pu_callS _ _) (sn_callS (jm_dc dc_314_0 10 rfl) lk_12_26) (
  jm_gc (pu_iun _) (sn_ineg (jm_dc dc_314_0 11 rfl)) (
  jm_gc (pu_istore _ _) (sn_istore (jm_dc dc_314_0 12 rfl)) (
  jm_gc (pu_iload _ _) (sn_iload_n (i := 2) (jm_dc dc_314_0 13 rfl)) (
  jm_gc (pu_iload _ _) (sn_iload_n (i := 2) (jm_dc dc_314_0 14 rfl)) (
  jm_gc (pu_iload _ _) (sn_iload_n (i := 3) (jm_dc dc_314_0 15 rfl)) (
  jm_gc (pu_iload _ _) (sn_iload (jm_dc dc_314_0 16 rfl)) (
  jm_gc (pu_callS _ _) (sn_callS (jm_dc dc_314_0 17 rfl) lk_12_12) (
  jm_gc (pu_iload _ _) (sn_iload_n (i := 2) (jm_dc dc_314_0 18 rfl)) (
  jm_gc (pu_iload _ _) (sn_iload_n (i := 3) (jm_dc dc_314_0 19 rfl)) (
  jm_gc (pu_iload _ _) (sn_iload (jm_dc dc_314_0 20 rfl)) (
  jm_gc (pu_callS _ _) (sn_callS (jm_dc dc_314_0 21 rfl) lk_12_16) (
  jm_gc (pu_callS _ _) (sn_callS (jm_dc dc_314_0 22 rfl) lk_12_29) (
  jm_gc (pu_lret) (sn_lret (jm_dc dc_314_0 23 rfl) rfl) (
  jm_gn))))))))))))))))))))))))
theorem dc_315_0 : ([(0, .lload_n 0, 1), (1, .invokestatic 33, 3), (4, .lload_n 2, 1), (5, .invokestatic 37, 3), (8, .lreturn, 1)] : List (Nat × Instr × Nat)).all (fun e => decide (decode prog_8_method_12_code e.1 = .ok e.2)) = true := by decide +kernel
abbrev cl_315_0 : List (Nat × jm_O) := [(0, op_lload 0 1), (1, op_callS 314 1), (4, op_lload 2 1), (5, op_callS 313 2), (8, op_lret)]
set_option maxRecDepth 100000 in
theorem gl_315_0 : jm_gl "FrescoWall$Place" prog_8_method_12_code 4 (Option.some Jvm.ClassFile.FieldType.long) false cl_315_0 :=
  jm_gc (pu_lload _ _) (sn_lload_n (i := 0) (jm_dc dc_315_0 0 rfl)) (
  jm_gc (pu_callS _ _) (sn_callS (jm_dc dc_315_0 1 rfl) lk_12_33) (
  jm_gc (pu_lload _ _) (sn_lload_n (i := 2) (jm_dc dc_315_0 2 rfl)) (
  jm_gc (pu_callS _ _) (sn_callS (jm_dc dc_315_0 3 rfl) lk_12_37) (
  jm_gc (pu_lret) (sn_lret (jm_dc dc_315_0 4 rfl) rfl) (
  jm_gn)))))
theorem dc_316_0 : ([(0, .lload_n 2, 1), (1, .lload_n 0, 1), (2, .invokestatic 33, 3), (5, .invokestatic 37, 3), (8, .lreturn, 1)] : List (Nat × Instr × Nat)).all (fun e => decide (decode prog_8_method_13_code e.1 = .ok e.2)) = true := by decide +kernel
abbrev cl_316_0 : List (Nat × jm_O) := [(0, op_lload 2 1), (1, op_lload 0 1), (2, op_callS 314 1), (5, op_callS 313 2), (8, op_lret)]
set_option maxRecDepth 100000 in
theorem gl_316_0 : jm_gl "FrescoWall$Place" prog_8_method_13_code 4 (Option.some Jvm.ClassFile.FieldType.long) false cl_316_0 :=
  jm_gc (pu_lload _ _) (sn_lload_n (i := 2) (jm_dc dc_316_0 0 rfl)) (
  jm_gc (pu_lload _ _) (sn_lload_n (i := 0) (jm_dc dc_316_0 1 rfl)) (
  jm_gc (pu_callS _ _) (sn_callS (jm_dc dc_316_0 2 rfl) lk_12_33) (
  jm_gc (pu_callS _ _) (sn_callS (jm_dc dc_316_0 3 rfl) lk_12_37) (
  jm_gc (pu_lret) (sn_lret (jm_dc dc_316_0 4 rfl) rfl) (
  jm_gn)))))
