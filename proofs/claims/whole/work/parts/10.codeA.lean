theorem jm_dc {cc : ByteArray} {l : List (Nat × Instr × Nat)} (h : l.all (fun e => decide (decode cc e.1 = .ok e.2)) = true) (i : Nat) {pc : Nat} {x : Instr} {n : Nat} (hi : l[i]? = some (pc, x, n)) : decode cc pc = .ok (x, n) := of_decide_eq_true (List.all_eq_true.mp h (pc, x, n) (List.mem_of_getElem? hi))
theorem jm_if2 {own : String} {cc : ByteArray} {nL : Nat} {ret : Option FieldType} {ini : Bool} {pc : Nat} {c : Prop} [inst : Decidable c] {a b : jm_O} (ha : jm_pu a ∧ jm_snd own cc nL ret ini pc a) (hb : jm_pu b ∧ jm_snd own cc nL ret ini pc b) : jm_pu (if c then a else b) ∧ jm_snd own cc nL ret ini pc (if c then a else b) := by
  split
  · exact ha
  · exact hb

def jm_lu : List (Nat × jm_O) → Nat → jm_O
  | [], _ => jm_bad
  | (p, o) :: r, pc => if pc = p then o else jm_lu r pc
def jm_gl (own : String) (cc : ByteArray) (nL : Nat) (ret : Option FieldType) (ini : Bool) (l : List (Nat × jm_O)) : Prop := ∀ e ∈ l, jm_pu e.2 ∧ jm_snd own cc nL ret ini e.1 e.2
theorem jm_gn {own : String} {cc : ByteArray} {nL : Nat} {ret : Option FieldType} {ini : Bool} : jm_gl own cc nL ret ini [] := fun _ h => absurd h List.not_mem_nil
theorem jm_gc {own : String} {cc : ByteArray} {nL : Nat} {ret : Option FieldType} {ini : Bool} {pc : Nat} {op : jm_O} {l : List (Nat × jm_O)} (hp : jm_pu op) (hs : jm_snd own cc nL ret ini pc op) (hl : jm_gl own cc nL ret ini l) : jm_gl own cc nL ret ini ((pc, op) :: l) := fun e he => (List.mem_cons.mp he).elim (fun q => q ▸ ⟨hp, hs⟩) (hl e)
theorem jm_ga {own : String} {cc : ByteArray} {nL : Nat} {ret : Option FieldType} {ini : Bool} {l l2 : List (Nat × jm_O)} (h1 : jm_gl own cc nL ret ini l) (h2 : jm_gl own cc nL ret ini l2) : jm_gl own cc nL ret ini (l ++ l2) := fun e he => (List.mem_append.mp he).elim (h1 e) (h2 e)
theorem jm_lu_ok {own : String} {cc : ByteArray} {nL : Nat} {ret : Option FieldType} {ini : Bool} : ∀ (l : List (Nat × jm_O)), jm_gl own cc nL ret ini l → ∀ pc, jm_pu (jm_lu l pc) ∧ jm_snd own cc nL ret ini pc (jm_lu l pc)
  | [], _, _ => ⟨pu_bad, sn_bad⟩
  | (p, o) :: r, h, pc => by
    unfold jm_lu
    by_cases hq : pc = p
    · rw [if_pos hq, hq]
      exact h (p, o) List.mem_cons_self
    · rw [if_neg hq]
      exact jm_lu_ok r (fun e he => h e (List.mem_cons_of_mem _ he)) pc

theorem dc_19_0 : ([(0, .aload_n 0, 1), (1, .invokespecial 5, 3), (4, .aload_n 0, 1), (5, .bipush 100, 2), (7, .newarray .int, 2), (9, .putfield 11, 3), (12, .aload_n 0, 1), (13, .bipush 100, 2), (15, .newarray .int, 2), (17, .putfield 15, 3), (20, .aload_n 0, 1), (21, .bipush 100, 2), (23, .newarray .int, 2), (25, .putfield 18, 3), (28, .aload_n 0, 1), (29, .bipush 60, 2), (31, .newarray .int, 2), (33, .putfield 21, 3), (36, .aload_n 0, 1), (37, .bipush 60, 2), (39, .newarray .int, 2), (41, .putfield 24, 3), (44, .aload_n 0, 1), (45, .sipush 7168, 3), (48, .newarray .int, 2)] : List (Nat × Instr × Nat)).all (fun e => decide (decode prog_4_method_1_code e.1 = .ok e.2)) = true := by decide +kernel
abbrev cl_19_0 : List (Nat × jm_O) := [(0, op_aload 0 1), (1, op_objInit), (4, op_aload 0 1), (5, op_ic 100 2), (7, op_newa 13 2), (9, op_putA 2 1), (12, op_aload 0 1), (13, op_ic 100 2), (15, op_newa 13 2), (17, op_putA 2 2), (20, op_aload 0 1), (21, op_ic 100 2), (23, op_newa 13 2), (25, op_putA 2 3), (28, op_aload 0 1), (29, op_ic 60 2), (31, op_newa 13 2), (33, op_putA 2 4), (36, op_aload 0 1), (37, op_ic 60 2), (39, op_newa 13 2), (41, op_putA 2 5), (44, op_aload 0 1), (45, op_ic 7168 3), (48, op_newa 13 2)]
set_option maxRecDepth 100000 in
theorem gl_19_0 : jm_gl "FrescoWall$Boxes" prog_4_method_1_code 1 (Option.none : Option Jvm.ClassFile.FieldType) true cl_19_0 :=
  jm_gc (pu_aload _ _) (sn_aload_n (i := 0) (jm_dc dc_19_0 0 rfl)) (
  jm_gc (pu_objInit) (sn_objInit (jm_dc dc_19_0 1 rfl) ⟨kc_tb 310 (by decide +kernel), kc_tb 23 (by decide +kernel), kc_tb 24 (by decide +kernel)⟩) (
  jm_gc (pu_aload _ _) (sn_aload_n (i := 0) (jm_dc dc_19_0 2 rfl)) (
  jm_gc (pu_ic _ _) (sn_bipush (jm_dc dc_19_0 3 rfl) (by decide)) (
  jm_gc (pu_newa _ _) (sn_newI (jm_dc dc_19_0 4 rfl) (kc_tb 91 (by decide +kernel))) (
  jm_gc (pu_putA _ _) (sn_putAF (jm_dc dc_19_0 5 rfl) flw_2_11 rfl rfl) (
  jm_gc (pu_aload _ _) (sn_aload_n (i := 0) (jm_dc dc_19_0 6 rfl)) (
  jm_gc (pu_ic _ _) (sn_bipush (jm_dc dc_19_0 7 rfl) (by decide)) (
  jm_gc (pu_newa _ _) (sn_newI (jm_dc dc_19_0 8 rfl) (kc_tb 91 (by decide +kernel))) (
  jm_gc (pu_putA _ _) (sn_putAF (jm_dc dc_19_0 9 rfl) flw_2_15 rfl rfl) (
  jm_gc (pu_aload _ _) (sn_aload_n (i := 0) (jm_dc dc_19_0 10 rfl)) (
  jm_gc (pu_ic _ _) (sn_bipush (jm_dc dc_19_0 11 rfl) (by decide)) (
  jm_gc (pu_newa _ _) (sn_newI (jm_dc dc_19_0 12 rfl) (kc_tb 91 (by decide +kernel))) (
  jm_gc (pu_putA _ _) (sn_putAF (jm_dc dc_19_0 13 rfl) flw_2_18 rfl rfl) (
  jm_gc (pu_aload _ _) (sn_aload_n (i := 0) (jm_dc dc_19_0 14 rfl)) (
  jm_gc (pu_ic _ _) (sn_bipush (jm_dc dc_19_0 15 rfl) (by decide)) (
  jm_gc (pu_newa _ _) (sn_newI (jm_dc dc_19_0 16 rfl) (kc_tb 91 (by decide +kernel))) (
  jm_gc (pu_putA _ _) (sn_putAF (jm_dc dc_19_0 17 rfl) flw_2_21 rfl rfl) (
  jm_gc (pu_aload _ _) (sn_aload_n (i := 0) (jm_dc dc_19_0 18 rfl)) (
  jm_gc (pu_ic _ _) (sn_bipush (jm_dc dc_19_0 19 rfl) (by decide)) (
  jm_gc (pu_newa _ _) (sn_newI (jm_dc dc_19_0 20 rfl) (kc_tb 91 (by decide +kernel))) (
  jm_gc (pu_putA _ _) (sn_putAF (jm_dc dc_19_0 21 rfl) flw_2_24 rfl rfl) (
  jm_gc (pu_aload _ _) (sn_aload_n (i := 0) (jm_dc dc_19_0 22 rfl)) (
  jm_gc (pu_ic _ _) (sn_sipush (jm_dc dc_19_0 23 rfl) (by decide)) (
  jm_gc (pu_newa _ _) (sn_newI (jm_dc dc_19_0 24 rfl) (kc_tb 91 (by decide +kernel))) (
  jm_gn)))))))))))))))))))))))))
theorem dc_19_1 : ([(50, .putfield 27, 3), (53, .aload_n 0, 1), (54, .bipush 6, 2), (56, .newarray .int, 2), (58, .putfield 30, 3), (61, .return_, 1)] : List (Nat × Instr × Nat)).all (fun e => decide (decode prog_4_method_1_code e.1 = .ok e.2)) = true := by decide +kernel
abbrev cl_19_1 : List (Nat × jm_O) := [(50, op_putA 2 6), (53, op_aload 0 1), (54, op_ic 6 2), (56, op_newa 13 2), (58, op_putA 2 7), (61, op_vret)]
set_option maxRecDepth 100000 in
theorem gl_19_1 : jm_gl "FrescoWall$Boxes" prog_4_method_1_code 1 (Option.none : Option Jvm.ClassFile.FieldType) true cl_19_1 :=
  jm_gc (pu_putA _ _) (sn_putAF (jm_dc dc_19_1 0 rfl) flw_2_27 rfl rfl) (
  jm_gc (pu_aload _ _) (sn_aload_n (i := 0) (jm_dc dc_19_1 1 rfl)) (
  jm_gc (pu_ic _ _) (sn_bipush (jm_dc dc_19_1 2 rfl) (by decide)) (
  jm_gc (pu_newa _ _) (sn_newI (jm_dc dc_19_1 3 rfl) (kc_tb 91 (by decide +kernel))) (
  jm_gc (pu_putA _ _) (sn_putAF (jm_dc dc_19_1 4 rfl) flw_2_30 rfl rfl) (
  jm_gc (pu_vret) (sn_vret (jm_dc dc_19_1 5 rfl) rfl) (
  jm_gn))))))
theorem dc_20_0 : ([(0, .aload_n 0, 1), (1, .getfield 33, 3), (4, .bipush 100, 2), (6, .if_icmp .lt 7, 3), (9, .iconst 1, 1), (10, .goto 4, 3), (13, .iconst 0, 1), (14, .ireturn, 1)] : List (Nat × Instr × Nat)).all (fun e => decide (decode prog_4_method_2_code e.1 = .ok e.2)) = true := by decide +kernel
abbrev cl_20_0 : List (Nat × jm_O) := [(0, op_aload 0 1), (1, op_getI 2 0), (4, op_ic 100 2), (6, op_clt 13), (9, op_ic 1 1), (10, op_goto 14), (13, op_ic 0 1), (14, op_zret)]
set_option maxRecDepth 100000 in
theorem gl_20_0 : jm_gl "FrescoWall$Boxes" prog_4_method_2_code 1 (Option.some Jvm.ClassFile.FieldType.boolean) false cl_20_0 :=
  jm_gc (pu_aload _ _) (sn_aload_n (i := 0) (jm_dc dc_20_0 0 rfl)) (
  jm_gc (pu_getI _ _) (sn_getI (jm_dc dc_20_0 1 rfl) fl_2_33 (Or.inl rfl)) (
  jm_gc (pu_ic _ _) (sn_bipush (jm_dc dc_20_0 2 rfl) (by decide)) (
  jm_gc (pu_clt _) (sn_clt (jm_dc dc_20_0 3 rfl) (by decide)) (
  jm_gc (pu_ic _ _) (sn_iconst (jm_dc dc_20_0 4 rfl) (by decide)) (
  jm_gc (pu_goto _) (sn_goto (jm_dc dc_20_0 5 rfl) (by decide)) (
  jm_gc (pu_ic _ _) (sn_iconst (jm_dc dc_20_0 6 rfl) (by decide)) (
  jm_gc (pu_zret) (sn_zret (jm_dc dc_20_0 7 rfl) rfl) (
  jm_gn))))))))
theorem dc_21_0 : ([(0, .aload_n 0, 1), (1, .invokevirtual 37, 3), (4, .ifCond .ne 43, 3), (7, .aload_n 0, 1), (8, .getfield 11, 3), (11, .aload_n 0, 1), (12, .getfield 33, 3), (15, .iload_n 1, 1), (16, .iastore, 1), (17, .aload_n 0, 1), (18, .getfield 15, 3), (21, .aload_n 0, 1), (22, .getfield 33, 3), (25, .iload_n 2, 1), (26, .iastore, 1), (27, .aload_n 0, 1), (28, .getfield 18, 3), (31, .aload_n 0, 1), (32, .getfield 33, 3), (35, .iload_n 3, 1), (36, .iastore, 1), (37, .aload_n 0, 1), (38, .dup, 1), (39, .getfield 33, 3), (42, .iconst 1, 1)] : List (Nat × Instr × Nat)).all (fun e => decide (decode prog_4_method_3_code e.1 = .ok e.2)) = true := by decide +kernel
abbrev cl_21_0 : List (Nat × jm_O) := [(0, op_aload 0 1), (1, op_callV 2 20 1), (4, op_ifne 47), (7, op_aload 0 1), (8, op_getA 2 1), (11, op_aload 0 1), (12, op_getI 2 0), (15, op_iload 1 1), (16, op_iast), (17, op_aload 0 1), (18, op_getA 2 2), (21, op_aload 0 1), (22, op_getI 2 0), (25, op_iload 2 1), (26, op_iast), (27, op_aload 0 1), (28, op_getA 2 3), (31, op_aload 0 1), (32, op_getI 2 0), (35, op_iload 3 1), (36, op_iast), (37, op_aload 0 1), (38, op_dup), (39, op_getI 2 0), (42, op_ic 1 1)]
set_option maxRecDepth 100000 in
theorem gl_21_0 : jm_gl "FrescoWall$Boxes" prog_4_method_3_code 4 (Option.some Jvm.ClassFile.FieldType.int) false cl_21_0 :=
  jm_gc (pu_aload _ _) (sn_aload_n (i := 0) (jm_dc dc_21_0 0 rfl)) (
  jm_gc (pu_callV _ _ _) (sn_callV (jm_dc dc_21_0 1 rfl) lk_2_37) (
  jm_gc (pu_ifne _) (sn_ifne (jm_dc dc_21_0 2 rfl) (by decide)) (
  jm_gc (pu_aload _ _) (sn_aload_n (i := 0) (jm_dc dc_21_0 3 rfl)) (
  jm_gc (pu_getA _ _) (sn_getA (jm_dc dc_21_0 4 rfl) fl_2_11 rfl) (
  jm_gc (pu_aload _ _) (sn_aload_n (i := 0) (jm_dc dc_21_0 5 rfl)) (
  jm_gc (pu_getI _ _) (sn_getI (jm_dc dc_21_0 6 rfl) fl_2_33 (Or.inl rfl)) (
  jm_gc (pu_iload _ _) (sn_iload_n (i := 1) (jm_dc dc_21_0 7 rfl)) (
  jm_gc (pu_iast) (sn_iast (jm_dc dc_21_0 8 rfl)) (
  jm_gc (pu_aload _ _) (sn_aload_n (i := 0) (jm_dc dc_21_0 9 rfl)) (
  jm_gc (pu_getA _ _) (sn_getA (jm_dc dc_21_0 10 rfl) fl_2_15 rfl) (
  jm_gc (pu_aload _ _) (sn_aload_n (i := 0) (jm_dc dc_21_0 11 rfl)) (
  jm_gc (pu_getI _ _) (sn_getI (jm_dc dc_21_0 12 rfl) fl_2_33 (Or.inl rfl)) (
  jm_gc (pu_iload _ _) (sn_iload_n (i := 2) (jm_dc dc_21_0 13 rfl)) (
  jm_gc (pu_iast) (sn_iast (jm_dc dc_21_0 14 rfl)) (
  jm_gc (pu_aload _ _) (sn_aload_n (i := 0) (jm_dc dc_21_0 15 rfl)) (
  jm_gc (pu_getA _ _) (sn_getA (jm_dc dc_21_0 16 rfl) fl_2_18 rfl) (
  jm_gc (pu_aload _ _) (sn_aload_n (i := 0) (jm_dc dc_21_0 17 rfl)) (
  jm_gc (pu_getI _ _) (sn_getI (jm_dc dc_21_0 18 rfl) fl_2_33 (Or.inl rfl)) (
  jm_gc (pu_iload _ _) (sn_iload_n (i := 3) (jm_dc dc_21_0 19 rfl)) (
  jm_gc (pu_iast) (sn_iast (jm_dc dc_21_0 20 rfl)) (
  jm_gc (pu_aload _ _) (sn_aload_n (i := 0) (jm_dc dc_21_0 21 rfl)) (
  jm_gc (pu_dup) (sn_dup (jm_dc dc_21_0 22 rfl)) (
  jm_gc (pu_getI _ _) (sn_getI (jm_dc dc_21_0 23 rfl) fl_2_33 (Or.inl rfl)) (
  jm_gc (pu_ic _ _) (sn_iconst (jm_dc dc_21_0 24 rfl) (by decide)) (
  jm_gn)))))))))))))))))))))))))
theorem dc_21_1 : ([(43, .iadd, 1), (44, .putfield 33, 3), (47, .aload_n 0, 1), (48, .getfield 33, 3), (51, .ireturn, 1)] : List (Nat × Instr × Nat)).all (fun e => decide (decode prog_4_method_3_code e.1 = .ok e.2)) = true := by decide +kernel
abbrev cl_21_1 : List (Nat × jm_O) := [(43, op_ibin (fun x y => x + y)), (44, op_putI 2 0), (47, op_aload 0 1), (48, op_getI 2 0), (51, op_iret)]
set_option maxRecDepth 100000 in
theorem gl_21_1 : jm_gl "FrescoWall$Boxes" prog_4_method_3_code 4 (Option.some Jvm.ClassFile.FieldType.int) false cl_21_1 :=
  jm_gc (pu_ibin _) (sn_iadd (jm_dc dc_21_1 0 rfl)) (
  jm_gc (pu_putI _ _) (sn_putI (jm_dc dc_21_1 1 rfl) flw_2_33 rfl) (
  jm_gc (pu_aload _ _) (sn_aload_n (i := 0) (jm_dc dc_21_1 2 rfl)) (
  jm_gc (pu_getI _ _) (sn_getI (jm_dc dc_21_1 3 rfl) fl_2_33 (Or.inl rfl)) (
  jm_gc (pu_iret) (sn_iret (jm_dc dc_21_1 4 rfl) rfl) (
  jm_gn)))))
theorem dc_22_0 : ([(0, .iconst (-1), 1), (1, .istore 4, 2), (3, .iconst (-1), 1), (4, .istore 5, 2), (6, .iconst 0, 1), (7, .istore 6, 2), (9, .iload 6, 2), (11, .iload_n 3, 1), (12, .if_icmp .ge 70, 3), (15, .iload 6, 2), (17, .aload_n 0, 1), (18, .getfield 33, 3), (21, .if_icmp .ge 61, 3), (24, .aload_n 0, 1), (25, .getfield 11, 3), (28, .iload 6, 2), (30, .iaload, 1), (31, .iload_n 1, 1), (32, .if_icmp .ne 44, 3), (35, .aload_n 0, 1), (36, .getfield 18, 3), (39, .iload 6, 2), (41, .iaload, 1), (42, .iload_n 2, 1), (43, .if_icmp .gt 33, 3)] : List (Nat × Instr × Nat)).all (fun e => decide (decode prog_4_method_4_code e.1 = .ok e.2)) = true := by decide +kernel
abbrev cl_22_0 : List (Nat × jm_O) := [(0, op_ic (-1) 1), (1, op_istore 4 2), (3, op_ic (-1) 1), (4, op_istore 5 2), (6, op_ic 0 1), (7, op_istore 6 2), (9, op_iload 6 2), (11, op_iload 3 1), (12, op_cge 82), (15, op_iload 6 2), (17, op_aload 0 1), (18, op_getI 2 0), (21, op_cge 82), (24, op_aload 0 1), (25, op_getA 2 1), (28, op_iload 6 2), (30, op_iald 13), (31, op_iload 1 1), (32, op_cne 76), (35, op_aload 0 1), (36, op_getA 2 3), (39, op_iload 6 2), (41, op_iald 13), (42, op_iload 2 1), (43, op_cgt 76)]
set_option maxRecDepth 100000 in
theorem gl_22_0 : jm_gl "FrescoWall$Boxes" prog_4_method_4_code 7 (Option.some Jvm.ClassFile.FieldType.int) false cl_22_0 :=
  jm_gc (pu_ic _ _) (sn_iconst (jm_dc dc_22_0 0 rfl) (by decide)) (
  jm_gc (pu_istore _ _) (sn_istore (jm_dc dc_22_0 1 rfl)) (
  jm_gc (pu_ic _ _) (sn_iconst (jm_dc dc_22_0 2 rfl) (by decide)) (
  jm_gc (pu_istore _ _) (sn_istore (jm_dc dc_22_0 3 rfl)) (
  jm_gc (pu_ic _ _) (sn_iconst (jm_dc dc_22_0 4 rfl) (by decide)) (
  jm_gc (pu_istore _ _) (sn_istore (jm_dc dc_22_0 5 rfl)) (
  jm_gc (pu_iload _ _) (sn_iload (jm_dc dc_22_0 6 rfl)) (
  jm_gc (pu_iload _ _) (sn_iload_n (i := 3) (jm_dc dc_22_0 7 rfl)) (
  jm_gc (pu_cge _) (sn_cge (jm_dc dc_22_0 8 rfl) (by decide)) (
  jm_gc (pu_iload _ _) (sn_iload (jm_dc dc_22_0 9 rfl)) (
  jm_gc (pu_aload _ _) (sn_aload_n (i := 0) (jm_dc dc_22_0 10 rfl)) (
  jm_gc (pu_getI _ _) (sn_getI (jm_dc dc_22_0 11 rfl) fl_2_33 (Or.inl rfl)) (
  jm_gc (pu_cge _) (sn_cge (jm_dc dc_22_0 12 rfl) (by decide)) (
  jm_gc (pu_aload _ _) (sn_aload_n (i := 0) (jm_dc dc_22_0 13 rfl)) (
  jm_gc (pu_getA _ _) (sn_getA (jm_dc dc_22_0 14 rfl) fl_2_11 rfl) (
  jm_gc (pu_iload _ _) (sn_iload (jm_dc dc_22_0 15 rfl)) (
  jm_gc (pu_iald _) (sn_iald (jm_dc dc_22_0 16 rfl)) (
  jm_gc (pu_iload _ _) (sn_iload_n (i := 1) (jm_dc dc_22_0 17 rfl)) (
  jm_gc (pu_cne _) (sn_cne (jm_dc dc_22_0 18 rfl) (by decide)) (
  jm_gc (pu_aload _ _) (sn_aload_n (i := 0) (jm_dc dc_22_0 19 rfl)) (
  jm_gc (pu_getA _ _) (sn_getA (jm_dc dc_22_0 20 rfl) fl_2_18 rfl) (
  jm_gc (pu_iload _ _) (sn_iload (jm_dc dc_22_0 21 rfl)) (
  jm_gc (pu_iald _) (sn_iald (jm_dc dc_22_0 22 rfl)) (
  jm_gc (pu_iload _ _) (sn_iload_n (i := 2) (jm_dc dc_22_0 23 rfl)) (
  jm_gc (pu_cgt _) (sn_cgt (jm_dc dc_22_0 24 rfl) (by decide)) (
  jm_gn)))))))))))))))))))))))))
theorem dc_22_1 : ([(46, .aload_n 0, 1), (47, .getfield 18, 3), (50, .iload 6, 2), (52, .iaload, 1), (53, .iload 5, 2), (55, .if_icmp .lt 21, 3), (58, .aload_n 0, 1), (59, .getfield 18, 3), (62, .iload 6, 2), (64, .iaload, 1), (65, .istore 5, 2), (67, .aload_n 0, 1), (68, .getfield 15, 3), (71, .iload 6, 2), (73, .iaload, 1), (74, .istore 4, 2), (76, .iinc 6 1, 3), (79, .goto (-70), 3), (82, .iload 4, 2), (84, .ireturn, 1)] : List (Nat × Instr × Nat)).all (fun e => decide (decode prog_4_method_4_code e.1 = .ok e.2)) = true := by decide +kernel
abbrev cl_22_1 : List (Nat × jm_O) := [(46, op_aload 0 1), (47, op_getA 2 3), (50, op_iload 6 2), (52, op_iald 13), (53, op_iload 5 2), (55, op_clt 76), (58, op_aload 0 1), (59, op_getA 2 3), (62, op_iload 6 2), (64, op_iald 13), (65, op_istore 5 2), (67, op_aload 0 1), (68, op_getA 2 2), (71, op_iload 6 2), (73, op_iald 13), (74, op_istore 4 2), (76, op_iinc 6 1), (79, op_goto 9), (82, op_iload 4 2), (84, op_iret)]
set_option maxRecDepth 100000 in
theorem gl_22_1 : jm_gl "FrescoWall$Boxes" prog_4_method_4_code 7 (Option.some Jvm.ClassFile.FieldType.int) false cl_22_1 :=
  jm_gc (pu_aload _ _) (sn_aload_n (i := 0) (jm_dc dc_22_1 0 rfl)) (
  jm_gc (pu_getA _ _) (sn_getA (jm_dc dc_22_1 1 rfl) fl_2_18 rfl) (
  jm_gc (pu_iload _ _) (sn_iload (jm_dc dc_22_1 2 rfl)) (
  jm_gc (pu_iald _) (sn_iald (jm_dc dc_22_1 3 rfl)) (
  jm_gc (pu_iload _ _) (sn_iload (jm_dc dc_22_1 4 rfl)) (
  jm_gc (pu_clt _) (sn_clt (jm_dc dc_22_1 5 rfl) (by decide)) (
  jm_gc (pu_aload _ _) (sn_aload_n (i := 0) (jm_dc dc_22_1 6 rfl)) (
  jm_gc (pu_getA _ _) (sn_getA (jm_dc dc_22_1 7 rfl) fl_2_18 rfl) (
  jm_gc (pu_iload _ _) (sn_iload (jm_dc dc_22_1 8 rfl)) (
  jm_gc (pu_iald _) (sn_iald (jm_dc dc_22_1 9 rfl)) (
  jm_gc (pu_istore _ _) (sn_istore (jm_dc dc_22_1 10 rfl)) (
  jm_gc (pu_aload _ _) (sn_aload_n (i := 0) (jm_dc dc_22_1 11 rfl)) (
  jm_gc (pu_getA _ _) (sn_getA (jm_dc dc_22_1 12 rfl) fl_2_15 rfl) (
  jm_gc (pu_iload _ _) (sn_iload (jm_dc dc_22_1 13 rfl)) (
  jm_gc (pu_iald _) (sn_iald (jm_dc dc_22_1 14 rfl)) (
  jm_gc (pu_istore _ _) (sn_istore (jm_dc dc_22_1 15 rfl)) (
  jm_gc (pu_iinc _ _) (sn_iinc (jm_dc dc_22_1 16 rfl) (by decide)) (
  jm_gc (pu_goto _) (sn_goto (jm_dc dc_22_1 17 rfl) (by decide)) (
  jm_gc (pu_iload _ _) (sn_iload (jm_dc dc_22_1 18 rfl)) (
  jm_gc (pu_iret) (sn_iret (jm_dc dc_22_1 19 rfl) rfl) (
  jm_gn))))))))))))))))))))
theorem dc_23_0 : ([(0, .aload_n 0, 1), (1, .iload_n 1, 1), (2, .sipush 999, 3), (5, .aload_n 0, 1), (6, .getfield 33, 3), (9, .invokevirtual 41, 3), (12, .ireturn, 1)] : List (Nat × Instr × Nat)).all (fun e => decide (decode prog_4_method_5_code e.1 = .ok e.2)) = true := by decide +kernel
abbrev cl_23_0 : List (Nat × jm_O) := [(0, op_aload 0 1), (1, op_iload 1 1), (2, op_ic 999 3), (5, op_aload 0 1), (6, op_getI 2 0), (9, op_callV 2 22 4), (12, op_iret)]
set_option maxRecDepth 100000 in
theorem gl_23_0 : jm_gl "FrescoWall$Boxes" prog_4_method_5_code 2 (Option.some Jvm.ClassFile.FieldType.int) false cl_23_0 :=
  jm_gc (pu_aload _ _) (sn_aload_n (i := 0) (jm_dc dc_23_0 0 rfl)) (
  jm_gc (pu_iload _ _) (sn_iload_n (i := 1) (jm_dc dc_23_0 1 rfl)) (
  jm_gc (pu_ic _ _) (sn_sipush (jm_dc dc_23_0 2 rfl) (by decide)) (
  jm_gc (pu_aload _ _) (sn_aload_n (i := 0) (jm_dc dc_23_0 3 rfl)) (
  jm_gc (pu_getI _ _) (sn_getI (jm_dc dc_23_0 4 rfl) fl_2_33 (Or.inl rfl)) (
  jm_gc (pu_callV _ _ _) (sn_callV (jm_dc dc_23_0 5 rfl) lk_2_41) (
  jm_gc (pu_iret) (sn_iret (jm_dc dc_23_0 6 rfl) rfl) (
  jm_gn)))))))
theorem dc_24_0 : ([(0, .aload_n 0, 1), (1, .aload_n 1, 1), (2, .invokevirtual 45, 3), (5, .iconst 5, 1), (6, .istore_n 2, 1), (7, .iload_n 2, 1), (8, .ifCond .lt 50, 3), (11, .iconst 0, 1), (12, .istore_n 3, 1), (13, .iload_n 3, 1), (14, .sipush 1024, 3), (17, .if_icmp .ge 35, 3), (20, .iload_n 3, 1), (21, .invokestatic 49, 3), (24, .iload_n 2, 1), (25, .if_icmp .gt 21, 3), (28, .aload_n 0, 1), (29, .getfield 27, 3), (32, .iload_n 2, 1), (33, .sipush 1024, 3), (36, .imul, 1), (37, .iload_n 3, 1), (38, .iadd, 1), (39, .aload_n 0, 1), (40, .iload_n 2, 1)] : List (Nat × Instr × Nat)).all (fun e => decide (decode prog_4_method_6_code e.1 = .ok e.2)) = true := by decide +kernel
abbrev cl_24_0 : List (Nat × jm_O) := [(0, op_aload 0 1), (1, op_aload 1 1), (2, op_callV 2 25 2), (5, op_ic 5 1), (6, op_istore 2 1), (7, op_iload 2 1), (8, op_iflt 58), (11, op_ic 0 1), (12, op_istore 3 1), (13, op_iload 3 1), (14, op_ic 1024 3), (17, op_cge 52), (20, op_iload 3 1), (21, op_callS 317 1), (24, op_iload 2 1), (25, op_cgt 46), (28, op_aload 0 1), (29, op_getA 2 6), (32, op_iload 2 1), (33, op_ic 1024 3), (36, op_ibin (fun x y => x * y)), (37, op_iload 3 1), (38, op_ibin (fun x y => x + y)), (39, op_aload 0 1), (40, op_iload 2 1)]
set_option maxRecDepth 100000 in
theorem gl_24_0 : jm_gl "FrescoWall$Boxes" prog_4_method_6_code 5 (Option.some Jvm.ClassFile.FieldType.int) false cl_24_0 :=
  jm_gc (pu_aload _ _) (sn_aload_n (i := 0) (jm_dc dc_24_0 0 rfl)) (
  jm_gc (pu_aload _ _) (sn_aload_n (i := 1) (jm_dc dc_24_0 1 rfl)) (
  jm_gc (pu_callV _ _ _) (sn_callV (jm_dc dc_24_0 2 rfl) lk_2_45) (
  jm_gc (pu_ic _ _) (sn_iconst (jm_dc dc_24_0 3 rfl) (by decide)) (
  jm_gc (pu_istore _ _) (sn_istore_n (i := 2) (jm_dc dc_24_0 4 rfl)) (
  jm_gc (pu_iload _ _) (sn_iload_n (i := 2) (jm_dc dc_24_0 5 rfl)) (
  jm_gc (pu_iflt _) (sn_iflt (jm_dc dc_24_0 6 rfl) (by decide)) (
  jm_gc (pu_ic _ _) (sn_iconst (jm_dc dc_24_0 7 rfl) (by decide)) (
  jm_gc (pu_istore _ _) (sn_istore_n (i := 3) (jm_dc dc_24_0 8 rfl)) (
  jm_gc (pu_iload _ _) (sn_iload_n (i := 3) (jm_dc dc_24_0 9 rfl)) (
  jm_gc (pu_ic _ _) (sn_sipush (jm_dc dc_24_0 10 rfl) (by decide)) (
  jm_gc (pu_cge _) (sn_cge (jm_dc dc_24_0 11 rfl) (by decide)) (
  jm_gc (pu_iload _ _) (sn_iload_n (i := 3) (jm_dc dc_24_0 12 rfl)) (
  jm_gc (pu_callS _ _) (sn_callS (jm_dc dc_24_0 13 rfl) lk_2_49) (
  jm_gc (pu_iload _ _) (sn_iload_n (i := 2) (jm_dc dc_24_0 14 rfl)) (
  jm_gc (pu_cgt _) (sn_cgt (jm_dc dc_24_0 15 rfl) (by decide)) (
  jm_gc (pu_aload _ _) (sn_aload_n (i := 0) (jm_dc dc_24_0 16 rfl)) (
  jm_gc (pu_getA _ _) (sn_getA (jm_dc dc_24_0 17 rfl) fl_2_27 rfl) (
  jm_gc (pu_iload _ _) (sn_iload_n (i := 2) (jm_dc dc_24_0 18 rfl)) (
  jm_gc (pu_ic _ _) (sn_sipush (jm_dc dc_24_0 19 rfl) (by decide)) (
  jm_gc (pu_ibin _) (sn_imul (jm_dc dc_24_0 20 rfl)) (
  jm_gc (pu_iload _ _) (sn_iload_n (i := 3) (jm_dc dc_24_0 21 rfl)) (
  jm_gc (pu_ibin _) (sn_iadd (jm_dc dc_24_0 22 rfl)) (
  jm_gc (pu_aload _ _) (sn_aload_n (i := 0) (jm_dc dc_24_0 23 rfl)) (
  jm_gc (pu_iload _ _) (sn_iload_n (i := 2) (jm_dc dc_24_0 24 rfl)) (
  jm_gn)))))))))))))))))))))))))
theorem dc_24_1 : ([(41, .iload_n 3, 1), (42, .invokevirtual 55, 3), (45, .iastore, 1), (46, .iinc 3 1, 3), (49, .goto (-36), 3), (52, .iinc 2 (-1), 3), (55, .goto (-48), 3), (58, .iconst 0, 1), (59, .istore_n 2, 1), (60, .iconst 0, 1), (61, .istore_n 3, 1), (62, .iload_n 3, 1), (63, .bipush 6, 2), (65, .if_icmp .ge 41, 3), (68, .aload_n 0, 1), (69, .iload_n 3, 1), (70, .iload_n 2, 1), (71, .invokevirtual 59, 3), (74, .istore 4, 2), (76, .aload_n 0, 1), (77, .getfield 30, 3), (80, .iload_n 3, 1), (81, .iload 4, 2), (83, .iastore, 1), (84, .iload_n 2, 1)] : List (Nat × Instr × Nat)).all (fun e => decide (decode prog_4_method_6_code e.1 = .ok e.2)) = true := by decide +kernel
abbrev cl_24_1 : List (Nat × jm_O) := [(41, op_iload 3 1), (42, op_callV 2 26 3), (45, op_iast), (46, op_iinc 3 1), (49, op_goto 13), (52, op_iinc 2 (-1)), (55, op_goto 7), (58, op_ic 0 1), (59, op_istore 2 1), (60, op_ic 0 1), (61, op_istore 3 1), (62, op_iload 3 1), (63, op_ic 6 2), (65, op_cge 106), (68, op_aload 0 1), (69, op_iload 3 1), (70, op_iload 2 1), (71, op_callV 2 28 3), (74, op_istore 4 2), (76, op_aload 0 1), (77, op_getA 2 7), (80, op_iload 3 1), (81, op_iload 4 2), (83, op_iast), (84, op_iload 2 1)]
set_option maxRecDepth 100000 in
theorem gl_24_1 : jm_gl "FrescoWall$Boxes" prog_4_method_6_code 5 (Option.some Jvm.ClassFile.FieldType.int) false cl_24_1 :=
  jm_gc (pu_iload _ _) (sn_iload_n (i := 3) (jm_dc dc_24_1 0 rfl)) (
  jm_gc (pu_callV _ _ _) (sn_callV (jm_dc dc_24_1 1 rfl) lk_2_55) (
  jm_gc (pu_iast) (sn_iast (jm_dc dc_24_1 2 rfl)) (
  jm_gc (pu_iinc _ _) (sn_iinc (jm_dc dc_24_1 3 rfl) (by decide)) (
  jm_gc (pu_goto _) (sn_goto (jm_dc dc_24_1 4 rfl) (by decide)) (
  jm_gc (pu_iinc _ _) (sn_iinc (jm_dc dc_24_1 5 rfl) (by decide)) (
  jm_gc (pu_goto _) (sn_goto (jm_dc dc_24_1 6 rfl) (by decide)) (
  jm_gc (pu_ic _ _) (sn_iconst (jm_dc dc_24_1 7 rfl) (by decide)) (
  jm_gc (pu_istore _ _) (sn_istore_n (i := 2) (jm_dc dc_24_1 8 rfl)) (
  jm_gc (pu_ic _ _) (sn_iconst (jm_dc dc_24_1 9 rfl) (by decide)) (
  jm_gc (pu_istore _ _) (sn_istore_n (i := 3) (jm_dc dc_24_1 10 rfl)) (
  jm_gc (pu_iload _ _) (sn_iload_n (i := 3) (jm_dc dc_24_1 11 rfl)) (
  jm_gc (pu_ic _ _) (sn_bipush (jm_dc dc_24_1 12 rfl) (by decide)) (
  jm_gc (pu_cge _) (sn_cge (jm_dc dc_24_1 13 rfl) (by decide)) (
  jm_gc (pu_aload _ _) (sn_aload_n (i := 0) (jm_dc dc_24_1 14 rfl)) (
  jm_gc (pu_iload _ _) (sn_iload_n (i := 3) (jm_dc dc_24_1 15 rfl)) (
  jm_gc (pu_iload _ _) (sn_iload_n (i := 2) (jm_dc dc_24_1 16 rfl)) (
  jm_gc (pu_callV _ _ _) (sn_callV (jm_dc dc_24_1 17 rfl) lk_2_59) (
  jm_gc (pu_istore _ _) (sn_istore (jm_dc dc_24_1 18 rfl)) (
  jm_gc (pu_aload _ _) (sn_aload_n (i := 0) (jm_dc dc_24_1 19 rfl)) (
  jm_gc (pu_getA _ _) (sn_getA (jm_dc dc_24_1 20 rfl) fl_2_30 rfl) (
  jm_gc (pu_iload _ _) (sn_iload_n (i := 3) (jm_dc dc_24_1 21 rfl)) (
  jm_gc (pu_iload _ _) (sn_iload (jm_dc dc_24_1 22 rfl)) (
  jm_gc (pu_iast) (sn_iast (jm_dc dc_24_1 23 rfl)) (
  jm_gc (pu_iload _ _) (sn_iload_n (i := 2) (jm_dc dc_24_1 24 rfl)) (
  jm_gn)))))))))))))))))))))))))
theorem dc_24_2 : ([(85, .iload 4, 2), (87, .ifCond .ge 7, 3), (90, .iconst 0, 1), (91, .goto 7, 3), (94, .iconst 1, 1), (95, .iload 4, 2), (97, .ishl, 1), (98, .ior, 1), (99, .istore_n 2, 1), (100, .iinc 3 1, 3), (103, .goto (-41), 3), (106, .aload_n 0, 1), (107, .getfield 27, 3), (110, .iconst 0, 1), (111, .iaload, 1), (112, .ireturn, 1)] : List (Nat × Instr × Nat)).all (fun e => decide (decode prog_4_method_6_code e.1 = .ok e.2)) = true := by decide +kernel
abbrev cl_24_2 : List (Nat × jm_O) := [(85, op_iload 4 2), (87, op_ifge 94), (90, op_ic 0 1), (91, op_goto 98), (94, op_ic 1 1), (95, op_iload 4 2), (97, op_ibin (fun x y => x <<< (y &&& 31))), (98, op_ibin (fun x y => x ||| y)), (99, op_istore 2 1), (100, op_iinc 3 1), (103, op_goto 62), (106, op_aload 0 1), (107, op_getA 2 6), (110, op_ic 0 1), (111, op_iald 13), (112, op_iret)]
set_option maxRecDepth 100000 in
theorem gl_24_2 : jm_gl "FrescoWall$Boxes" prog_4_method_6_code 5 (Option.some Jvm.ClassFile.FieldType.int) false cl_24_2 :=
  jm_gc (pu_iload _ _) (sn_iload (jm_dc dc_24_2 0 rfl)) (
  jm_gc (pu_ifge _) (sn_ifge (jm_dc dc_24_2 1 rfl) (by decide)) (
  jm_gc (pu_ic _ _) (sn_iconst (jm_dc dc_24_2 2 rfl) (by decide)) (
  jm_gc (pu_goto _) (sn_goto (jm_dc dc_24_2 3 rfl) (by decide)) (
  jm_gc (pu_ic _ _) (sn_iconst (jm_dc dc_24_2 4 rfl) (by decide)) (
  jm_gc (pu_iload _ _) (sn_iload (jm_dc dc_24_2 5 rfl)) (
  jm_gc (pu_ibin _) (sn_ishl (jm_dc dc_24_2 6 rfl)) (
  jm_gc (pu_ibin _) (sn_ior (jm_dc dc_24_2 7 rfl)) (
  jm_gc (pu_istore _ _) (sn_istore_n (i := 2) (jm_dc dc_24_2 8 rfl)) (
  jm_gc (pu_iinc _ _) (sn_iinc (jm_dc dc_24_2 9 rfl) (by decide)) (
  jm_gc (pu_goto _) (sn_goto (jm_dc dc_24_2 10 rfl) (by decide)) (
  jm_gc (pu_aload _ _) (sn_aload_n (i := 0) (jm_dc dc_24_2 11 rfl)) (
  jm_gc (pu_getA _ _) (sn_getA (jm_dc dc_24_2 12 rfl) fl_2_27 rfl) (
  jm_gc (pu_ic _ _) (sn_iconst (jm_dc dc_24_2 13 rfl) (by decide)) (
  jm_gc (pu_iald _) (sn_iald (jm_dc dc_24_2 14 rfl)) (
  jm_gc (pu_iret) (sn_iret (jm_dc dc_24_2 15 rfl) rfl) (
  jm_gn))))))))))))))))
theorem dc_25_0 : ([(0, .iconst 0, 1), (1, .istore_n 2, 1), (2, .iload_n 2, 1), (3, .bipush 60, 2), (5, .if_icmp .ge 16, 3), (8, .aload_n 0, 1), (9, .getfield 24, 3), (12, .iload_n 2, 1), (13, .iconst 0, 1), (14, .iastore, 1), (15, .iinc 2 1, 3), (18, .goto (-16), 3), (21, .iconst 0, 1), (22, .istore_n 2, 1), (23, .iload_n 2, 1), (24, .aload_n 1, 1), (25, .getfield 62, 3), (28, .if_icmp .ge 70, 3), (31, .aload_n 0, 1), (32, .iload_n 2, 1), (33, .invokevirtual 65, 3), (36, .istore_n 3, 1), (37, .iconst 0, 1), (38, .istore 4, 2), (40, .iload_n 3, 1)] : List (Nat × Instr × Nat)).all (fun e => decide (decode prog_4_method_7_code e.1 = .ok e.2)) = true := by decide +kernel
abbrev cl_25_0 : List (Nat × jm_O) := [(0, op_ic 0 1), (1, op_istore 2 1), (2, op_iload 2 1), (3, op_ic 60 2), (5, op_cge 21), (8, op_aload 0 1), (9, op_getA 2 5), (12, op_iload 2 1), (13, op_ic 0 1), (14, op_iast), (15, op_iinc 2 1), (18, op_goto 2), (21, op_ic 0 1), (22, op_istore 2 1), (23, op_iload 2 1), (24, op_aload 1 1), (25, op_getI 3 1), (28, op_cge 98), (31, op_aload 0 1), (32, op_iload 2 1), (33, op_callV 2 23 2), (36, op_istore 3 1), (37, op_ic 0 1), (38, op_istore 4 2), (40, op_iload 3 1)]
set_option maxRecDepth 100000 in
theorem gl_25_0 : jm_gl "FrescoWall$Boxes" prog_4_method_7_code 5 (Option.none : Option Jvm.ClassFile.FieldType) false cl_25_0 :=
  jm_gc (pu_ic _ _) (sn_iconst (jm_dc dc_25_0 0 rfl) (by decide)) (
  jm_gc (pu_istore _ _) (sn_istore_n (i := 2) (jm_dc dc_25_0 1 rfl)) (
  jm_gc (pu_iload _ _) (sn_iload_n (i := 2) (jm_dc dc_25_0 2 rfl)) (
  jm_gc (pu_ic _ _) (sn_bipush (jm_dc dc_25_0 3 rfl) (by decide)) (
  jm_gc (pu_cge _) (sn_cge (jm_dc dc_25_0 4 rfl) (by decide)) (
  jm_gc (pu_aload _ _) (sn_aload_n (i := 0) (jm_dc dc_25_0 5 rfl)) (
  jm_gc (pu_getA _ _) (sn_getA (jm_dc dc_25_0 6 rfl) fl_2_24 rfl) (
  jm_gc (pu_iload _ _) (sn_iload_n (i := 2) (jm_dc dc_25_0 7 rfl)) (
  jm_gc (pu_ic _ _) (sn_iconst (jm_dc dc_25_0 8 rfl) (by decide)) (
  jm_gc (pu_iast) (sn_iast (jm_dc dc_25_0 9 rfl)) (
  jm_gc (pu_iinc _ _) (sn_iinc (jm_dc dc_25_0 10 rfl) (by decide)) (
  jm_gc (pu_goto _) (sn_goto (jm_dc dc_25_0 11 rfl) (by decide)) (
  jm_gc (pu_ic _ _) (sn_iconst (jm_dc dc_25_0 12 rfl) (by decide)) (
  jm_gc (pu_istore _ _) (sn_istore_n (i := 2) (jm_dc dc_25_0 13 rfl)) (
  jm_gc (pu_iload _ _) (sn_iload_n (i := 2) (jm_dc dc_25_0 14 rfl)) (
  jm_gc (pu_aload _ _) (sn_aload_n (i := 1) (jm_dc dc_25_0 15 rfl)) (
  jm_gc (pu_getI _ _) (sn_getI (jm_dc dc_25_0 16 rfl) fl_2_62 (Or.inl rfl)) (
  jm_gc (pu_cge _) (sn_cge (jm_dc dc_25_0 17 rfl) (by decide)) (
  jm_gc (pu_aload _ _) (sn_aload_n (i := 0) (jm_dc dc_25_0 18 rfl)) (
  jm_gc (pu_iload _ _) (sn_iload_n (i := 2) (jm_dc dc_25_0 19 rfl)) (
  jm_gc (pu_callV _ _ _) (sn_callV (jm_dc dc_25_0 20 rfl) lk_2_65) (
  jm_gc (pu_istore _ _) (sn_istore_n (i := 3) (jm_dc dc_25_0 21 rfl)) (
  jm_gc (pu_ic _ _) (sn_iconst (jm_dc dc_25_0 22 rfl) (by decide)) (
  jm_gc (pu_istore _ _) (sn_istore (jm_dc dc_25_0 23 rfl)) (
  jm_gc (pu_iload _ _) (sn_iload_n (i := 3) (jm_dc dc_25_0 24 rfl)) (
  jm_gn)))))))))))))))))))))))))
theorem dc_25_1 : ([(41, .ifCond .lt 51, 3), (44, .iload 4, 2), (46, .bipush 6, 2), (48, .if_icmp .ge 44, 3), (51, .aload_n 0, 1), (52, .getfield 24, 3), (55, .iload 4, 2), (57, .bipush 10, 2), (59, .imul, 1), (60, .iload_n 3, 1), (61, .iadd, 1), (62, .dup2, 1), (63, .iaload, 1), (64, .aload_n 0, 1), (65, .getfield 21, 3), (68, .bipush 10, 2), (70, .iload 4, 2), (72, .imul, 1), (73, .aload_n 1, 1), (74, .getfield 68, 3), (77, .iload_n 2, 1), (78, .aaload, 1), (79, .getfield 72, 3), (82, .iadd, 1), (83, .iaload, 1)] : List (Nat × Instr × Nat)).all (fun e => decide (decode prog_4_method_7_code e.1 = .ok e.2)) = true := by decide +kernel
abbrev cl_25_1 : List (Nat × jm_O) := [(41, op_iflt 92), (44, op_iload 4 2), (46, op_ic 6 2), (48, op_cge 92), (51, op_aload 0 1), (52, op_getA 2 5), (55, op_iload 4 2), (57, op_ic 10 2), (59, op_ibin (fun x y => x * y)), (60, op_iload 3 1), (61, op_ibin (fun x y => x + y)), (62, op_dup2), (63, op_iald 13), (64, op_aload 0 1), (65, op_getA 2 4), (68, op_ic 10 2), (70, op_iload 4 2), (72, op_ibin (fun x y => x * y)), (73, op_aload 1 1), (74, op_getA 3 0), (77, op_iload 2 1), (78, op_aald), (79, op_getI 1 2), (82, op_ibin (fun x y => x + y)), (83, op_iald 13)]
set_option maxRecDepth 100000 in
theorem gl_25_1 : jm_gl "FrescoWall$Boxes" prog_4_method_7_code 5 (Option.none : Option Jvm.ClassFile.FieldType) false cl_25_1 :=
  jm_gc (pu_iflt _) (sn_iflt (jm_dc dc_25_1 0 rfl) (by decide)) (
  jm_gc (pu_iload _ _) (sn_iload (jm_dc dc_25_1 1 rfl)) (
  jm_gc (pu_ic _ _) (sn_bipush (jm_dc dc_25_1 2 rfl) (by decide)) (
  jm_gc (pu_cge _) (sn_cge (jm_dc dc_25_1 3 rfl) (by decide)) (
  jm_gc (pu_aload _ _) (sn_aload_n (i := 0) (jm_dc dc_25_1 4 rfl)) (
  jm_gc (pu_getA _ _) (sn_getA (jm_dc dc_25_1 5 rfl) fl_2_24 rfl) (
  jm_gc (pu_iload _ _) (sn_iload (jm_dc dc_25_1 6 rfl)) (
  jm_gc (pu_ic _ _) (sn_bipush (jm_dc dc_25_1 7 rfl) (by decide)) (
  jm_gc (pu_ibin _) (sn_imul (jm_dc dc_25_1 8 rfl)) (
  jm_gc (pu_iload _ _) (sn_iload_n (i := 3) (jm_dc dc_25_1 9 rfl)) (
  jm_gc (pu_ibin _) (sn_iadd (jm_dc dc_25_1 10 rfl)) (
  jm_gc (pu_dup2) (sn_dup2 (jm_dc dc_25_1 11 rfl)) (
  jm_gc (pu_iald _) (sn_iald (jm_dc dc_25_1 12 rfl)) (
  jm_gc (pu_aload _ _) (sn_aload_n (i := 0) (jm_dc dc_25_1 13 rfl)) (
  jm_gc (pu_getA _ _) (sn_getA (jm_dc dc_25_1 14 rfl) fl_2_21 rfl) (
  jm_gc (pu_ic _ _) (sn_bipush (jm_dc dc_25_1 15 rfl) (by decide)) (
  jm_gc (pu_iload _ _) (sn_iload (jm_dc dc_25_1 16 rfl)) (
  jm_gc (pu_ibin _) (sn_imul (jm_dc dc_25_1 17 rfl)) (
  jm_gc (pu_aload _ _) (sn_aload_n (i := 1) (jm_dc dc_25_1 18 rfl)) (
  jm_gc (pu_getA _ _) (sn_getA (jm_dc dc_25_1 19 rfl) fl_2_68 rfl) (
  jm_gc (pu_iload _ _) (sn_iload_n (i := 2) (jm_dc dc_25_1 20 rfl)) (
  jm_gc (pu_aald) (sn_aald (jm_dc dc_25_1 21 rfl)) (
  jm_gc (pu_getI _ _) (sn_getI (jm_dc dc_25_1 22 rfl) fl_2_72 (Or.inl rfl)) (
  jm_gc (pu_ibin _) (sn_iadd (jm_dc dc_25_1 23 rfl)) (
  jm_gc (pu_iald _) (sn_iald (jm_dc dc_25_1 24 rfl)) (
  jm_gn)))))))))))))))))))))))))
theorem dc_25_2 : ([(84, .iadd, 1), (85, .iastore, 1), (86, .iinc 4 1, 3), (89, .goto (-49), 3), (92, .iinc 2 1, 3), (95, .goto (-72), 3), (98, .return_, 1)] : List (Nat × Instr × Nat)).all (fun e => decide (decode prog_4_method_7_code e.1 = .ok e.2)) = true := by decide +kernel
abbrev cl_25_2 : List (Nat × jm_O) := [(84, op_ibin (fun x y => x + y)), (85, op_iast), (86, op_iinc 4 1), (89, op_goto 40), (92, op_iinc 2 1), (95, op_goto 23), (98, op_vret)]
set_option maxRecDepth 100000 in
theorem gl_25_2 : jm_gl "FrescoWall$Boxes" prog_4_method_7_code 5 (Option.none : Option Jvm.ClassFile.FieldType) false cl_25_2 :=
  jm_gc (pu_ibin _) (sn_iadd (jm_dc dc_25_2 0 rfl)) (
  jm_gc (pu_iast) (sn_iast (jm_dc dc_25_2 1 rfl)) (
  jm_gc (pu_iinc _ _) (sn_iinc (jm_dc dc_25_2 2 rfl) (by decide)) (
  jm_gc (pu_goto _) (sn_goto (jm_dc dc_25_2 3 rfl) (by decide)) (
  jm_gc (pu_iinc _ _) (sn_iinc (jm_dc dc_25_2 4 rfl) (by decide)) (
  jm_gc (pu_goto _) (sn_goto (jm_dc dc_25_2 5 rfl) (by decide)) (
  jm_gc (pu_vret) (sn_vret (jm_dc dc_25_2 6 rfl) rfl) (
  jm_gn)))))))
theorem dc_26_0 : ([(0, .aload_n 0, 1), (1, .getfield 27, 3), (4, .iload_n 1, 1), (5, .iconst 1, 1), (6, .iadd, 1), (7, .sipush 1024, 3), (10, .imul, 1), (11, .iload_n 2, 1), (12, .iadd, 1), (13, .iaload, 1), (14, .istore_n 3, 1), (15, .iconst 0, 1), (16, .istore 4, 2), (18, .iload 4, 2), (20, .bipush 10, 2), (22, .if_icmp .ge 31, 3), (25, .iload_n 2, 1), (26, .iload 4, 2), (28, .ishr, 1), (29, .iconst 1, 1), (30, .iand, 1), (31, .ifCond .ne 16, 3), (34, .iload_n 3, 1), (35, .aload_n 0, 1), (36, .iload_n 1, 1)] : List (Nat × Instr × Nat)).all (fun e => decide (decode prog_4_method_8_code e.1 = .ok e.2)) = true := by decide +kernel
abbrev cl_26_0 : List (Nat × jm_O) := [(0, op_aload 0 1), (1, op_getA 2 6), (4, op_iload 1 1), (5, op_ic 1 1), (6, op_ibin (fun x y => x + y)), (7, op_ic 1024 3), (10, op_ibin (fun x y => x * y)), (11, op_iload 2 1), (12, op_ibin (fun x y => x + y)), (13, op_iald 13), (14, op_istore 3 1), (15, op_ic 0 1), (16, op_istore 4 2), (18, op_iload 4 2), (20, op_ic 10 2), (22, op_cge 53), (25, op_iload 2 1), (26, op_iload 4 2), (28, op_ibin (fun x y => x >>> (y &&& 31))), (29, op_ic 1 1), (30, op_ibin (fun x y => x &&& y)), (31, op_ifne 47), (34, op_iload 3 1), (35, op_aload 0 1), (36, op_iload 1 1)]
set_option maxRecDepth 100000 in
theorem gl_26_0 : jm_gl "FrescoWall$Boxes" prog_4_method_8_code 5 (Option.some Jvm.ClassFile.FieldType.int) false cl_26_0 :=
  jm_gc (pu_aload _ _) (sn_aload_n (i := 0) (jm_dc dc_26_0 0 rfl)) (
  jm_gc (pu_getA _ _) (sn_getA (jm_dc dc_26_0 1 rfl) fl_2_27 rfl) (
  jm_gc (pu_iload _ _) (sn_iload_n (i := 1) (jm_dc dc_26_0 2 rfl)) (
  jm_gc (pu_ic _ _) (sn_iconst (jm_dc dc_26_0 3 rfl) (by decide)) (
  jm_gc (pu_ibin _) (sn_iadd (jm_dc dc_26_0 4 rfl)) (
  jm_gc (pu_ic _ _) (sn_sipush (jm_dc dc_26_0 5 rfl) (by decide)) (
  jm_gc (pu_ibin _) (sn_imul (jm_dc dc_26_0 6 rfl)) (
  jm_gc (pu_iload _ _) (sn_iload_n (i := 2) (jm_dc dc_26_0 7 rfl)) (
  jm_gc (pu_ibin _) (sn_iadd (jm_dc dc_26_0 8 rfl)) (
  jm_gc (pu_iald _) (sn_iald (jm_dc dc_26_0 9 rfl)) (
  jm_gc (pu_istore _ _) (sn_istore_n (i := 3) (jm_dc dc_26_0 10 rfl)) (
  jm_gc (pu_ic _ _) (sn_iconst (jm_dc dc_26_0 11 rfl) (by decide)) (
  jm_gc (pu_istore _ _) (sn_istore (jm_dc dc_26_0 12 rfl)) (
  jm_gc (pu_iload _ _) (sn_iload (jm_dc dc_26_0 13 rfl)) (
  jm_gc (pu_ic _ _) (sn_bipush (jm_dc dc_26_0 14 rfl) (by decide)) (
  jm_gc (pu_cge _) (sn_cge (jm_dc dc_26_0 15 rfl) (by decide)) (
  jm_gc (pu_iload _ _) (sn_iload_n (i := 2) (jm_dc dc_26_0 16 rfl)) (
  jm_gc (pu_iload _ _) (sn_iload (jm_dc dc_26_0 17 rfl)) (
  jm_gc (pu_ibin _) (sn_ishr (jm_dc dc_26_0 18 rfl)) (
  jm_gc (pu_ic _ _) (sn_iconst (jm_dc dc_26_0 19 rfl) (by decide)) (
  jm_gc (pu_ibin _) (sn_iand (jm_dc dc_26_0 20 rfl)) (
  jm_gc (pu_ifne _) (sn_ifne (jm_dc dc_26_0 21 rfl) (by decide)) (
  jm_gc (pu_iload _ _) (sn_iload_n (i := 3) (jm_dc dc_26_0 22 rfl)) (
  jm_gc (pu_aload _ _) (sn_aload_n (i := 0) (jm_dc dc_26_0 23 rfl)) (
  jm_gc (pu_iload _ _) (sn_iload_n (i := 1) (jm_dc dc_26_0 24 rfl)) (
  jm_gn)))))))))))))))))))))))))
theorem dc_26_1 : ([(37, .iload 4, 2), (39, .iload_n 2, 1), (40, .invokevirtual 77, 3), (43, .invokestatic 80, 3), (46, .istore_n 3, 1), (47, .iinc 4 1, 3), (50, .goto (-32), 3), (53, .iload_n 3, 1), (54, .ireturn, 1)] : List (Nat × Instr × Nat)).all (fun e => decide (decode prog_4_method_8_code e.1 = .ok e.2)) = true := by decide +kernel
abbrev cl_26_1 : List (Nat × jm_O) := [(37, op_iload 4 2), (39, op_iload 2 1), (40, op_callV 2 27 4), (43, op_mmax), (46, op_istore 3 1), (47, op_iinc 4 1), (50, op_goto 18), (53, op_iload 3 1), (54, op_iret)]
set_option maxRecDepth 100000 in
theorem gl_26_1 : jm_gl "FrescoWall$Boxes" prog_4_method_8_code 5 (Option.some Jvm.ClassFile.FieldType.int) false cl_26_1 :=
  jm_gc (pu_iload _ _) (sn_iload (jm_dc dc_26_1 0 rfl)) (
  jm_gc (pu_iload _ _) (sn_iload_n (i := 2) (jm_dc dc_26_1 1 rfl)) (
  jm_gc (pu_callV _ _ _) (sn_callV (jm_dc dc_26_1 2 rfl) lk_2_77) (
  jm_gc (pu_mmax) (sn_mmax (jm_dc dc_26_1 3 rfl) ⟨kc_tb 1242 (by decide +kernel), kc_tb 481 (by decide +kernel), kc_tb 13 (by decide +kernel), kc_tb 482 (by decide +kernel)⟩) (
  jm_gc (pu_istore _ _) (sn_istore_n (i := 3) (jm_dc dc_26_1 4 rfl)) (
  jm_gc (pu_iinc _ _) (sn_iinc (jm_dc dc_26_1 5 rfl) (by decide)) (
  jm_gc (pu_goto _) (sn_goto (jm_dc dc_26_1 6 rfl) (by decide)) (
  jm_gc (pu_iload _ _) (sn_iload_n (i := 3) (jm_dc dc_26_1 7 rfl)) (
  jm_gc (pu_iret) (sn_iret (jm_dc dc_26_1 8 rfl) rfl) (
  jm_gn)))))))))
theorem dc_27_0 : ([(0, .aload_n 0, 1), (1, .getfield 24, 3), (4, .iload_n 1, 1), (5, .bipush 10, 2), (7, .imul, 1), (8, .iload_n 2, 1), (9, .iadd, 1), (10, .iaload, 1), (11, .aload_n 0, 1), (12, .getfield 27, 3), (15, .iload_n 1, 1), (16, .iconst 1, 1), (17, .iadd, 1), (18, .sipush 1024, 3), (21, .imul, 1), (22, .iload_n 3, 1), (23, .iconst 1, 1), (24, .iload_n 2, 1), (25, .ishl, 1), (26, .ior, 1), (27, .iadd, 1), (28, .iaload, 1), (29, .iadd, 1), (30, .ireturn, 1)] : List (Nat × Instr × Nat)).all (fun e => decide (decode prog_4_method_9_code e.1 = .ok e.2)) = true := by decide +kernel
abbrev cl_27_0 : List (Nat × jm_O) := [(0, op_aload 0 1), (1, op_getA 2 5), (4, op_iload 1 1), (5, op_ic 10 2), (7, op_ibin (fun x y => x * y)), (8, op_iload 2 1), (9, op_ibin (fun x y => x + y)), (10, op_iald 13), (11, op_aload 0 1), (12, op_getA 2 6), (15, op_iload 1 1), (16, op_ic 1 1), (17, op_ibin (fun x y => x + y)), (18, op_ic 1024 3), (21, op_ibin (fun x y => x * y)), (22, op_iload 3 1), (23, op_ic 1 1), (24, op_iload 2 1), (25, op_ibin (fun x y => x <<< (y &&& 31))), (26, op_ibin (fun x y => x ||| y)), (27, op_ibin (fun x y => x + y)), (28, op_iald 13), (29, op_ibin (fun x y => x + y)), (30, op_iret)]
set_option maxRecDepth 100000 in
theorem gl_27_0 : jm_gl "FrescoWall$Boxes" prog_4_method_9_code 4 (Option.some Jvm.ClassFile.FieldType.int) false cl_27_0 :=
  jm_gc (pu_aload _ _) (sn_aload_n (i := 0) (jm_dc dc_27_0 0 rfl)) (
  jm_gc (pu_getA _ _) (sn_getA (jm_dc dc_27_0 1 rfl) fl_2_24 rfl) (
  jm_gc (pu_iload _ _) (sn_iload_n (i := 1) (jm_dc dc_27_0 2 rfl)) (
  jm_gc (pu_ic _ _) (sn_bipush (jm_dc dc_27_0 3 rfl) (by decide)) (
  jm_gc (pu_ibin _) (sn_imul (jm_dc dc_27_0 4 rfl)) (
  jm_gc (pu_iload _ _) (sn_iload_n (i := 2) (jm_dc dc_27_0 5 rfl)) (
  jm_gc (pu_ibin _) (sn_iadd (jm_dc dc_27_0 6 rfl)) (
  jm_gc (pu_iald _) (sn_iald (jm_dc dc_27_0 7 rfl)) (
  jm_gc (pu_aload _ _) (sn_aload_n (i := 0) (jm_dc dc_27_0 8 rfl)) (
  jm_gc (pu_getA _ _) (sn_getA (jm_dc dc_27_0 9 rfl) fl_2_27 rfl) (
  jm_gc (pu_iload _ _) (sn_iload_n (i := 1) (jm_dc dc_27_0 10 rfl)) (
  jm_gc (pu_ic _ _) (sn_iconst (jm_dc dc_27_0 11 rfl) (by decide)) (
  jm_gc (pu_ibin _) (sn_iadd (jm_dc dc_27_0 12 rfl)) (
  jm_gc (pu_ic _ _) (sn_sipush (jm_dc dc_27_0 13 rfl) (by decide)) (
  jm_gc (pu_ibin _) (sn_imul (jm_dc dc_27_0 14 rfl)) (
  jm_gc (pu_iload _ _) (sn_iload_n (i := 3) (jm_dc dc_27_0 15 rfl)) (
  jm_gc (pu_ic _ _) (sn_iconst (jm_dc dc_27_0 16 rfl) (by decide)) (
  jm_gc (pu_iload _ _) (sn_iload_n (i := 2) (jm_dc dc_27_0 17 rfl)) (
  jm_gc (pu_ibin _) (sn_ishl (jm_dc dc_27_0 18 rfl)) (
  jm_gc (pu_ibin _) (sn_ior (jm_dc dc_27_0 19 rfl)) (
  jm_gc (pu_ibin _) (sn_iadd (jm_dc dc_27_0 20 rfl)) (
  jm_gc (pu_iald _) (sn_iald (jm_dc dc_27_0 21 rfl)) (
  jm_gc (pu_ibin _) (sn_iadd (jm_dc dc_27_0 22 rfl)) (
  jm_gc (pu_iret) (sn_iret (jm_dc dc_27_0 23 rfl) rfl) (
  jm_gn))))))))))))))))))))))))
theorem dc_28_0 : ([(0, .iconst 0, 1), (1, .istore_n 3, 1), (2, .iload_n 3, 1), (3, .bipush 10, 2), (5, .if_icmp .ge 41, 3), (8, .iload_n 2, 1), (9, .iload_n 3, 1), (10, .ishr, 1), (11, .iconst 1, 1), (12, .iand, 1), (13, .ifCond .ne 27, 3), (16, .aload_n 0, 1), (17, .iload_n 1, 1), (18, .iload_n 3, 1), (19, .iload_n 2, 1), (20, .invokevirtual 77, 3), (23, .aload_n 0, 1), (24, .getfield 27, 3), (27, .iload_n 1, 1), (28, .sipush 1024, 3), (31, .imul, 1), (32, .iload_n 2, 1), (33, .iadd, 1), (34, .iaload, 1), (35, .if_icmp .ne 5, 3)] : List (Nat × Instr × Nat)).all (fun e => decide (decode prog_4_method_10_code e.1 = .ok e.2)) = true := by decide +kernel
abbrev cl_28_0 : List (Nat × jm_O) := [(0, op_ic 0 1), (1, op_istore 3 1), (2, op_iload 3 1), (3, op_ic 10 2), (5, op_cge 46), (8, op_iload 2 1), (9, op_iload 3 1), (10, op_ibin (fun x y => x >>> (y &&& 31))), (11, op_ic 1 1), (12, op_ibin (fun x y => x &&& y)), (13, op_ifne 40), (16, op_aload 0 1), (17, op_iload 1 1), (18, op_iload 3 1), (19, op_iload 2 1), (20, op_callV 2 27 4), (23, op_aload 0 1), (24, op_getA 2 6), (27, op_iload 1 1), (28, op_ic 1024 3), (31, op_ibin (fun x y => x * y)), (32, op_iload 2 1), (33, op_ibin (fun x y => x + y)), (34, op_iald 13), (35, op_cne 40)]
set_option maxRecDepth 100000 in
theorem gl_28_0 : jm_gl "FrescoWall$Boxes" prog_4_method_10_code 4 (Option.some Jvm.ClassFile.FieldType.int) false cl_28_0 :=
  jm_gc (pu_ic _ _) (sn_iconst (jm_dc dc_28_0 0 rfl) (by decide)) (
  jm_gc (pu_istore _ _) (sn_istore_n (i := 3) (jm_dc dc_28_0 1 rfl)) (
  jm_gc (pu_iload _ _) (sn_iload_n (i := 3) (jm_dc dc_28_0 2 rfl)) (
  jm_gc (pu_ic _ _) (sn_bipush (jm_dc dc_28_0 3 rfl) (by decide)) (
  jm_gc (pu_cge _) (sn_cge (jm_dc dc_28_0 4 rfl) (by decide)) (
  jm_gc (pu_iload _ _) (sn_iload_n (i := 2) (jm_dc dc_28_0 5 rfl)) (
  jm_gc (pu_iload _ _) (sn_iload_n (i := 3) (jm_dc dc_28_0 6 rfl)) (
  jm_gc (pu_ibin _) (sn_ishr (jm_dc dc_28_0 7 rfl)) (
  jm_gc (pu_ic _ _) (sn_iconst (jm_dc dc_28_0 8 rfl) (by decide)) (
  jm_gc (pu_ibin _) (sn_iand (jm_dc dc_28_0 9 rfl)) (
  jm_gc (pu_ifne _) (sn_ifne (jm_dc dc_28_0 10 rfl) (by decide)) (
  jm_gc (pu_aload _ _) (sn_aload_n (i := 0) (jm_dc dc_28_0 11 rfl)) (
  jm_gc (pu_iload _ _) (sn_iload_n (i := 1) (jm_dc dc_28_0 12 rfl)) (
  jm_gc (pu_iload _ _) (sn_iload_n (i := 3) (jm_dc dc_28_0 13 rfl)) (
  jm_gc (pu_iload _ _) (sn_iload_n (i := 2) (jm_dc dc_28_0 14 rfl)) (
  jm_gc (pu_callV _ _ _) (sn_callV (jm_dc dc_28_0 15 rfl) lk_2_77) (
  jm_gc (pu_aload _ _) (sn_aload_n (i := 0) (jm_dc dc_28_0 16 rfl)) (
  jm_gc (pu_getA _ _) (sn_getA (jm_dc dc_28_0 17 rfl) fl_2_27 rfl) (
  jm_gc (pu_iload _ _) (sn_iload_n (i := 1) (jm_dc dc_28_0 18 rfl)) (
  jm_gc (pu_ic _ _) (sn_sipush (jm_dc dc_28_0 19 rfl) (by decide)) (
  jm_gc (pu_ibin _) (sn_imul (jm_dc dc_28_0 20 rfl)) (
  jm_gc (pu_iload _ _) (sn_iload_n (i := 2) (jm_dc dc_28_0 21 rfl)) (
  jm_gc (pu_ibin _) (sn_iadd (jm_dc dc_28_0 22 rfl)) (
  jm_gc (pu_iald _) (sn_iald (jm_dc dc_28_0 23 rfl)) (
  jm_gc (pu_cne _) (sn_cne (jm_dc dc_28_0 24 rfl) (by decide)) (
  jm_gn)))))))))))))))))))))))))
theorem dc_28_1 : ([(38, .iload_n 3, 1), (39, .ireturn, 1), (40, .iinc 3 1, 3), (43, .goto (-41), 3), (46, .iconst (-1), 1), (47, .ireturn, 1)] : List (Nat × Instr × Nat)).all (fun e => decide (decode prog_4_method_10_code e.1 = .ok e.2)) = true := by decide +kernel
abbrev cl_28_1 : List (Nat × jm_O) := [(38, op_iload 3 1), (39, op_iret), (40, op_iinc 3 1), (43, op_goto 2), (46, op_ic (-1) 1), (47, op_iret)]
set_option maxRecDepth 100000 in
theorem gl_28_1 : jm_gl "FrescoWall$Boxes" prog_4_method_10_code 4 (Option.some Jvm.ClassFile.FieldType.int) false cl_28_1 :=
  jm_gc (pu_iload _ _) (sn_iload_n (i := 3) (jm_dc dc_28_1 0 rfl)) (
  jm_gc (pu_iret) (sn_iret (jm_dc dc_28_1 1 rfl) rfl) (
  jm_gc (pu_iinc _ _) (sn_iinc (jm_dc dc_28_1 2 rfl) (by decide)) (
  jm_gc (pu_goto _) (sn_goto (jm_dc dc_28_1 3 rfl) (by decide)) (
  jm_gc (pu_ic _ _) (sn_iconst (jm_dc dc_28_1 4 rfl) (by decide)) (
  jm_gc (pu_iret) (sn_iret (jm_dc dc_28_1 5 rfl) rfl) (
  jm_gn))))))
theorem dc_40_0 : ([(0, .aload_n 0, 1), (1, .invokespecial 3, 3), (4, .aload_n 0, 1), (5, .bipush 60, 2), (7, .newarray .int, 2), (9, .putfield 9, 3), (12, .aload_n 0, 1), (13, .bipush 60, 2), (15, .newarray .int, 2), (17, .putfield 15, 3), (20, .aload_n 0, 1), (21, .bipush 60, 2), (23, .newarray .int, 2), (25, .putfield 18, 3), (28, .aload_n 0, 1), (29, .bipush 60, 2), (31, .newarray .int, 2), (33, .putfield 21, 3), (36, .aload_n 0, 1), (37, .bipush 30, 2), (39, .newarray .int, 2), (41, .putfield 24, 3), (44, .aload_n 0, 1), (45, .bipush 30, 2), (47, .newarray .int, 2)] : List (Nat × Instr × Nat)).all (fun e => decide (decode prog_6_method_1_code e.1 = .ok e.2)) = true := by decide +kernel
abbrev cl_40_0 : List (Nat × jm_O) := [(0, op_aload 0 1), (1, op_objInit), (4, op_aload 0 1), (5, op_ic 60 2), (7, op_newa 13 2), (9, op_putA 4 0), (12, op_aload 0 1), (13, op_ic 60 2), (15, op_newa 13 2), (17, op_putA 4 1), (20, op_aload 0 1), (21, op_ic 60 2), (23, op_newa 13 2), (25, op_putA 4 2), (28, op_aload 0 1), (29, op_ic 60 2), (31, op_newa 13 2), (33, op_putA 4 3), (36, op_aload 0 1), (37, op_ic 30 2), (39, op_newa 13 2), (41, op_putA 4 6), (44, op_aload 0 1), (45, op_ic 30 2), (47, op_newa 13 2)]
set_option maxRecDepth 100000 in
theorem gl_40_0 : jm_gl "FrescoWall$Joins" prog_6_method_1_code 1 (Option.none : Option Jvm.ClassFile.FieldType) true cl_40_0 :=
  jm_gc (pu_aload _ _) (sn_aload_n (i := 0) (jm_dc dc_40_0 0 rfl)) (
  jm_gc (pu_objInit) (sn_objInit (jm_dc dc_40_0 1 rfl) ⟨kc_tb 133 (by decide +kernel), kc_tb 23 (by decide +kernel), kc_tb 24 (by decide +kernel)⟩) (
  jm_gc (pu_aload _ _) (sn_aload_n (i := 0) (jm_dc dc_40_0 2 rfl)) (
  jm_gc (pu_ic _ _) (sn_bipush (jm_dc dc_40_0 3 rfl) (by decide)) (
  jm_gc (pu_newa _ _) (sn_newI (jm_dc dc_40_0 4 rfl) (kc_tb 91 (by decide +kernel))) (
  jm_gc (pu_putA _ _) (sn_putAF (jm_dc dc_40_0 5 rfl) flw_4_9 rfl rfl) (
  jm_gc (pu_aload _ _) (sn_aload_n (i := 0) (jm_dc dc_40_0 6 rfl)) (
  jm_gc (pu_ic _ _) (sn_bipush (jm_dc dc_40_0 7 rfl) (by decide)) (
  jm_gc (pu_newa _ _) (sn_newI (jm_dc dc_40_0 8 rfl) (kc_tb 91 (by decide +kernel))) (
  jm_gc (pu_putA _ _) (sn_putAF (jm_dc dc_40_0 9 rfl) flw_4_15 rfl rfl) (
  jm_gc (pu_aload _ _) (sn_aload_n (i := 0) (jm_dc dc_40_0 10 rfl)) (
  jm_gc (pu_ic _ _) (sn_bipush (jm_dc dc_40_0 11 rfl) (by decide)) (
  jm_gc (pu_newa _ _) (sn_newI (jm_dc dc_40_0 12 rfl) (kc_tb 91 (by decide +kernel))) (
  jm_gc (pu_putA _ _) (sn_putAF (jm_dc dc_40_0 13 rfl) flw_4_18 rfl rfl) (
  jm_gc (pu_aload _ _) (sn_aload_n (i := 0) (jm_dc dc_40_0 14 rfl)) (
  jm_gc (pu_ic _ _) (sn_bipush (jm_dc dc_40_0 15 rfl) (by decide)) (
  jm_gc (pu_newa _ _) (sn_newI (jm_dc dc_40_0 16 rfl) (kc_tb 91 (by decide +kernel))) (
  jm_gc (pu_putA _ _) (sn_putAF (jm_dc dc_40_0 17 rfl) flw_4_21 rfl rfl) (
  jm_gc (pu_aload _ _) (sn_aload_n (i := 0) (jm_dc dc_40_0 18 rfl)) (
  jm_gc (pu_ic _ _) (sn_bipush (jm_dc dc_40_0 19 rfl) (by decide)) (
  jm_gc (pu_newa _ _) (sn_newI (jm_dc dc_40_0 20 rfl) (kc_tb 91 (by decide +kernel))) (
  jm_gc (pu_putA _ _) (sn_putAF (jm_dc dc_40_0 21 rfl) flw_4_24 rfl rfl) (
  jm_gc (pu_aload _ _) (sn_aload_n (i := 0) (jm_dc dc_40_0 22 rfl)) (
  jm_gc (pu_ic _ _) (sn_bipush (jm_dc dc_40_0 23 rfl) (by decide)) (
  jm_gc (pu_newa _ _) (sn_newI (jm_dc dc_40_0 24 rfl) (kc_tb 91 (by decide +kernel))) (
  jm_gn)))))))))))))))))))))))))
theorem dc_40_1 : ([(49, .putfield 27, 3), (52, .aload_n 0, 1), (53, .bipush 30, 2), (55, .newarray .int, 2), (57, .putfield 30, 3), (60, .return_, 1)] : List (Nat × Instr × Nat)).all (fun e => decide (decode prog_6_method_1_code e.1 = .ok e.2)) = true := by decide +kernel
abbrev cl_40_1 : List (Nat × jm_O) := [(49, op_putA 4 7), (52, op_aload 0 1), (53, op_ic 30 2), (55, op_newa 13 2), (57, op_putA 4 8), (60, op_vret)]
set_option maxRecDepth 100000 in
theorem gl_40_1 : jm_gl "FrescoWall$Joins" prog_6_method_1_code 1 (Option.none : Option Jvm.ClassFile.FieldType) true cl_40_1 :=
  jm_gc (pu_putA _ _) (sn_putAF (jm_dc dc_40_1 0 rfl) flw_4_27 rfl rfl) (
  jm_gc (pu_aload _ _) (sn_aload_n (i := 0) (jm_dc dc_40_1 1 rfl)) (
  jm_gc (pu_ic _ _) (sn_bipush (jm_dc dc_40_1 2 rfl) (by decide)) (
  jm_gc (pu_newa _ _) (sn_newI (jm_dc dc_40_1 3 rfl) (kc_tb 91 (by decide +kernel))) (
  jm_gc (pu_putA _ _) (sn_putAF (jm_dc dc_40_1 4 rfl) flw_4_30 rfl rfl) (
  jm_gc (pu_vret) (sn_vret (jm_dc dc_40_1 5 rfl) rfl) (
  jm_gn))))))
theorem dc_41_0 : ([(0, .aload_n 0, 1), (1, .getfield 24, 3), (4, .iload_n 1, 1), (5, .iconst 1, 1), (6, .iload_n 1, 1), (7, .ishl, 1), (8, .iastore, 1), (9, .return_, 1)] : List (Nat × Instr × Nat)).all (fun e => decide (decode prog_6_method_2_code e.1 = .ok e.2)) = true := by decide +kernel
abbrev cl_41_0 : List (Nat × jm_O) := [(0, op_aload 0 1), (1, op_getA 4 6), (4, op_iload 1 1), (5, op_ic 1 1), (6, op_iload 1 1), (7, op_ibin (fun x y => x <<< (y &&& 31))), (8, op_iast), (9, op_vret)]
set_option maxRecDepth 100000 in
theorem gl_41_0 : jm_gl "FrescoWall$Joins" prog_6_method_2_code 2 (Option.none : Option Jvm.ClassFile.FieldType) false cl_41_0 :=
  jm_gc (pu_aload _ _) (sn_aload_n (i := 0) (jm_dc dc_41_0 0 rfl)) (
  jm_gc (pu_getA _ _) (sn_getA (jm_dc dc_41_0 1 rfl) fl_4_24 rfl) (
  jm_gc (pu_iload _ _) (sn_iload_n (i := 1) (jm_dc dc_41_0 2 rfl)) (
  jm_gc (pu_ic _ _) (sn_iconst (jm_dc dc_41_0 3 rfl) (by decide)) (
  jm_gc (pu_iload _ _) (sn_iload_n (i := 1) (jm_dc dc_41_0 4 rfl)) (
  jm_gc (pu_ibin _) (sn_ishl (jm_dc dc_41_0 5 rfl)) (
  jm_gc (pu_iast) (sn_iast (jm_dc dc_41_0 6 rfl)) (
  jm_gc (pu_vret) (sn_vret (jm_dc dc_41_0 7 rfl) rfl) (
  jm_gn))))))))
theorem dc_42_0 : ([(0, .iload_n 1, 1), (1, .ifCond .lt 26, 3), (4, .iload_n 1, 1), (5, .aload_n 0, 1), (6, .getfield 33, 3), (9, .if_icmp .ge 18, 3), (12, .aload_n 0, 1), (13, .getfield 37, 3), (16, .iload_n 1, 1), (17, .invokestatic 41, 3), (20, .ifCond .eq 7, 3), (23, .iconst 1, 1), (24, .goto 4, 3), (27, .iconst 0, 1), (28, .ireturn, 1)] : List (Nat × Instr × Nat)).all (fun e => decide (decode prog_6_method_3_code e.1 = .ok e.2)) = true := by decide +kernel
abbrev cl_42_0 : List (Nat × jm_O) := [(0, op_iload 1 1), (1, op_iflt 27), (4, op_iload 1 1), (5, op_aload 0 1), (6, op_getI 4 4), (9, op_cge 27), (12, op_aload 0 1), (13, op_getJ 4 5), (16, op_iload 1 1), (17, op_callS 43 2), (20, op_ifeq 27), (23, op_ic 1 1), (24, op_goto 28), (27, op_ic 0 1), (28, op_zret)]
set_option maxRecDepth 100000 in
theorem gl_42_0 : jm_gl "FrescoWall$Joins" prog_6_method_3_code 2 (Option.some Jvm.ClassFile.FieldType.boolean) false cl_42_0 :=
  jm_gc (pu_iload _ _) (sn_iload_n (i := 1) (jm_dc dc_42_0 0 rfl)) (
  jm_gc (pu_iflt _) (sn_iflt (jm_dc dc_42_0 1 rfl) (by decide)) (
  jm_gc (pu_iload _ _) (sn_iload_n (i := 1) (jm_dc dc_42_0 2 rfl)) (
  jm_gc (pu_aload _ _) (sn_aload_n (i := 0) (jm_dc dc_42_0 3 rfl)) (
  jm_gc (pu_getI _ _) (sn_getI (jm_dc dc_42_0 4 rfl) fl_4_33 (Or.inl rfl)) (
  jm_gc (pu_cge _) (sn_cge (jm_dc dc_42_0 5 rfl) (by decide)) (
  jm_gc (pu_aload _ _) (sn_aload_n (i := 0) (jm_dc dc_42_0 6 rfl)) (
  jm_gc (pu_getJ _ _) (sn_getJ (jm_dc dc_42_0 7 rfl) fl_4_37 rfl) (
  jm_gc (pu_iload _ _) (sn_iload_n (i := 1) (jm_dc dc_42_0 8 rfl)) (
  jm_gc (pu_callS _ _) (sn_callS (jm_dc dc_42_0 9 rfl) lk_4_41) (
  jm_gc (pu_ifeq _) (sn_ifeq (jm_dc dc_42_0 10 rfl) (by decide)) (
  jm_gc (pu_ic _ _) (sn_iconst (jm_dc dc_42_0 11 rfl) (by decide)) (
  jm_gc (pu_goto _) (sn_goto (jm_dc dc_42_0 12 rfl) (by decide)) (
  jm_gc (pu_ic _ _) (sn_iconst (jm_dc dc_42_0 13 rfl) (by decide)) (
  jm_gc (pu_zret) (sn_zret (jm_dc dc_42_0 14 rfl) rfl) (
  jm_gn)))))))))))))))
theorem dc_43_0 : ([(0, .lload_n 0, 1), (1, .iload_n 2, 1), (2, .lshr, 1), (3, .lconst 1, 1), (4, .land, 1), (5, .lconst 0, 1), (6, .lcmp, 1), (7, .ifCond .eq 7, 3), (10, .iconst 1, 1), (11, .goto 4, 3), (14, .iconst 0, 1), (15, .ireturn, 1)] : List (Nat × Instr × Nat)).all (fun e => decide (decode prog_6_method_4_code e.1 = .ok e.2)) = true := by decide +kernel
abbrev cl_43_0 : List (Nat × jm_O) := [(0, op_lload 0 1), (1, op_iload 2 1), (2, op_lsh (fun x y => x >>> (y.toInt64 &&& 63))), (3, op_lc 1 1), (4, op_lbin (fun x y => x &&& y)), (5, op_lc 0 1), (6, op_lcmp), (7, op_ifeq 14), (10, op_ic 1 1), (11, op_goto 15), (14, op_ic 0 1), (15, op_zret)]
set_option maxRecDepth 100000 in
theorem gl_43_0 : jm_gl "FrescoWall$Joins" prog_6_method_4_code 3 (Option.some Jvm.ClassFile.FieldType.boolean) false cl_43_0 :=
  jm_gc (pu_lload _ _) (sn_lload_n (i := 0) (jm_dc dc_43_0 0 rfl)) (
  jm_gc (pu_iload _ _) (sn_iload_n (i := 2) (jm_dc dc_43_0 1 rfl)) (
  jm_gc (pu_lsh _) (sn_lshr (jm_dc dc_43_0 2 rfl)) (
  jm_gc (pu_lc _ _) (sn_lconst (jm_dc dc_43_0 3 rfl) (by decide)) (
  jm_gc (pu_lbin _) (sn_land (jm_dc dc_43_0 4 rfl)) (
  jm_gc (pu_lc _ _) (sn_lconst (jm_dc dc_43_0 5 rfl) (by decide)) (
  jm_gc (pu_lcmp) (sn_lcmp (jm_dc dc_43_0 6 rfl)) (
  jm_gc (pu_ifeq _) (sn_ifeq (jm_dc dc_43_0 7 rfl) (by decide)) (
  jm_gc (pu_ic _ _) (sn_iconst (jm_dc dc_43_0 8 rfl) (by decide)) (
  jm_gc (pu_goto _) (sn_goto (jm_dc dc_43_0 9 rfl) (by decide)) (
  jm_gc (pu_ic _ _) (sn_iconst (jm_dc dc_43_0 10 rfl) (by decide)) (
  jm_gc (pu_zret) (sn_zret (jm_dc dc_43_0 11 rfl) rfl) (
  jm_gn))))))))))))
theorem dc_44_0 : ([(0, .iconst 0, 1), (1, .istore_n 3, 1), (2, .iload_n 3, 1), (3, .aload_n 0, 1), (4, .getfield 33, 3), (7, .if_icmp .ge 86, 3), (10, .aload_n 0, 1), (11, .getfield 9, 3), (14, .iload_n 3, 1), (15, .iaload, 1), (16, .iload_n 1, 1), (17, .if_icmp .ne 17, 3), (20, .aload_n 0, 1), (21, .getfield 15, 3), (24, .iload_n 3, 1), (25, .iaload, 1), (26, .iload_n 2, 1), (27, .if_icmp .ne 7, 3), (30, .iconst 1, 1), (31, .goto 4, 3), (34, .iconst 0, 1), (35, .istore 4, 2), (37, .aload_n 0, 1), (38, .getfield 18, 3), (41, .iload_n 3, 1)] : List (Nat × Instr × Nat)).all (fun e => decide (decode prog_6_method_5_code e.1 = .ok e.2)) = true := by decide +kernel
abbrev cl_44_0 : List (Nat × jm_O) := [(0, op_ic 0 1), (1, op_istore 3 1), (2, op_iload 3 1), (3, op_aload 0 1), (4, op_getI 4 4), (7, op_cge 93), (10, op_aload 0 1), (11, op_getA 4 0), (14, op_iload 3 1), (15, op_iald 13), (16, op_iload 1 1), (17, op_cne 34), (20, op_aload 0 1), (21, op_getA 4 1), (24, op_iload 3 1), (25, op_iald 13), (26, op_iload 2 1), (27, op_cne 34), (30, op_ic 1 1), (31, op_goto 35), (34, op_ic 0 1), (35, op_istore 4 2), (37, op_aload 0 1), (38, op_getA 4 2), (41, op_iload 3 1)]
set_option maxRecDepth 100000 in
theorem gl_44_0 : jm_gl "FrescoWall$Joins" prog_6_method_5_code 6 (Option.some Jvm.ClassFile.FieldType.boolean) false cl_44_0 :=
  jm_gc (pu_ic _ _) (sn_iconst (jm_dc dc_44_0 0 rfl) (by decide)) (
  jm_gc (pu_istore _ _) (sn_istore_n (i := 3) (jm_dc dc_44_0 1 rfl)) (
  jm_gc (pu_iload _ _) (sn_iload_n (i := 3) (jm_dc dc_44_0 2 rfl)) (
  jm_gc (pu_aload _ _) (sn_aload_n (i := 0) (jm_dc dc_44_0 3 rfl)) (
  jm_gc (pu_getI _ _) (sn_getI (jm_dc dc_44_0 4 rfl) fl_4_33 (Or.inl rfl)) (
  jm_gc (pu_cge _) (sn_cge (jm_dc dc_44_0 5 rfl) (by decide)) (
  jm_gc (pu_aload _ _) (sn_aload_n (i := 0) (jm_dc dc_44_0 6 rfl)) (
  jm_gc (pu_getA _ _) (sn_getA (jm_dc dc_44_0 7 rfl) fl_4_9 rfl) (
  jm_gc (pu_iload _ _) (sn_iload_n (i := 3) (jm_dc dc_44_0 8 rfl)) (
  jm_gc (pu_iald _) (sn_iald (jm_dc dc_44_0 9 rfl)) (
  jm_gc (pu_iload _ _) (sn_iload_n (i := 1) (jm_dc dc_44_0 10 rfl)) (
  jm_gc (pu_cne _) (sn_cne (jm_dc dc_44_0 11 rfl) (by decide)) (
  jm_gc (pu_aload _ _) (sn_aload_n (i := 0) (jm_dc dc_44_0 12 rfl)) (
  jm_gc (pu_getA _ _) (sn_getA (jm_dc dc_44_0 13 rfl) fl_4_15 rfl) (
  jm_gc (pu_iload _ _) (sn_iload_n (i := 3) (jm_dc dc_44_0 14 rfl)) (
  jm_gc (pu_iald _) (sn_iald (jm_dc dc_44_0 15 rfl)) (
  jm_gc (pu_iload _ _) (sn_iload_n (i := 2) (jm_dc dc_44_0 16 rfl)) (
  jm_gc (pu_cne _) (sn_cne (jm_dc dc_44_0 17 rfl) (by decide)) (
  jm_gc (pu_ic _ _) (sn_iconst (jm_dc dc_44_0 18 rfl) (by decide)) (
  jm_gc (pu_goto _) (sn_goto (jm_dc dc_44_0 19 rfl) (by decide)) (
  jm_gc (pu_ic _ _) (sn_iconst (jm_dc dc_44_0 20 rfl) (by decide)) (
  jm_gc (pu_istore _ _) (sn_istore (jm_dc dc_44_0 21 rfl)) (
  jm_gc (pu_aload _ _) (sn_aload_n (i := 0) (jm_dc dc_44_0 22 rfl)) (
  jm_gc (pu_getA _ _) (sn_getA (jm_dc dc_44_0 23 rfl) fl_4_18 rfl) (
  jm_gc (pu_iload _ _) (sn_iload_n (i := 3) (jm_dc dc_44_0 24 rfl)) (
  jm_gn)))))))))))))))))))))))))
theorem dc_44_1 : ([(42, .iaload, 1), (43, .iload_n 1, 1), (44, .if_icmp .ne 17, 3), (47, .aload_n 0, 1), (48, .getfield 21, 3), (51, .iload_n 3, 1), (52, .iaload, 1), (53, .iload_n 2, 1), (54, .if_icmp .ne 7, 3), (57, .iconst 1, 1), (58, .goto 4, 3), (61, .iconst 0, 1), (62, .istore 5, 2), (64, .aload_n 0, 1), (65, .getfield 37, 3), (68, .iload_n 3, 1), (69, .invokestatic 41, 3), (72, .ifCond .eq 15, 3), (75, .iload 4, 2), (77, .ifCond .ne 8, 3), (80, .iload 5, 2), (82, .ifCond .eq 5, 3), (85, .iconst 1, 1), (86, .ireturn, 1), (87, .iinc 3 1, 3)] : List (Nat × Instr × Nat)).all (fun e => decide (decode prog_6_method_5_code e.1 = .ok e.2)) = true := by decide +kernel
abbrev cl_44_1 : List (Nat × jm_O) := [(42, op_iald 13), (43, op_iload 1 1), (44, op_cne 61), (47, op_aload 0 1), (48, op_getA 4 3), (51, op_iload 3 1), (52, op_iald 13), (53, op_iload 2 1), (54, op_cne 61), (57, op_ic 1 1), (58, op_goto 62), (61, op_ic 0 1), (62, op_istore 5 2), (64, op_aload 0 1), (65, op_getJ 4 5), (68, op_iload 3 1), (69, op_callS 43 2), (72, op_ifeq 87), (75, op_iload 4 2), (77, op_ifne 85), (80, op_iload 5 2), (82, op_ifeq 87), (85, op_ic 1 1), (86, op_zret), (87, op_iinc 3 1)]
set_option maxRecDepth 100000 in
theorem gl_44_1 : jm_gl "FrescoWall$Joins" prog_6_method_5_code 6 (Option.some Jvm.ClassFile.FieldType.boolean) false cl_44_1 :=
  jm_gc (pu_iald _) (sn_iald (jm_dc dc_44_1 0 rfl)) (
  jm_gc (pu_iload _ _) (sn_iload_n (i := 1) (jm_dc dc_44_1 1 rfl)) (
  jm_gc (pu_cne _) (sn_cne (jm_dc dc_44_1 2 rfl) (by decide)) (
  jm_gc (pu_aload _ _) (sn_aload_n (i := 0) (jm_dc dc_44_1 3 rfl)) (
  jm_gc (pu_getA _ _) (sn_getA (jm_dc dc_44_1 4 rfl) fl_4_21 rfl) (
  jm_gc (pu_iload _ _) (sn_iload_n (i := 3) (jm_dc dc_44_1 5 rfl)) (
  jm_gc (pu_iald _) (sn_iald (jm_dc dc_44_1 6 rfl)) (
  jm_gc (pu_iload _ _) (sn_iload_n (i := 2) (jm_dc dc_44_1 7 rfl)) (
  jm_gc (pu_cne _) (sn_cne (jm_dc dc_44_1 8 rfl) (by decide)) (
  jm_gc (pu_ic _ _) (sn_iconst (jm_dc dc_44_1 9 rfl) (by decide)) (
  jm_gc (pu_goto _) (sn_goto (jm_dc dc_44_1 10 rfl) (by decide)) (
  jm_gc (pu_ic _ _) (sn_iconst (jm_dc dc_44_1 11 rfl) (by decide)) (
  jm_gc (pu_istore _ _) (sn_istore (jm_dc dc_44_1 12 rfl)) (
  jm_gc (pu_aload _ _) (sn_aload_n (i := 0) (jm_dc dc_44_1 13 rfl)) (
  jm_gc (pu_getJ _ _) (sn_getJ (jm_dc dc_44_1 14 rfl) fl_4_37 rfl) (
  jm_gc (pu_iload _ _) (sn_iload_n (i := 3) (jm_dc dc_44_1 15 rfl)) (
  jm_gc (pu_callS _ _) (sn_callS (jm_dc dc_44_1 16 rfl) lk_4_41) (
  jm_gc (pu_ifeq _) (sn_ifeq (jm_dc dc_44_1 17 rfl) (by decide)) (
  jm_gc (pu_iload _ _) (sn_iload (jm_dc dc_44_1 18 rfl)) (
  jm_gc (pu_ifne _) (sn_ifne (jm_dc dc_44_1 19 rfl) (by decide)) (
  jm_gc (pu_iload _ _) (sn_iload (jm_dc dc_44_1 20 rfl)) (
  jm_gc (pu_ifeq _) (sn_ifeq (jm_dc dc_44_1 21 rfl) (by decide)) (
  jm_gc (pu_ic _ _) (sn_iconst (jm_dc dc_44_1 22 rfl) (by decide)) (
  jm_gc (pu_zret) (sn_zret (jm_dc dc_44_1 23 rfl) rfl) (
  jm_gc (pu_iinc _ _) (sn_iinc (jm_dc dc_44_1 24 rfl) (by decide)) (
  jm_gn)))))))))))))))))))))))))
theorem dc_44_2 : ([(90, .goto (-88), 3), (93, .iconst 0, 1), (94, .ireturn, 1)] : List (Nat × Instr × Nat)).all (fun e => decide (decode prog_6_method_5_code e.1 = .ok e.2)) = true := by decide +kernel
abbrev cl_44_2 : List (Nat × jm_O) := [(90, op_goto 2), (93, op_ic 0 1), (94, op_zret)]
set_option maxRecDepth 100000 in
theorem gl_44_2 : jm_gl "FrescoWall$Joins" prog_6_method_5_code 6 (Option.some Jvm.ClassFile.FieldType.boolean) false cl_44_2 :=
  jm_gc (pu_goto _) (sn_goto (jm_dc dc_44_2 0 rfl) (by decide)) (
  jm_gc (pu_ic _ _) (sn_iconst (jm_dc dc_44_2 1 rfl) (by decide)) (
  jm_gc (pu_zret) (sn_zret (jm_dc dc_44_2 2 rfl) rfl) (
  jm_gn)))
theorem dc_45_0 : ([(0, .aload_n 0, 1), (1, .getfield 33, 3), (4, .istore 5, 2), (6, .aload_n 0, 1), (7, .getfield 9, 3), (10, .iload 5, 2), (12, .iload_n 1, 1), (13, .iastore, 1), (14, .aload_n 0, 1), (15, .getfield 15, 3), (18, .iload 5, 2), (20, .iload_n 2, 1), (21, .iastore, 1), (22, .aload_n 0, 1), (23, .getfield 18, 3), (26, .iload 5, 2), (28, .iload_n 3, 1), (29, .iastore, 1), (30, .aload_n 0, 1), (31, .getfield 21, 3), (34, .iload 5, 2), (36, .iload 4, 2), (38, .iastore, 1), (39, .aload_n 0, 1), (40, .dup, 1)] : List (Nat × Instr × Nat)).all (fun e => decide (decode prog_6_method_6_code e.1 = .ok e.2)) = true := by decide +kernel
abbrev cl_45_0 : List (Nat × jm_O) := [(0, op_aload 0 1), (1, op_getI 4 4), (4, op_istore 5 2), (6, op_aload 0 1), (7, op_getA 4 0), (10, op_iload 5 2), (12, op_iload 1 1), (13, op_iast), (14, op_aload 0 1), (15, op_getA 4 1), (18, op_iload 5 2), (20, op_iload 2 1), (21, op_iast), (22, op_aload 0 1), (23, op_getA 4 2), (26, op_iload 5 2), (28, op_iload 3 1), (29, op_iast), (30, op_aload 0 1), (31, op_getA 4 3), (34, op_iload 5 2), (36, op_iload 4 2), (38, op_iast), (39, op_aload 0 1), (40, op_dup)]
set_option maxRecDepth 100000 in
theorem gl_45_0 : jm_gl "FrescoWall$Joins" prog_6_method_6_code 6 (Option.some Jvm.ClassFile.FieldType.int) false cl_45_0 :=
  jm_gc (pu_aload _ _) (sn_aload_n (i := 0) (jm_dc dc_45_0 0 rfl)) (
  jm_gc (pu_getI _ _) (sn_getI (jm_dc dc_45_0 1 rfl) fl_4_33 (Or.inl rfl)) (
  jm_gc (pu_istore _ _) (sn_istore (jm_dc dc_45_0 2 rfl)) (
  jm_gc (pu_aload _ _) (sn_aload_n (i := 0) (jm_dc dc_45_0 3 rfl)) (
  jm_gc (pu_getA _ _) (sn_getA (jm_dc dc_45_0 4 rfl) fl_4_9 rfl) (
  jm_gc (pu_iload _ _) (sn_iload (jm_dc dc_45_0 5 rfl)) (
  jm_gc (pu_iload _ _) (sn_iload_n (i := 1) (jm_dc dc_45_0 6 rfl)) (
  jm_gc (pu_iast) (sn_iast (jm_dc dc_45_0 7 rfl)) (
  jm_gc (pu_aload _ _) (sn_aload_n (i := 0) (jm_dc dc_45_0 8 rfl)) (
  jm_gc (pu_getA _ _) (sn_getA (jm_dc dc_45_0 9 rfl) fl_4_15 rfl) (
  jm_gc (pu_iload _ _) (sn_iload (jm_dc dc_45_0 10 rfl)) (
  jm_gc (pu_iload _ _) (sn_iload_n (i := 2) (jm_dc dc_45_0 11 rfl)) (
  jm_gc (pu_iast) (sn_iast (jm_dc dc_45_0 12 rfl)) (
  jm_gc (pu_aload _ _) (sn_aload_n (i := 0) (jm_dc dc_45_0 13 rfl)) (
  jm_gc (pu_getA _ _) (sn_getA (jm_dc dc_45_0 14 rfl) fl_4_18 rfl) (
  jm_gc (pu_iload _ _) (sn_iload (jm_dc dc_45_0 15 rfl)) (
  jm_gc (pu_iload _ _) (sn_iload_n (i := 3) (jm_dc dc_45_0 16 rfl)) (
  jm_gc (pu_iast) (sn_iast (jm_dc dc_45_0 17 rfl)) (
  jm_gc (pu_aload _ _) (sn_aload_n (i := 0) (jm_dc dc_45_0 18 rfl)) (
  jm_gc (pu_getA _ _) (sn_getA (jm_dc dc_45_0 19 rfl) fl_4_21 rfl) (
  jm_gc (pu_iload _ _) (sn_iload (jm_dc dc_45_0 20 rfl)) (
  jm_gc (pu_iload _ _) (sn_iload (jm_dc dc_45_0 21 rfl)) (
  jm_gc (pu_iast) (sn_iast (jm_dc dc_45_0 22 rfl)) (
  jm_gc (pu_aload _ _) (sn_aload_n (i := 0) (jm_dc dc_45_0 23 rfl)) (
  jm_gc (pu_dup) (sn_dup (jm_dc dc_45_0 24 rfl)) (
  jm_gn)))))))))))))))))))))))))
theorem dc_45_1 : ([(41, .getfield 33, 3), (44, .iconst 1, 1), (45, .iadd, 1), (46, .putfield 33, 3), (49, .aload_n 0, 1), (50, .dup, 1), (51, .getfield 37, 3), (54, .lconst 1, 1), (55, .iload 5, 2), (57, .lshl, 1), (58, .lor, 1), (59, .putfield 37, 3), (62, .aload_n 0, 1), (63, .aload_n 0, 1), (64, .getfield 24, 3), (67, .iload_n 1, 1), (68, .iaload, 1), (69, .aload_n 0, 1), (70, .getfield 24, 3), (73, .iload_n 3, 1), (74, .iaload, 1), (75, .ior, 1), (76, .invokevirtual 45, 3), (79, .iload 5, 2), (81, .ireturn, 1)] : List (Nat × Instr × Nat)).all (fun e => decide (decode prog_6_method_6_code e.1 = .ok e.2)) = true := by decide +kernel
abbrev cl_45_1 : List (Nat × jm_O) := [(41, op_getI 4 4), (44, op_ic 1 1), (45, op_ibin (fun x y => x + y)), (46, op_putI 4 4), (49, op_aload 0 1), (50, op_dup), (51, op_getJ 4 5), (54, op_lc 1 1), (55, op_iload 5 2), (57, op_lsh (fun x y => x <<< (y.toInt64 &&& 63))), (58, op_lbin (fun x y => x ||| y)), (59, op_putJ 4 5), (62, op_aload 0 1), (63, op_aload 0 1), (64, op_getA 4 6), (67, op_iload 1 1), (68, op_iald 13), (69, op_aload 0 1), (70, op_getA 4 6), (73, op_iload 3 1), (74, op_iald 13), (75, op_ibin (fun x y => x ||| y)), (76, op_callV 4 47 2), (79, op_iload 5 2), (81, op_iret)]
set_option maxRecDepth 100000 in
theorem gl_45_1 : jm_gl "FrescoWall$Joins" prog_6_method_6_code 6 (Option.some Jvm.ClassFile.FieldType.int) false cl_45_1 :=
  jm_gc (pu_getI _ _) (sn_getI (jm_dc dc_45_1 0 rfl) fl_4_33 (Or.inl rfl)) (
  jm_gc (pu_ic _ _) (sn_iconst (jm_dc dc_45_1 1 rfl) (by decide)) (
  jm_gc (pu_ibin _) (sn_iadd (jm_dc dc_45_1 2 rfl)) (
  jm_gc (pu_putI _ _) (sn_putI (jm_dc dc_45_1 3 rfl) flw_4_33 rfl) (
  jm_gc (pu_aload _ _) (sn_aload_n (i := 0) (jm_dc dc_45_1 4 rfl)) (
  jm_gc (pu_dup) (sn_dup (jm_dc dc_45_1 5 rfl)) (
  jm_gc (pu_getJ _ _) (sn_getJ (jm_dc dc_45_1 6 rfl) fl_4_37 rfl) (
  jm_gc (pu_lc _ _) (sn_lconst (jm_dc dc_45_1 7 rfl) (by decide)) (
  jm_gc (pu_iload _ _) (sn_iload (jm_dc dc_45_1 8 rfl)) (
  jm_gc (pu_lsh _) (sn_lshl (jm_dc dc_45_1 9 rfl)) (
  jm_gc (pu_lbin _) (sn_lor (jm_dc dc_45_1 10 rfl)) (
  jm_gc (pu_putJ _ _) (sn_putJ (jm_dc dc_45_1 11 rfl) flw_4_37 rfl) (
  jm_gc (pu_aload _ _) (sn_aload_n (i := 0) (jm_dc dc_45_1 12 rfl)) (
  jm_gc (pu_aload _ _) (sn_aload_n (i := 0) (jm_dc dc_45_1 13 rfl)) (
  jm_gc (pu_getA _ _) (sn_getA (jm_dc dc_45_1 14 rfl) fl_4_24 rfl) (
  jm_gc (pu_iload _ _) (sn_iload_n (i := 1) (jm_dc dc_45_1 15 rfl)) (
  jm_gc (pu_iald _) (sn_iald (jm_dc dc_45_1 16 rfl)) (
  jm_gc (pu_aload _ _) (sn_aload_n (i := 0) (jm_dc dc_45_1 17 rfl)) (
  jm_gc (pu_getA _ _) (sn_getA (jm_dc dc_45_1 18 rfl) fl_4_24 rfl) (
  jm_gc (pu_iload _ _) (sn_iload_n (i := 3) (jm_dc dc_45_1 19 rfl)) (
  jm_gc (pu_iald _) (sn_iald (jm_dc dc_45_1 20 rfl)) (
  jm_gc (pu_ibin _) (sn_ior (jm_dc dc_45_1 21 rfl)) (
  jm_gc (pu_callV _ _ _) (sn_callV (jm_dc dc_45_1 22 rfl) lk_4_45) (
  jm_gc (pu_iload _ _) (sn_iload (jm_dc dc_45_1 23 rfl)) (
  jm_gc (pu_iret) (sn_iret (jm_dc dc_45_1 24 rfl) rfl) (
  jm_gn)))))))))))))))))))))))))
theorem dc_46_0 : ([(0, .aload_n 0, 1), (1, .dup, 1), (2, .getfield 37, 3), (5, .lconst 1, 1), (6, .iload_n 1, 1), (7, .lshl, 1), (8, .ldc2_w 49, 3), (11, .lxor, 1), (12, .land, 1), (13, .putfield 37, 3), (16, .aload_n 0, 1), (17, .aload_n 0, 1), (18, .getfield 24, 3), (21, .aload_n 0, 1), (22, .getfield 9, 3), (25, .iload_n 1, 1), (26, .iaload, 1), (27, .iaload, 1), (28, .invokevirtual 45, 3), (31, .return_, 1)] : List (Nat × Instr × Nat)).all (fun e => decide (decode prog_6_method_7_code e.1 = .ok e.2)) = true := by decide +kernel
abbrev cl_46_0 : List (Nat × jm_O) := [(0, op_aload 0 1), (1, op_dup), (2, op_getJ 4 5), (5, op_lc 1 1), (6, op_iload 1 1), (7, op_lsh (fun x y => x <<< (y.toInt64 &&& 63))), (8, op_lc (-1) 3), (11, op_lbin (fun x y => x ^^^ y)), (12, op_lbin (fun x y => x &&& y)), (13, op_putJ 4 5), (16, op_aload 0 1), (17, op_aload 0 1), (18, op_getA 4 6), (21, op_aload 0 1), (22, op_getA 4 0), (25, op_iload 1 1), (26, op_iald 13), (27, op_iald 13), (28, op_callV 4 47 2), (31, op_vret)]
set_option maxRecDepth 100000 in
theorem gl_46_0 : jm_gl "FrescoWall$Joins" prog_6_method_7_code 2 (Option.none : Option Jvm.ClassFile.FieldType) false cl_46_0 :=
  jm_gc (pu_aload _ _) (sn_aload_n (i := 0) (jm_dc dc_46_0 0 rfl)) (
  jm_gc (pu_dup) (sn_dup (jm_dc dc_46_0 1 rfl)) (
  jm_gc (pu_getJ _ _) (sn_getJ (jm_dc dc_46_0 2 rfl) fl_4_37 rfl) (
  jm_gc (pu_lc _ _) (sn_lconst (jm_dc dc_46_0 3 rfl) (by decide)) (
  jm_gc (pu_iload _ _) (sn_iload_n (i := 1) (jm_dc dc_46_0 4 rfl)) (
  jm_gc (pu_lsh _) (sn_lshl (jm_dc dc_46_0 5 rfl)) (
  jm_gc (pu_lc _ _) (sn_ldc2 (jm_dc dc_46_0 6 rfl) (kc_tb 871 (by decide +kernel))) (
  jm_gc (pu_lbin _) (sn_lxor (jm_dc dc_46_0 7 rfl)) (
  jm_gc (pu_lbin _) (sn_land (jm_dc dc_46_0 8 rfl)) (
  jm_gc (pu_putJ _ _) (sn_putJ (jm_dc dc_46_0 9 rfl) flw_4_37 rfl) (
  jm_gc (pu_aload _ _) (sn_aload_n (i := 0) (jm_dc dc_46_0 10 rfl)) (
  jm_gc (pu_aload _ _) (sn_aload_n (i := 0) (jm_dc dc_46_0 11 rfl)) (
  jm_gc (pu_getA _ _) (sn_getA (jm_dc dc_46_0 12 rfl) fl_4_24 rfl) (
  jm_gc (pu_aload _ _) (sn_aload_n (i := 0) (jm_dc dc_46_0 13 rfl)) (
  jm_gc (pu_getA _ _) (sn_getA (jm_dc dc_46_0 14 rfl) fl_4_9 rfl) (
  jm_gc (pu_iload _ _) (sn_iload_n (i := 1) (jm_dc dc_46_0 15 rfl)) (
  jm_gc (pu_iald _) (sn_iald (jm_dc dc_46_0 16 rfl)) (
  jm_gc (pu_iald _) (sn_iald (jm_dc dc_46_0 17 rfl)) (
  jm_gc (pu_callV _ _ _) (sn_callV (jm_dc dc_46_0 18 rfl) lk_4_45) (
  jm_gc (pu_vret) (sn_vret (jm_dc dc_46_0 19 rfl) rfl) (
  jm_gn))))))))))))))))))))
theorem dc_47_0 : ([(0, .iconst 0, 1), (1, .istore_n 2, 1), (2, .iload_n 2, 1), (3, .bipush 30, 2), (5, .if_icmp .ge 34, 3), (8, .iload_n 1, 1), (9, .iload_n 2, 1), (10, .ishr, 1), (11, .iconst 1, 1), (12, .iand, 1), (13, .ifCond .eq 20, 3), (16, .aload_n 0, 1), (17, .getfield 24, 3), (20, .iload_n 2, 1), (21, .aload_n 0, 1), (22, .iconst 1, 1), (23, .iload_n 2, 1), (24, .ishl, 1), (25, .aload_n 0, 1), (26, .getfield 37, 3), (29, .invokevirtual 51, 3), (32, .iastore, 1), (33, .iinc 2 1, 3), (36, .goto (-34), 3), (39, .return_, 1)] : List (Nat × Instr × Nat)).all (fun e => decide (decode prog_6_method_8_code e.1 = .ok e.2)) = true := by decide +kernel
abbrev cl_47_0 : List (Nat × jm_O) := [(0, op_ic 0 1), (1, op_istore 2 1), (2, op_iload 2 1), (3, op_ic 30 2), (5, op_cge 39), (8, op_iload 1 1), (9, op_iload 2 1), (10, op_ibin (fun x y => x >>> (y &&& 31))), (11, op_ic 1 1), (12, op_ibin (fun x y => x &&& y)), (13, op_ifeq 33), (16, op_aload 0 1), (17, op_getA 4 6), (20, op_iload 2 1), (21, op_aload 0 1), (22, op_ic 1 1), (23, op_iload 2 1), (24, op_ibin (fun x y => x <<< (y &&& 31))), (25, op_aload 0 1), (26, op_getJ 4 5), (29, op_callV 4 48 3), (32, op_iast), (33, op_iinc 2 1), (36, op_goto 2), (39, op_vret)]
set_option maxRecDepth 100000 in
theorem gl_47_0 : jm_gl "FrescoWall$Joins" prog_6_method_8_code 3 (Option.none : Option Jvm.ClassFile.FieldType) false cl_47_0 :=
  jm_gc (pu_ic _ _) (sn_iconst (jm_dc dc_47_0 0 rfl) (by decide)) (
  jm_gc (pu_istore _ _) (sn_istore_n (i := 2) (jm_dc dc_47_0 1 rfl)) (
  jm_gc (pu_iload _ _) (sn_iload_n (i := 2) (jm_dc dc_47_0 2 rfl)) (
  jm_gc (pu_ic _ _) (sn_bipush (jm_dc dc_47_0 3 rfl) (by decide)) (
  jm_gc (pu_cge _) (sn_cge (jm_dc dc_47_0 4 rfl) (by decide)) (
  jm_gc (pu_iload _ _) (sn_iload_n (i := 1) (jm_dc dc_47_0 5 rfl)) (
  jm_gc (pu_iload _ _) (sn_iload_n (i := 2) (jm_dc dc_47_0 6 rfl)) (
  jm_gc (pu_ibin _) (sn_ishr (jm_dc dc_47_0 7 rfl)) (
  jm_gc (pu_ic _ _) (sn_iconst (jm_dc dc_47_0 8 rfl) (by decide)) (
  jm_gc (pu_ibin _) (sn_iand (jm_dc dc_47_0 9 rfl)) (
  jm_gc (pu_ifeq _) (sn_ifeq (jm_dc dc_47_0 10 rfl) (by decide)) (
  jm_gc (pu_aload _ _) (sn_aload_n (i := 0) (jm_dc dc_47_0 11 rfl)) (
  jm_gc (pu_getA _ _) (sn_getA (jm_dc dc_47_0 12 rfl) fl_4_24 rfl) (
  jm_gc (pu_iload _ _) (sn_iload_n (i := 2) (jm_dc dc_47_0 13 rfl)) (
  jm_gc (pu_aload _ _) (sn_aload_n (i := 0) (jm_dc dc_47_0 14 rfl)) (
  jm_gc (pu_ic _ _) (sn_iconst (jm_dc dc_47_0 15 rfl) (by decide)) (
  jm_gc (pu_iload _ _) (sn_iload_n (i := 2) (jm_dc dc_47_0 16 rfl)) (
  jm_gc (pu_ibin _) (sn_ishl (jm_dc dc_47_0 17 rfl)) (
  jm_gc (pu_aload _ _) (sn_aload_n (i := 0) (jm_dc dc_47_0 18 rfl)) (
  jm_gc (pu_getJ _ _) (sn_getJ (jm_dc dc_47_0 19 rfl) fl_4_37 rfl) (
  jm_gc (pu_callV _ _ _) (sn_callV (jm_dc dc_47_0 20 rfl) lk_4_51) (
  jm_gc (pu_iast) (sn_iast (jm_dc dc_47_0 21 rfl)) (
  jm_gc (pu_iinc _ _) (sn_iinc (jm_dc dc_47_0 22 rfl) (by decide)) (
  jm_gc (pu_goto _) (sn_goto (jm_dc dc_47_0 23 rfl) (by decide)) (
  jm_gc (pu_vret) (sn_vret (jm_dc dc_47_0 24 rfl) rfl) (
  jm_gn)))))))))))))))))))))))))
theorem dc_48_0 : ([(0, .iload_n 1, 1), (1, .istore 4, 2), (3, .iconst 0, 1), (4, .istore 5, 2), (6, .iload 5, 2), (8, .bipush 30, 2), (10, .if_icmp .ge 86, 3), (13, .iload 4, 2), (15, .istore 6, 2), (17, .iconst 0, 1), (18, .istore 7, 2), (20, .iload 7, 2), (22, .aload_n 0, 1), (23, .getfield 33, 3), (26, .if_icmp .ge 54, 3), (29, .iconst 1, 1), (30, .aload_n 0, 1), (31, .getfield 9, 3), (34, .iload 7, 2), (36, .iaload, 1), (37, .ishl, 1), (38, .iconst 1, 1), (39, .aload_n 0, 1), (40, .getfield 18, 3), (43, .iload 7, 2)] : List (Nat × Instr × Nat)).all (fun e => decide (decode prog_6_method_9_code e.1 = .ok e.2)) = true := by decide +kernel
abbrev cl_48_0 : List (Nat × jm_O) := [(0, op_iload 1 1), (1, op_istore 4 2), (3, op_ic 0 1), (4, op_istore 5 2), (6, op_iload 5 2), (8, op_ic 30 2), (10, op_cge 96), (13, op_iload 4 2), (15, op_istore 6 2), (17, op_ic 0 1), (18, op_istore 7 2), (20, op_iload 7 2), (22, op_aload 0 1), (23, op_getI 4 4), (26, op_cge 80), (29, op_ic 1 1), (30, op_aload 0 1), (31, op_getA 4 0), (34, op_iload 7 2), (36, op_iald 13), (37, op_ibin (fun x y => x <<< (y &&& 31))), (38, op_ic 1 1), (39, op_aload 0 1), (40, op_getA 4 2), (43, op_iload 7 2)]
set_option maxRecDepth 100000 in
theorem gl_48_0 : jm_gl "FrescoWall$Joins" prog_6_method_9_code 9 (Option.some Jvm.ClassFile.FieldType.int) false cl_48_0 :=
  jm_gc (pu_iload _ _) (sn_iload_n (i := 1) (jm_dc dc_48_0 0 rfl)) (
  jm_gc (pu_istore _ _) (sn_istore (jm_dc dc_48_0 1 rfl)) (
  jm_gc (pu_ic _ _) (sn_iconst (jm_dc dc_48_0 2 rfl) (by decide)) (
  jm_gc (pu_istore _ _) (sn_istore (jm_dc dc_48_0 3 rfl)) (
  jm_gc (pu_iload _ _) (sn_iload (jm_dc dc_48_0 4 rfl)) (
  jm_gc (pu_ic _ _) (sn_bipush (jm_dc dc_48_0 5 rfl) (by decide)) (
  jm_gc (pu_cge _) (sn_cge (jm_dc dc_48_0 6 rfl) (by decide)) (
  jm_gc (pu_iload _ _) (sn_iload (jm_dc dc_48_0 7 rfl)) (
  jm_gc (pu_istore _ _) (sn_istore (jm_dc dc_48_0 8 rfl)) (
  jm_gc (pu_ic _ _) (sn_iconst (jm_dc dc_48_0 9 rfl) (by decide)) (
  jm_gc (pu_istore _ _) (sn_istore (jm_dc dc_48_0 10 rfl)) (
  jm_gc (pu_iload _ _) (sn_iload (jm_dc dc_48_0 11 rfl)) (
  jm_gc (pu_aload _ _) (sn_aload_n (i := 0) (jm_dc dc_48_0 12 rfl)) (
  jm_gc (pu_getI _ _) (sn_getI (jm_dc dc_48_0 13 rfl) fl_4_33 (Or.inl rfl)) (
  jm_gc (pu_cge _) (sn_cge (jm_dc dc_48_0 14 rfl) (by decide)) (
  jm_gc (pu_ic _ _) (sn_iconst (jm_dc dc_48_0 15 rfl) (by decide)) (
  jm_gc (pu_aload _ _) (sn_aload_n (i := 0) (jm_dc dc_48_0 16 rfl)) (
  jm_gc (pu_getA _ _) (sn_getA (jm_dc dc_48_0 17 rfl) fl_4_9 rfl) (
  jm_gc (pu_iload _ _) (sn_iload (jm_dc dc_48_0 18 rfl)) (
  jm_gc (pu_iald _) (sn_iald (jm_dc dc_48_0 19 rfl)) (
  jm_gc (pu_ibin _) (sn_ishl (jm_dc dc_48_0 20 rfl)) (
  jm_gc (pu_ic _ _) (sn_iconst (jm_dc dc_48_0 21 rfl) (by decide)) (
  jm_gc (pu_aload _ _) (sn_aload_n (i := 0) (jm_dc dc_48_0 22 rfl)) (
  jm_gc (pu_getA _ _) (sn_getA (jm_dc dc_48_0 23 rfl) fl_4_18 rfl) (
  jm_gc (pu_iload _ _) (sn_iload (jm_dc dc_48_0 24 rfl)) (
  jm_gn)))))))))))))))))))))))))
theorem dc_48_1 : ([(45, .iaload, 1), (46, .ishl, 1), (47, .ior, 1), (48, .istore 8, 2), (50, .lload_n 2, 1), (51, .iload 7, 2), (53, .invokestatic 41, 3), (56, .ifCond .eq 18, 3), (59, .iload 4, 2), (61, .iload 8, 2), (63, .iand, 1), (64, .ifCond .eq 10, 3), (67, .iload 4, 2), (69, .iload 8, 2), (71, .ior, 1), (72, .istore 4, 2), (74, .iinc 7 1, 3), (77, .goto (-57), 3), (80, .iload 4, 2), (82, .iload 6, 2), (84, .if_icmp .ne 6, 3), (87, .iload 4, 2), (89, .ireturn, 1), (90, .iinc 5 1, 3), (93, .goto (-87), 3)] : List (Nat × Instr × Nat)).all (fun e => decide (decode prog_6_method_9_code e.1 = .ok e.2)) = true := by decide +kernel
abbrev cl_48_1 : List (Nat × jm_O) := [(45, op_iald 13), (46, op_ibin (fun x y => x <<< (y &&& 31))), (47, op_ibin (fun x y => x ||| y)), (48, op_istore 8 2), (50, op_lload 2 1), (51, op_iload 7 2), (53, op_callS 43 2), (56, op_ifeq 74), (59, op_iload 4 2), (61, op_iload 8 2), (63, op_ibin (fun x y => x &&& y)), (64, op_ifeq 74), (67, op_iload 4 2), (69, op_iload 8 2), (71, op_ibin (fun x y => x ||| y)), (72, op_istore 4 2), (74, op_iinc 7 1), (77, op_goto 20), (80, op_iload 4 2), (82, op_iload 6 2), (84, op_cne 90), (87, op_iload 4 2), (89, op_iret), (90, op_iinc 5 1), (93, op_goto 6)]
set_option maxRecDepth 100000 in
theorem gl_48_1 : jm_gl "FrescoWall$Joins" prog_6_method_9_code 9 (Option.some Jvm.ClassFile.FieldType.int) false cl_48_1 :=
  jm_gc (pu_iald _) (sn_iald (jm_dc dc_48_1 0 rfl)) (
  jm_gc (pu_ibin _) (sn_ishl (jm_dc dc_48_1 1 rfl)) (
  jm_gc (pu_ibin _) (sn_ior (jm_dc dc_48_1 2 rfl)) (
  jm_gc (pu_istore _ _) (sn_istore (jm_dc dc_48_1 3 rfl)) (
  jm_gc (pu_lload _ _) (sn_lload_n (i := 2) (jm_dc dc_48_1 4 rfl)) (
  jm_gc (pu_iload _ _) (sn_iload (jm_dc dc_48_1 5 rfl)) (
  jm_gc (pu_callS _ _) (sn_callS (jm_dc dc_48_1 6 rfl) lk_4_41) (
  jm_gc (pu_ifeq _) (sn_ifeq (jm_dc dc_48_1 7 rfl) (by decide)) (
  jm_gc (pu_iload _ _) (sn_iload (jm_dc dc_48_1 8 rfl)) (
  jm_gc (pu_iload _ _) (sn_iload (jm_dc dc_48_1 9 rfl)) (
  jm_gc (pu_ibin _) (sn_iand (jm_dc dc_48_1 10 rfl)) (
  jm_gc (pu_ifeq _) (sn_ifeq (jm_dc dc_48_1 11 rfl) (by decide)) (
  jm_gc (pu_iload _ _) (sn_iload (jm_dc dc_48_1 12 rfl)) (
  jm_gc (pu_iload _ _) (sn_iload (jm_dc dc_48_1 13 rfl)) (
  jm_gc (pu_ibin _) (sn_ior (jm_dc dc_48_1 14 rfl)) (
  jm_gc (pu_istore _ _) (sn_istore (jm_dc dc_48_1 15 rfl)) (
  jm_gc (pu_iinc _ _) (sn_iinc (jm_dc dc_48_1 16 rfl) (by decide)) (
  jm_gc (pu_goto _) (sn_goto (jm_dc dc_48_1 17 rfl) (by decide)) (
  jm_gc (pu_iload _ _) (sn_iload (jm_dc dc_48_1 18 rfl)) (
  jm_gc (pu_iload _ _) (sn_iload (jm_dc dc_48_1 19 rfl)) (
  jm_gc (pu_cne _) (sn_cne (jm_dc dc_48_1 20 rfl) (by decide)) (
  jm_gc (pu_iload _ _) (sn_iload (jm_dc dc_48_1 21 rfl)) (
  jm_gc (pu_iret) (sn_iret (jm_dc dc_48_1 22 rfl) rfl) (
  jm_gc (pu_iinc _ _) (sn_iinc (jm_dc dc_48_1 23 rfl) (by decide)) (
  jm_gc (pu_goto _) (sn_goto (jm_dc dc_48_1 24 rfl) (by decide)) (
  jm_gn)))))))))))))))))))))))))
theorem dc_48_2 : ([(96, .iload 4, 2), (98, .ireturn, 1)] : List (Nat × Instr × Nat)).all (fun e => decide (decode prog_6_method_9_code e.1 = .ok e.2)) = true := by decide +kernel
abbrev cl_48_2 : List (Nat × jm_O) := [(96, op_iload 4 2), (98, op_iret)]
set_option maxRecDepth 100000 in
theorem gl_48_2 : jm_gl "FrescoWall$Joins" prog_6_method_9_code 9 (Option.some Jvm.ClassFile.FieldType.int) false cl_48_2 :=
  jm_gc (pu_iload _ _) (sn_iload (jm_dc dc_48_2 0 rfl)) (
  jm_gc (pu_iret) (sn_iret (jm_dc dc_48_2 1 rfl) rfl) (
  jm_gn))
theorem dc_49_0 : ([(0, .iconst 0, 1), (1, .istore_n 2, 1), (2, .iconst 0, 1), (3, .istore_n 3, 1), (4, .iload_n 3, 1), (5, .aload_n 0, 1), (6, .getfield 33, 3), (9, .if_icmp .ge 43, 3), (12, .aload_n 0, 1), (13, .getfield 37, 3), (16, .iload_n 3, 1), (17, .invokestatic 41, 3), (20, .ifCond .eq 26, 3), (23, .aload_n 0, 1), (24, .getfield 9, 3), (27, .iload_n 3, 1), (28, .iaload, 1), (29, .iload_n 1, 1), (30, .if_icmp .eq 13, 3), (33, .aload_n 0, 1), (34, .getfield 18, 3), (37, .iload_n 3, 1), (38, .iaload, 1), (39, .iload_n 1, 1), (40, .if_icmp .ne 6, 3)] : List (Nat × Instr × Nat)).all (fun e => decide (decode prog_6_method_10_code e.1 = .ok e.2)) = true := by decide +kernel
abbrev cl_49_0 : List (Nat × jm_O) := [(0, op_ic 0 1), (1, op_istore 2 1), (2, op_ic 0 1), (3, op_istore 3 1), (4, op_iload 3 1), (5, op_aload 0 1), (6, op_getI 4 4), (9, op_cge 52), (12, op_aload 0 1), (13, op_getJ 4 5), (16, op_iload 3 1), (17, op_callS 43 2), (20, op_ifeq 46), (23, op_aload 0 1), (24, op_getA 4 0), (27, op_iload 3 1), (28, op_iald 13), (29, op_iload 1 1), (30, op_ceq 43), (33, op_aload 0 1), (34, op_getA 4 2), (37, op_iload 3 1), (38, op_iald 13), (39, op_iload 1 1), (40, op_cne 46)]
set_option maxRecDepth 100000 in
theorem gl_49_0 : jm_gl "FrescoWall$Joins" prog_6_method_10_code 4 (Option.some Jvm.ClassFile.FieldType.int) false cl_49_0 :=
  jm_gc (pu_ic _ _) (sn_iconst (jm_dc dc_49_0 0 rfl) (by decide)) (
  jm_gc (pu_istore _ _) (sn_istore_n (i := 2) (jm_dc dc_49_0 1 rfl)) (
  jm_gc (pu_ic _ _) (sn_iconst (jm_dc dc_49_0 2 rfl) (by decide)) (
  jm_gc (pu_istore _ _) (sn_istore_n (i := 3) (jm_dc dc_49_0 3 rfl)) (
  jm_gc (pu_iload _ _) (sn_iload_n (i := 3) (jm_dc dc_49_0 4 rfl)) (
  jm_gc (pu_aload _ _) (sn_aload_n (i := 0) (jm_dc dc_49_0 5 rfl)) (
  jm_gc (pu_getI _ _) (sn_getI (jm_dc dc_49_0 6 rfl) fl_4_33 (Or.inl rfl)) (
  jm_gc (pu_cge _) (sn_cge (jm_dc dc_49_0 7 rfl) (by decide)) (
  jm_gc (pu_aload _ _) (sn_aload_n (i := 0) (jm_dc dc_49_0 8 rfl)) (
  jm_gc (pu_getJ _ _) (sn_getJ (jm_dc dc_49_0 9 rfl) fl_4_37 rfl) (
  jm_gc (pu_iload _ _) (sn_iload_n (i := 3) (jm_dc dc_49_0 10 rfl)) (
  jm_gc (pu_callS _ _) (sn_callS (jm_dc dc_49_0 11 rfl) lk_4_41) (
  jm_gc (pu_ifeq _) (sn_ifeq (jm_dc dc_49_0 12 rfl) (by decide)) (
  jm_gc (pu_aload _ _) (sn_aload_n (i := 0) (jm_dc dc_49_0 13 rfl)) (
  jm_gc (pu_getA _ _) (sn_getA (jm_dc dc_49_0 14 rfl) fl_4_9 rfl) (
  jm_gc (pu_iload _ _) (sn_iload_n (i := 3) (jm_dc dc_49_0 15 rfl)) (
  jm_gc (pu_iald _) (sn_iald (jm_dc dc_49_0 16 rfl)) (
  jm_gc (pu_iload _ _) (sn_iload_n (i := 1) (jm_dc dc_49_0 17 rfl)) (
  jm_gc (pu_ceq _) (sn_ceq (jm_dc dc_49_0 18 rfl) (by decide)) (
  jm_gc (pu_aload _ _) (sn_aload_n (i := 0) (jm_dc dc_49_0 19 rfl)) (
  jm_gc (pu_getA _ _) (sn_getA (jm_dc dc_49_0 20 rfl) fl_4_18 rfl) (
  jm_gc (pu_iload _ _) (sn_iload_n (i := 3) (jm_dc dc_49_0 21 rfl)) (
  jm_gc (pu_iald _) (sn_iald (jm_dc dc_49_0 22 rfl)) (
  jm_gc (pu_iload _ _) (sn_iload_n (i := 1) (jm_dc dc_49_0 23 rfl)) (
  jm_gc (pu_cne _) (sn_cne (jm_dc dc_49_0 24 rfl) (by decide)) (
  jm_gn)))))))))))))))))))))))))
theorem dc_49_1 : ([(43, .iinc 2 1, 3), (46, .iinc 3 1, 3), (49, .goto (-45), 3), (52, .iload_n 2, 1), (53, .ireturn, 1)] : List (Nat × Instr × Nat)).all (fun e => decide (decode prog_6_method_10_code e.1 = .ok e.2)) = true := by decide +kernel
abbrev cl_49_1 : List (Nat × jm_O) := [(43, op_iinc 2 1), (46, op_iinc 3 1), (49, op_goto 4), (52, op_iload 2 1), (53, op_iret)]
set_option maxRecDepth 100000 in
theorem gl_49_1 : jm_gl "FrescoWall$Joins" prog_6_method_10_code 4 (Option.some Jvm.ClassFile.FieldType.int) false cl_49_1 :=
  jm_gc (pu_iinc _ _) (sn_iinc (jm_dc dc_49_1 0 rfl) (by decide)) (
  jm_gc (pu_iinc _ _) (sn_iinc (jm_dc dc_49_1 1 rfl) (by decide)) (
  jm_gc (pu_goto _) (sn_goto (jm_dc dc_49_1 2 rfl) (by decide)) (
  jm_gc (pu_iload _ _) (sn_iload_n (i := 2) (jm_dc dc_49_1 3 rfl)) (
  jm_gc (pu_iret) (sn_iret (jm_dc dc_49_1 4 rfl) rfl) (
  jm_gn)))))
theorem dc_50_0 : ([(0, .iconst 0, 1), (1, .istore_n 2, 1), (2, .iconst 0, 1), (3, .istore_n 3, 1), (4, .iload_n 3, 1), (5, .aload_n 0, 1), (6, .getfield 33, 3), (9, .if_icmp .ge 36, 3), (12, .aload_n 0, 1), (13, .getfield 37, 3), (16, .iload_n 3, 1), (17, .invokestatic 41, 3), (20, .ifCond .eq 19, 3), (23, .iload_n 1, 1), (24, .aload_n 0, 1), (25, .getfield 9, 3), (28, .iload_n 3, 1), (29, .iaload, 1), (30, .ishr, 1), (31, .iconst 1, 1), (32, .iand, 1), (33, .ifCond .eq 6, 3), (36, .iinc 2 1, 3), (39, .iinc 3 1, 3), (42, .goto (-38), 3)] : List (Nat × Instr × Nat)).all (fun e => decide (decode prog_6_method_11_code e.1 = .ok e.2)) = true := by decide +kernel
abbrev cl_50_0 : List (Nat × jm_O) := [(0, op_ic 0 1), (1, op_istore 2 1), (2, op_ic 0 1), (3, op_istore 3 1), (4, op_iload 3 1), (5, op_aload 0 1), (6, op_getI 4 4), (9, op_cge 45), (12, op_aload 0 1), (13, op_getJ 4 5), (16, op_iload 3 1), (17, op_callS 43 2), (20, op_ifeq 39), (23, op_iload 1 1), (24, op_aload 0 1), (25, op_getA 4 0), (28, op_iload 3 1), (29, op_iald 13), (30, op_ibin (fun x y => x >>> (y &&& 31))), (31, op_ic 1 1), (32, op_ibin (fun x y => x &&& y)), (33, op_ifeq 39), (36, op_iinc 2 1), (39, op_iinc 3 1), (42, op_goto 4)]
set_option maxRecDepth 100000 in
theorem gl_50_0 : jm_gl "FrescoWall$Joins" prog_6_method_11_code 4 (Option.some Jvm.ClassFile.FieldType.int) false cl_50_0 :=
  jm_gc (pu_ic _ _) (sn_iconst (jm_dc dc_50_0 0 rfl) (by decide)) (
  jm_gc (pu_istore _ _) (sn_istore_n (i := 2) (jm_dc dc_50_0 1 rfl)) (
  jm_gc (pu_ic _ _) (sn_iconst (jm_dc dc_50_0 2 rfl) (by decide)) (
  jm_gc (pu_istore _ _) (sn_istore_n (i := 3) (jm_dc dc_50_0 3 rfl)) (
  jm_gc (pu_iload _ _) (sn_iload_n (i := 3) (jm_dc dc_50_0 4 rfl)) (
  jm_gc (pu_aload _ _) (sn_aload_n (i := 0) (jm_dc dc_50_0 5 rfl)) (
  jm_gc (pu_getI _ _) (sn_getI (jm_dc dc_50_0 6 rfl) fl_4_33 (Or.inl rfl)) (
  jm_gc (pu_cge _) (sn_cge (jm_dc dc_50_0 7 rfl) (by decide)) (
  jm_gc (pu_aload _ _) (sn_aload_n (i := 0) (jm_dc dc_50_0 8 rfl)) (
  jm_gc (pu_getJ _ _) (sn_getJ (jm_dc dc_50_0 9 rfl) fl_4_37 rfl) (
  jm_gc (pu_iload _ _) (sn_iload_n (i := 3) (jm_dc dc_50_0 10 rfl)) (
  jm_gc (pu_callS _ _) (sn_callS (jm_dc dc_50_0 11 rfl) lk_4_41) (
  jm_gc (pu_ifeq _) (sn_ifeq (jm_dc dc_50_0 12 rfl) (by decide)) (
  jm_gc (pu_iload _ _) (sn_iload_n (i := 1) (jm_dc dc_50_0 13 rfl)) (
  jm_gc (pu_aload _ _) (sn_aload_n (i := 0) (jm_dc dc_50_0 14 rfl)) (
  jm_gc (pu_getA _ _) (sn_getA (jm_dc dc_50_0 15 rfl) fl_4_9 rfl) (
  jm_gc (pu_iload _ _) (sn_iload_n (i := 3) (jm_dc dc_50_0 16 rfl)) (
  jm_gc (pu_iald _) (sn_iald (jm_dc dc_50_0 17 rfl)) (
  jm_gc (pu_ibin _) (sn_ishr (jm_dc dc_50_0 18 rfl)) (
  jm_gc (pu_ic _ _) (sn_iconst (jm_dc dc_50_0 19 rfl) (by decide)) (
  jm_gc (pu_ibin _) (sn_iand (jm_dc dc_50_0 20 rfl)) (
  jm_gc (pu_ifeq _) (sn_ifeq (jm_dc dc_50_0 21 rfl) (by decide)) (
  jm_gc (pu_iinc _ _) (sn_iinc (jm_dc dc_50_0 22 rfl) (by decide)) (
  jm_gc (pu_iinc _ _) (sn_iinc (jm_dc dc_50_0 23 rfl) (by decide)) (
  jm_gc (pu_goto _) (sn_goto (jm_dc dc_50_0 24 rfl) (by decide)) (
  jm_gn)))))))))))))))))))))))))
theorem dc_50_1 : ([(45, .iload_n 2, 1), (46, .ireturn, 1)] : List (Nat × Instr × Nat)).all (fun e => decide (decode prog_6_method_11_code e.1 = .ok e.2)) = true := by decide +kernel
abbrev cl_50_1 : List (Nat × jm_O) := [(45, op_iload 2 1), (46, op_iret)]
set_option maxRecDepth 100000 in
theorem gl_50_1 : jm_gl "FrescoWall$Joins" prog_6_method_11_code 4 (Option.some Jvm.ClassFile.FieldType.int) false cl_50_1 :=
  jm_gc (pu_iload _ _) (sn_iload_n (i := 2) (jm_dc dc_50_1 0 rfl)) (
  jm_gc (pu_iret) (sn_iret (jm_dc dc_50_1 1 rfl) rfl) (
  jm_gn))
theorem dc_51_0 : ([(0, .iconst 0, 1), (1, .istore_n 2, 1), (2, .iconst 0, 1), (3, .istore_n 3, 1), (4, .iload_n 3, 1), (5, .iload_n 1, 1), (6, .if_icmp .ge 25, 3), (9, .aload_n 0, 1), (10, .getfield 24, 3), (13, .iload_n 3, 1), (14, .iaload, 1), (15, .invokestatic 55, 3), (18, .iload_n 3, 1), (19, .if_icmp .ne 6, 3), (22, .iinc 2 1, 3), (25, .iinc 3 1, 3), (28, .goto (-24), 3), (31, .iload_n 2, 1), (32, .ireturn, 1)] : List (Nat × Instr × Nat)).all (fun e => decide (decode prog_6_method_12_code e.1 = .ok e.2)) = true := by decide +kernel
abbrev cl_51_0 : List (Nat × jm_O) := [(0, op_ic 0 1), (1, op_istore 2 1), (2, op_ic 0 1), (3, op_istore 3 1), (4, op_iload 3 1), (5, op_iload 1 1), (6, op_cge 31), (9, op_aload 0 1), (10, op_getA 4 6), (13, op_iload 3 1), (14, op_iald 13), (15, op_callS 319 1), (18, op_iload 3 1), (19, op_cne 25), (22, op_iinc 2 1), (25, op_iinc 3 1), (28, op_goto 4), (31, op_iload 2 1), (32, op_iret)]
set_option maxRecDepth 100000 in
theorem gl_51_0 : jm_gl "FrescoWall$Joins" prog_6_method_12_code 4 (Option.some Jvm.ClassFile.FieldType.int) false cl_51_0 :=
  jm_gc (pu_ic _ _) (sn_iconst (jm_dc dc_51_0 0 rfl) (by decide)) (
  jm_gc (pu_istore _ _) (sn_istore_n (i := 2) (jm_dc dc_51_0 1 rfl)) (
  jm_gc (pu_ic _ _) (sn_iconst (jm_dc dc_51_0 2 rfl) (by decide)) (
  jm_gc (pu_istore _ _) (sn_istore_n (i := 3) (jm_dc dc_51_0 3 rfl)) (
  jm_gc (pu_iload _ _) (sn_iload_n (i := 3) (jm_dc dc_51_0 4 rfl)) (
  jm_gc (pu_iload _ _) (sn_iload_n (i := 1) (jm_dc dc_51_0 5 rfl)) (
  jm_gc (pu_cge _) (sn_cge (jm_dc dc_51_0 6 rfl) (by decide)) (
  jm_gc (pu_aload _ _) (sn_aload_n (i := 0) (jm_dc dc_51_0 7 rfl)) (
  jm_gc (pu_getA _ _) (sn_getA (jm_dc dc_51_0 8 rfl) fl_4_24 rfl) (
  jm_gc (pu_iload _ _) (sn_iload_n (i := 3) (jm_dc dc_51_0 9 rfl)) (
  jm_gc (pu_iald _) (sn_iald (jm_dc dc_51_0 10 rfl)) (
  jm_gc (pu_callS _ _) (sn_callS (jm_dc dc_51_0 11 rfl) lk_4_55) (
  jm_gc (pu_iload _ _) (sn_iload_n (i := 3) (jm_dc dc_51_0 12 rfl)) (
  jm_gc (pu_cne _) (sn_cne (jm_dc dc_51_0 13 rfl) (by decide)) (
  jm_gc (pu_iinc _ _) (sn_iinc (jm_dc dc_51_0 14 rfl) (by decide)) (
  jm_gc (pu_iinc _ _) (sn_iinc (jm_dc dc_51_0 15 rfl) (by decide)) (
  jm_gc (pu_goto _) (sn_goto (jm_dc dc_51_0 16 rfl) (by decide)) (
  jm_gc (pu_iload _ _) (sn_iload_n (i := 2) (jm_dc dc_51_0 17 rfl)) (
  jm_gc (pu_iret) (sn_iret (jm_dc dc_51_0 18 rfl) rfl) (
  jm_gn)))))))))))))))))))
theorem dc_52_0 : ([(0, .iconst 0, 1), (1, .istore 4, 2), (3, .iload 4, 2), (5, .bipush 30, 2), (7, .if_icmp .ge 17, 3), (10, .aload_n 0, 1), (11, .getfield 27, 3), (14, .iload 4, 2), (16, .iconst (-1), 1), (17, .iastore, 1), (18, .iinc 4 1, 3), (21, .goto (-18), 3), (24, .aload_n 0, 1), (25, .getfield 27, 3), (28, .iload_n 1, 1), (29, .iconst 0, 1), (30, .iastore, 1), (31, .iconst 0, 1), (32, .istore 4, 2), (34, .iload 4, 2), (36, .bipush 30, 2), (38, .if_icmp .ge 76, 3), (41, .iconst 0, 1), (42, .istore 5, 2), (44, .iload 5, 2)] : List (Nat × Instr × Nat)).all (fun e => decide (decode prog_6_method_13_code e.1 = .ok e.2)) = true := by decide +kernel
abbrev cl_52_0 : List (Nat × jm_O) := [(0, op_ic 0 1), (1, op_istore 4 2), (3, op_iload 4 2), (5, op_ic 30 2), (7, op_cge 24), (10, op_aload 0 1), (11, op_getA 4 7), (14, op_iload 4 2), (16, op_ic (-1) 1), (17, op_iast), (18, op_iinc 4 1), (21, op_goto 3), (24, op_aload 0 1), (25, op_getA 4 7), (28, op_iload 1 1), (29, op_ic 0 1), (30, op_iast), (31, op_ic 0 1), (32, op_istore 4 2), (34, op_iload 4 2), (36, op_ic 30 2), (38, op_cge 114), (41, op_ic 0 1), (42, op_istore 5 2), (44, op_iload 5 2)]
set_option maxRecDepth 100000 in
theorem gl_52_0 : jm_gl "FrescoWall$Joins" prog_6_method_13_code 6 (Option.none : Option Jvm.ClassFile.FieldType) false cl_52_0 :=
  jm_gc (pu_ic _ _) (sn_iconst (jm_dc dc_52_0 0 rfl) (by decide)) (
  jm_gc (pu_istore _ _) (sn_istore (jm_dc dc_52_0 1 rfl)) (
  jm_gc (pu_iload _ _) (sn_iload (jm_dc dc_52_0 2 rfl)) (
  jm_gc (pu_ic _ _) (sn_bipush (jm_dc dc_52_0 3 rfl) (by decide)) (
  jm_gc (pu_cge _) (sn_cge (jm_dc dc_52_0 4 rfl) (by decide)) (
  jm_gc (pu_aload _ _) (sn_aload_n (i := 0) (jm_dc dc_52_0 5 rfl)) (
  jm_gc (pu_getA _ _) (sn_getA (jm_dc dc_52_0 6 rfl) fl_4_27 rfl) (
  jm_gc (pu_iload _ _) (sn_iload (jm_dc dc_52_0 7 rfl)) (
  jm_gc (pu_ic _ _) (sn_iconst (jm_dc dc_52_0 8 rfl) (by decide)) (
  jm_gc (pu_iast) (sn_iast (jm_dc dc_52_0 9 rfl)) (
  jm_gc (pu_iinc _ _) (sn_iinc (jm_dc dc_52_0 10 rfl) (by decide)) (
  jm_gc (pu_goto _) (sn_goto (jm_dc dc_52_0 11 rfl) (by decide)) (
  jm_gc (pu_aload _ _) (sn_aload_n (i := 0) (jm_dc dc_52_0 12 rfl)) (
  jm_gc (pu_getA _ _) (sn_getA (jm_dc dc_52_0 13 rfl) fl_4_27 rfl) (
  jm_gc (pu_iload _ _) (sn_iload_n (i := 1) (jm_dc dc_52_0 14 rfl)) (
  jm_gc (pu_ic _ _) (sn_iconst (jm_dc dc_52_0 15 rfl) (by decide)) (
  jm_gc (pu_iast) (sn_iast (jm_dc dc_52_0 16 rfl)) (
  jm_gc (pu_ic _ _) (sn_iconst (jm_dc dc_52_0 17 rfl) (by decide)) (
  jm_gc (pu_istore _ _) (sn_istore (jm_dc dc_52_0 18 rfl)) (
  jm_gc (pu_iload _ _) (sn_iload (jm_dc dc_52_0 19 rfl)) (
  jm_gc (pu_ic _ _) (sn_bipush (jm_dc dc_52_0 20 rfl) (by decide)) (
  jm_gc (pu_cge _) (sn_cge (jm_dc dc_52_0 21 rfl) (by decide)) (
  jm_gc (pu_ic _ _) (sn_iconst (jm_dc dc_52_0 22 rfl) (by decide)) (
  jm_gc (pu_istore _ _) (sn_istore (jm_dc dc_52_0 23 rfl)) (
  jm_gc (pu_iload _ _) (sn_iload (jm_dc dc_52_0 24 rfl)) (
  jm_gn)))))))))))))))))))))))))
theorem dc_52_1 : ([(46, .aload_n 0, 1), (47, .getfield 33, 3), (50, .if_icmp .ge 58, 3), (53, .lload_n 2, 1), (54, .iload 5, 2), (56, .invokestatic 41, 3), (59, .ifCond .eq 43, 3), (62, .aload_n 0, 1), (63, .aload_n 0, 1), (64, .getfield 9, 3), (67, .iload 5, 2), (69, .iaload, 1), (70, .aload_n 0, 1), (71, .getfield 18, 3), (74, .iload 5, 2), (76, .iaload, 1), (77, .iload 4, 2), (79, .invokevirtual 61, 3), (82, .aload_n 0, 1), (83, .aload_n 0, 1), (84, .getfield 18, 3), (87, .iload 5, 2), (89, .iaload, 1), (90, .aload_n 0, 1), (91, .getfield 9, 3)] : List (Nat × Instr × Nat)).all (fun e => decide (decode prog_6_method_13_code e.1 = .ok e.2)) = true := by decide +kernel
abbrev cl_52_1 : List (Nat × jm_O) := [(46, op_aload 0 1), (47, op_getI 4 4), (50, op_cge 108), (53, op_lload 2 1), (54, op_iload 5 2), (56, op_callS 43 2), (59, op_ifeq 102), (62, op_aload 0 1), (63, op_aload 0 1), (64, op_getA 4 0), (67, op_iload 5 2), (69, op_iald 13), (70, op_aload 0 1), (71, op_getA 4 2), (74, op_iload 5 2), (76, op_iald 13), (77, op_iload 4 2), (79, op_callV 4 53 4), (82, op_aload 0 1), (83, op_aload 0 1), (84, op_getA 4 2), (87, op_iload 5 2), (89, op_iald 13), (90, op_aload 0 1), (91, op_getA 4 0)]
set_option maxRecDepth 100000 in
theorem gl_52_1 : jm_gl "FrescoWall$Joins" prog_6_method_13_code 6 (Option.none : Option Jvm.ClassFile.FieldType) false cl_52_1 :=
  jm_gc (pu_aload _ _) (sn_aload_n (i := 0) (jm_dc dc_52_1 0 rfl)) (
  jm_gc (pu_getI _ _) (sn_getI (jm_dc dc_52_1 1 rfl) fl_4_33 (Or.inl rfl)) (
  jm_gc (pu_cge _) (sn_cge (jm_dc dc_52_1 2 rfl) (by decide)) (
  jm_gc (pu_lload _ _) (sn_lload_n (i := 2) (jm_dc dc_52_1 3 rfl)) (
  jm_gc (pu_iload _ _) (sn_iload (jm_dc dc_52_1 4 rfl)) (
  jm_gc (pu_callS _ _) (sn_callS (jm_dc dc_52_1 5 rfl) lk_4_41) (
  jm_gc (pu_ifeq _) (sn_ifeq (jm_dc dc_52_1 6 rfl) (by decide)) (
  jm_gc (pu_aload _ _) (sn_aload_n (i := 0) (jm_dc dc_52_1 7 rfl)) (
  jm_gc (pu_aload _ _) (sn_aload_n (i := 0) (jm_dc dc_52_1 8 rfl)) (
  jm_gc (pu_getA _ _) (sn_getA (jm_dc dc_52_1 9 rfl) fl_4_9 rfl) (
  jm_gc (pu_iload _ _) (sn_iload (jm_dc dc_52_1 10 rfl)) (
  jm_gc (pu_iald _) (sn_iald (jm_dc dc_52_1 11 rfl)) (
  jm_gc (pu_aload _ _) (sn_aload_n (i := 0) (jm_dc dc_52_1 12 rfl)) (
  jm_gc (pu_getA _ _) (sn_getA (jm_dc dc_52_1 13 rfl) fl_4_18 rfl) (
  jm_gc (pu_iload _ _) (sn_iload (jm_dc dc_52_1 14 rfl)) (
  jm_gc (pu_iald _) (sn_iald (jm_dc dc_52_1 15 rfl)) (
  jm_gc (pu_iload _ _) (sn_iload (jm_dc dc_52_1 16 rfl)) (
  jm_gc (pu_callV _ _ _) (sn_callV (jm_dc dc_52_1 17 rfl) lk_4_61) (
  jm_gc (pu_aload _ _) (sn_aload_n (i := 0) (jm_dc dc_52_1 18 rfl)) (
  jm_gc (pu_aload _ _) (sn_aload_n (i := 0) (jm_dc dc_52_1 19 rfl)) (
  jm_gc (pu_getA _ _) (sn_getA (jm_dc dc_52_1 20 rfl) fl_4_18 rfl) (
  jm_gc (pu_iload _ _) (sn_iload (jm_dc dc_52_1 21 rfl)) (
  jm_gc (pu_iald _) (sn_iald (jm_dc dc_52_1 22 rfl)) (
  jm_gc (pu_aload _ _) (sn_aload_n (i := 0) (jm_dc dc_52_1 23 rfl)) (
  jm_gc (pu_getA _ _) (sn_getA (jm_dc dc_52_1 24 rfl) fl_4_9 rfl) (
  jm_gn)))))))))))))))))))))))))
theorem dc_52_2 : ([(94, .iload 5, 2), (96, .iaload, 1), (97, .iload 4, 2), (99, .invokevirtual 61, 3), (102, .iinc 5 1, 3), (105, .goto (-61), 3), (108, .iinc 4 1, 3), (111, .goto (-77), 3), (114, .return_, 1)] : List (Nat × Instr × Nat)).all (fun e => decide (decode prog_6_method_13_code e.1 = .ok e.2)) = true := by decide +kernel
abbrev cl_52_2 : List (Nat × jm_O) := [(94, op_iload 5 2), (96, op_iald 13), (97, op_iload 4 2), (99, op_callV 4 53 4), (102, op_iinc 5 1), (105, op_goto 44), (108, op_iinc 4 1), (111, op_goto 34), (114, op_vret)]
set_option maxRecDepth 100000 in
theorem gl_52_2 : jm_gl "FrescoWall$Joins" prog_6_method_13_code 6 (Option.none : Option Jvm.ClassFile.FieldType) false cl_52_2 :=
  jm_gc (pu_iload _ _) (sn_iload (jm_dc dc_52_2 0 rfl)) (
  jm_gc (pu_iald _) (sn_iald (jm_dc dc_52_2 1 rfl)) (
  jm_gc (pu_iload _ _) (sn_iload (jm_dc dc_52_2 2 rfl)) (
  jm_gc (pu_callV _ _ _) (sn_callV (jm_dc dc_52_2 3 rfl) lk_4_61) (
  jm_gc (pu_iinc _ _) (sn_iinc (jm_dc dc_52_2 4 rfl) (by decide)) (
  jm_gc (pu_goto _) (sn_goto (jm_dc dc_52_2 5 rfl) (by decide)) (
  jm_gc (pu_iinc _ _) (sn_iinc (jm_dc dc_52_2 6 rfl) (by decide)) (
  jm_gc (pu_goto _) (sn_goto (jm_dc dc_52_2 7 rfl) (by decide)) (
  jm_gc (pu_vret) (sn_vret (jm_dc dc_52_2 8 rfl) rfl) (
  jm_gn)))))))))
theorem dc_53_0 : ([(0, .aload_n 0, 1), (1, .getfield 27, 3), (4, .iload_n 1, 1), (5, .iaload, 1), (6, .iload_n 3, 1), (7, .if_icmp .ne 21, 3), (10, .aload_n 0, 1), (11, .getfield 27, 3), (14, .iload_n 2, 1), (15, .iaload, 1), (16, .ifCond .ge 12, 3), (19, .aload_n 0, 1), (20, .getfield 27, 3), (23, .iload_n 2, 1), (24, .iload_n 3, 1), (25, .iconst 1, 1), (26, .iadd, 1), (27, .iastore, 1), (28, .return_, 1)] : List (Nat × Instr × Nat)).all (fun e => decide (decode prog_6_method_14_code e.1 = .ok e.2)) = true := by decide +kernel
abbrev cl_53_0 : List (Nat × jm_O) := [(0, op_aload 0 1), (1, op_getA 4 7), (4, op_iload 1 1), (5, op_iald 13), (6, op_iload 3 1), (7, op_cne 28), (10, op_aload 0 1), (11, op_getA 4 7), (14, op_iload 2 1), (15, op_iald 13), (16, op_ifge 28), (19, op_aload 0 1), (20, op_getA 4 7), (23, op_iload 2 1), (24, op_iload 3 1), (25, op_ic 1 1), (26, op_ibin (fun x y => x + y)), (27, op_iast), (28, op_vret)]
set_option maxRecDepth 100000 in
theorem gl_53_0 : jm_gl "FrescoWall$Joins" prog_6_method_14_code 4 (Option.none : Option Jvm.ClassFile.FieldType) false cl_53_0 :=
  jm_gc (pu_aload _ _) (sn_aload_n (i := 0) (jm_dc dc_53_0 0 rfl)) (
  jm_gc (pu_getA _ _) (sn_getA (jm_dc dc_53_0 1 rfl) fl_4_27 rfl) (
  jm_gc (pu_iload _ _) (sn_iload_n (i := 1) (jm_dc dc_53_0 2 rfl)) (
  jm_gc (pu_iald _) (sn_iald (jm_dc dc_53_0 3 rfl)) (
  jm_gc (pu_iload _ _) (sn_iload_n (i := 3) (jm_dc dc_53_0 4 rfl)) (
  jm_gc (pu_cne _) (sn_cne (jm_dc dc_53_0 5 rfl) (by decide)) (
  jm_gc (pu_aload _ _) (sn_aload_n (i := 0) (jm_dc dc_53_0 6 rfl)) (
  jm_gc (pu_getA _ _) (sn_getA (jm_dc dc_53_0 7 rfl) fl_4_27 rfl) (
  jm_gc (pu_iload _ _) (sn_iload_n (i := 2) (jm_dc dc_53_0 8 rfl)) (
  jm_gc (pu_iald _) (sn_iald (jm_dc dc_53_0 9 rfl)) (
  jm_gc (pu_ifge _) (sn_ifge (jm_dc dc_53_0 10 rfl) (by decide)) (
  jm_gc (pu_aload _ _) (sn_aload_n (i := 0) (jm_dc dc_53_0 11 rfl)) (
  jm_gc (pu_getA _ _) (sn_getA (jm_dc dc_53_0 12 rfl) fl_4_27 rfl) (
  jm_gc (pu_iload _ _) (sn_iload_n (i := 2) (jm_dc dc_53_0 13 rfl)) (
  jm_gc (pu_iload _ _) (sn_iload_n (i := 3) (jm_dc dc_53_0 14 rfl)) (
  jm_gc (pu_ic _ _) (sn_iconst (jm_dc dc_53_0 15 rfl) (by decide)) (
  jm_gc (pu_ibin _) (sn_iadd (jm_dc dc_53_0 16 rfl)) (
  jm_gc (pu_iast) (sn_iast (jm_dc dc_53_0 17 rfl)) (
  jm_gc (pu_vret) (sn_vret (jm_dc dc_53_0 18 rfl) rfl) (
  jm_gn)))))))))))))))))))
theorem dc_54_0 : ([(0, .iload_n 1, 1), (1, .istore 4, 2), (3, .iconst 0, 1), (4, .istore 5, 2), (6, .aload_n 0, 1), (7, .getfield 27, 3), (10, .iload_n 1, 1), (11, .iaload, 1), (12, .iconst 1, 1), (13, .isub, 1), (14, .istore 6, 2), (16, .iload 6, 2), (18, .ifCond .lt 86, 3), (21, .iconst 0, 1), (22, .istore 7, 2), (24, .iload 7, 2), (26, .aload_n 0, 1), (27, .getfield 33, 3), (30, .if_icmp .ge 68, 3), (33, .lload_n 2, 1), (34, .iload 7, 2), (36, .invokestatic 41, 3), (39, .ifCond .eq 14, 3), (42, .aload_n 0, 1), (43, .iload 7, 2)] : List (Nat × Instr × Nat)).all (fun e => decide (decode prog_6_method_15_code e.1 = .ok e.2)) = true := by decide +kernel
abbrev cl_54_0 : List (Nat × jm_O) := [(0, op_iload 1 1), (1, op_istore 4 2), (3, op_ic 0 1), (4, op_istore 5 2), (6, op_aload 0 1), (7, op_getA 4 7), (10, op_iload 1 1), (11, op_iald 13), (12, op_ic 1 1), (13, op_ibin (fun x y => x - y)), (14, op_istore 6 2), (16, op_iload 6 2), (18, op_iflt 104), (21, op_ic 0 1), (22, op_istore 7 2), (24, op_iload 7 2), (26, op_aload 0 1), (27, op_getI 4 4), (30, op_cge 98), (33, op_lload 2 1), (34, op_iload 7 2), (36, op_callS 43 2), (39, op_ifeq 53), (42, op_aload 0 1), (43, op_iload 7 2)]
set_option maxRecDepth 100000 in
theorem gl_54_0 : jm_gl "FrescoWall$Joins" prog_6_method_15_code 9 (Option.some Jvm.ClassFile.FieldType.int) false cl_54_0 :=
  jm_gc (pu_iload _ _) (sn_iload_n (i := 1) (jm_dc dc_54_0 0 rfl)) (
  jm_gc (pu_istore _ _) (sn_istore (jm_dc dc_54_0 1 rfl)) (
  jm_gc (pu_ic _ _) (sn_iconst (jm_dc dc_54_0 2 rfl) (by decide)) (
  jm_gc (pu_istore _ _) (sn_istore (jm_dc dc_54_0 3 rfl)) (
  jm_gc (pu_aload _ _) (sn_aload_n (i := 0) (jm_dc dc_54_0 4 rfl)) (
  jm_gc (pu_getA _ _) (sn_getA (jm_dc dc_54_0 5 rfl) fl_4_27 rfl) (
  jm_gc (pu_iload _ _) (sn_iload_n (i := 1) (jm_dc dc_54_0 6 rfl)) (
  jm_gc (pu_iald _) (sn_iald (jm_dc dc_54_0 7 rfl)) (
  jm_gc (pu_ic _ _) (sn_iconst (jm_dc dc_54_0 8 rfl) (by decide)) (
  jm_gc (pu_ibin _) (sn_isub (jm_dc dc_54_0 9 rfl)) (
  jm_gc (pu_istore _ _) (sn_istore (jm_dc dc_54_0 10 rfl)) (
  jm_gc (pu_iload _ _) (sn_iload (jm_dc dc_54_0 11 rfl)) (
  jm_gc (pu_iflt _) (sn_iflt (jm_dc dc_54_0 12 rfl) (by decide)) (
  jm_gc (pu_ic _ _) (sn_iconst (jm_dc dc_54_0 13 rfl) (by decide)) (
  jm_gc (pu_istore _ _) (sn_istore (jm_dc dc_54_0 14 rfl)) (
  jm_gc (pu_iload _ _) (sn_iload (jm_dc dc_54_0 15 rfl)) (
  jm_gc (pu_aload _ _) (sn_aload_n (i := 0) (jm_dc dc_54_0 16 rfl)) (
  jm_gc (pu_getI _ _) (sn_getI (jm_dc dc_54_0 17 rfl) fl_4_33 (Or.inl rfl)) (
  jm_gc (pu_cge _) (sn_cge (jm_dc dc_54_0 18 rfl) (by decide)) (
  jm_gc (pu_lload _ _) (sn_lload_n (i := 2) (jm_dc dc_54_0 19 rfl)) (
  jm_gc (pu_iload _ _) (sn_iload (jm_dc dc_54_0 20 rfl)) (
  jm_gc (pu_callS _ _) (sn_callS (jm_dc dc_54_0 21 rfl) lk_4_41) (
  jm_gc (pu_ifeq _) (sn_ifeq (jm_dc dc_54_0 22 rfl) (by decide)) (
  jm_gc (pu_aload _ _) (sn_aload_n (i := 0) (jm_dc dc_54_0 23 rfl)) (
  jm_gc (pu_iload _ _) (sn_iload (jm_dc dc_54_0 24 rfl)) (
  jm_gn)))))))))))))))))))))))))
theorem dc_54_1 : ([(45, .iload 4, 2), (47, .invokevirtual 65, 3), (50, .goto 4, 3), (53, .iconst (-1), 1), (54, .istore 8, 2), (56, .iload 8, 2), (58, .ifCond .lt 34, 3), (61, .aload_n 0, 1), (62, .getfield 27, 3), (65, .iload 8, 2), (67, .iaload, 1), (68, .iload 6, 2), (70, .if_icmp .ne 22, 3), (73, .aload_n 0, 1), (74, .getfield 30, 3), (77, .iload 5, 2), (79, .iload 7, 2), (81, .iastore, 1), (82, .iinc 5 1, 3), (85, .iload 8, 2), (87, .istore 4, 2), (89, .goto 9, 3), (92, .iinc 7 1, 3), (95, .goto (-71), 3), (98, .iinc 6 (-1), 3)] : List (Nat × Instr × Nat)).all (fun e => decide (decode prog_6_method_15_code e.1 = .ok e.2)) = true := by decide +kernel
abbrev cl_54_1 : List (Nat × jm_O) := [(45, op_iload 4 2), (47, op_callV 4 55 3), (50, op_goto 54), (53, op_ic (-1) 1), (54, op_istore 8 2), (56, op_iload 8 2), (58, op_iflt 92), (61, op_aload 0 1), (62, op_getA 4 7), (65, op_iload 8 2), (67, op_iald 13), (68, op_iload 6 2), (70, op_cne 92), (73, op_aload 0 1), (74, op_getA 4 8), (77, op_iload 5 2), (79, op_iload 7 2), (81, op_iast), (82, op_iinc 5 1), (85, op_iload 8 2), (87, op_istore 4 2), (89, op_goto 98), (92, op_iinc 7 1), (95, op_goto 24), (98, op_iinc 6 (-1))]
set_option maxRecDepth 100000 in
theorem gl_54_1 : jm_gl "FrescoWall$Joins" prog_6_method_15_code 9 (Option.some Jvm.ClassFile.FieldType.int) false cl_54_1 :=
  jm_gc (pu_iload _ _) (sn_iload (jm_dc dc_54_1 0 rfl)) (
  jm_gc (pu_callV _ _ _) (sn_callV (jm_dc dc_54_1 1 rfl) lk_4_65) (
  jm_gc (pu_goto _) (sn_goto (jm_dc dc_54_1 2 rfl) (by decide)) (
  jm_gc (pu_ic _ _) (sn_iconst (jm_dc dc_54_1 3 rfl) (by decide)) (
  jm_gc (pu_istore _ _) (sn_istore (jm_dc dc_54_1 4 rfl)) (
  jm_gc (pu_iload _ _) (sn_iload (jm_dc dc_54_1 5 rfl)) (
  jm_gc (pu_iflt _) (sn_iflt (jm_dc dc_54_1 6 rfl) (by decide)) (
  jm_gc (pu_aload _ _) (sn_aload_n (i := 0) (jm_dc dc_54_1 7 rfl)) (
  jm_gc (pu_getA _ _) (sn_getA (jm_dc dc_54_1 8 rfl) fl_4_27 rfl) (
  jm_gc (pu_iload _ _) (sn_iload (jm_dc dc_54_1 9 rfl)) (
  jm_gc (pu_iald _) (sn_iald (jm_dc dc_54_1 10 rfl)) (
  jm_gc (pu_iload _ _) (sn_iload (jm_dc dc_54_1 11 rfl)) (
  jm_gc (pu_cne _) (sn_cne (jm_dc dc_54_1 12 rfl) (by decide)) (
  jm_gc (pu_aload _ _) (sn_aload_n (i := 0) (jm_dc dc_54_1 13 rfl)) (
  jm_gc (pu_getA _ _) (sn_getA (jm_dc dc_54_1 14 rfl) fl_4_30 rfl) (
  jm_gc (pu_iload _ _) (sn_iload (jm_dc dc_54_1 15 rfl)) (
  jm_gc (pu_iload _ _) (sn_iload (jm_dc dc_54_1 16 rfl)) (
  jm_gc (pu_iast) (sn_iast (jm_dc dc_54_1 17 rfl)) (
  jm_gc (pu_iinc _ _) (sn_iinc (jm_dc dc_54_1 18 rfl) (by decide)) (
  jm_gc (pu_iload _ _) (sn_iload (jm_dc dc_54_1 19 rfl)) (
  jm_gc (pu_istore _ _) (sn_istore (jm_dc dc_54_1 20 rfl)) (
  jm_gc (pu_goto _) (sn_goto (jm_dc dc_54_1 21 rfl) (by decide)) (
  jm_gc (pu_iinc _ _) (sn_iinc (jm_dc dc_54_1 22 rfl) (by decide)) (
  jm_gc (pu_goto _) (sn_goto (jm_dc dc_54_1 23 rfl) (by decide)) (
  jm_gc (pu_iinc _ _) (sn_iinc (jm_dc dc_54_1 24 rfl) (by decide)) (
  jm_gn)))))))))))))))))))))))))
theorem dc_54_2 : ([(101, .goto (-85), 3), (104, .iload 5, 2), (106, .ireturn, 1)] : List (Nat × Instr × Nat)).all (fun e => decide (decode prog_6_method_15_code e.1 = .ok e.2)) = true := by decide +kernel
abbrev cl_54_2 : List (Nat × jm_O) := [(101, op_goto 16), (104, op_iload 5 2), (106, op_iret)]
set_option maxRecDepth 100000 in
theorem gl_54_2 : jm_gl "FrescoWall$Joins" prog_6_method_15_code 9 (Option.some Jvm.ClassFile.FieldType.int) false cl_54_2 :=
  jm_gc (pu_goto _) (sn_goto (jm_dc dc_54_2 0 rfl) (by decide)) (
  jm_gc (pu_iload _ _) (sn_iload (jm_dc dc_54_2 1 rfl)) (
  jm_gc (pu_iret) (sn_iret (jm_dc dc_54_2 2 rfl) rfl) (
  jm_gn)))
theorem dc_55_0 : ([(0, .aload_n 0, 1), (1, .getfield 9, 3), (4, .iload_n 1, 1), (5, .iaload, 1), (6, .iload_n 2, 1), (7, .if_icmp .ne 10, 3), (10, .aload_n 0, 1), (11, .getfield 18, 3), (14, .iload_n 1, 1), (15, .iaload, 1), (16, .ireturn, 1), (17, .aload_n 0, 1), (18, .getfield 18, 3), (21, .iload_n 1, 1), (22, .iaload, 1), (23, .iload_n 2, 1), (24, .if_icmp .ne 12, 3), (27, .aload_n 0, 1), (28, .getfield 9, 3), (31, .iload_n 1, 1), (32, .iaload, 1), (33, .goto 4, 3), (36, .iconst (-1), 1), (37, .ireturn, 1)] : List (Nat × Instr × Nat)).all (fun e => decide (decode prog_6_method_16_code e.1 = .ok e.2)) = true := by decide +kernel
abbrev cl_55_0 : List (Nat × jm_O) := [(0, op_aload 0 1), (1, op_getA 4 0), (4, op_iload 1 1), (5, op_iald 13), (6, op_iload 2 1), (7, op_cne 17), (10, op_aload 0 1), (11, op_getA 4 2), (14, op_iload 1 1), (15, op_iald 13), (16, op_iret), (17, op_aload 0 1), (18, op_getA 4 2), (21, op_iload 1 1), (22, op_iald 13), (23, op_iload 2 1), (24, op_cne 36), (27, op_aload 0 1), (28, op_getA 4 0), (31, op_iload 1 1), (32, op_iald 13), (33, op_goto 37), (36, op_ic (-1) 1), (37, op_iret)]
set_option maxRecDepth 100000 in
theorem gl_55_0 : jm_gl "FrescoWall$Joins" prog_6_method_16_code 3 (Option.some Jvm.ClassFile.FieldType.int) false cl_55_0 :=
  jm_gc (pu_aload _ _) (sn_aload_n (i := 0) (jm_dc dc_55_0 0 rfl)) (
  jm_gc (pu_getA _ _) (sn_getA (jm_dc dc_55_0 1 rfl) fl_4_9 rfl) (
  jm_gc (pu_iload _ _) (sn_iload_n (i := 1) (jm_dc dc_55_0 2 rfl)) (
  jm_gc (pu_iald _) (sn_iald (jm_dc dc_55_0 3 rfl)) (
  jm_gc (pu_iload _ _) (sn_iload_n (i := 2) (jm_dc dc_55_0 4 rfl)) (
  jm_gc (pu_cne _) (sn_cne (jm_dc dc_55_0 5 rfl) (by decide)) (
  jm_gc (pu_aload _ _) (sn_aload_n (i := 0) (jm_dc dc_55_0 6 rfl)) (
  jm_gc (pu_getA _ _) (sn_getA (jm_dc dc_55_0 7 rfl) fl_4_18 rfl) (
  jm_gc (pu_iload _ _) (sn_iload_n (i := 1) (jm_dc dc_55_0 8 rfl)) (
  jm_gc (pu_iald _) (sn_iald (jm_dc dc_55_0 9 rfl)) (
  jm_gc (pu_iret) (sn_iret (jm_dc dc_55_0 10 rfl) rfl) (
  jm_gc (pu_aload _ _) (sn_aload_n (i := 0) (jm_dc dc_55_0 11 rfl)) (
  jm_gc (pu_getA _ _) (sn_getA (jm_dc dc_55_0 12 rfl) fl_4_18 rfl) (
  jm_gc (pu_iload _ _) (sn_iload_n (i := 1) (jm_dc dc_55_0 13 rfl)) (
  jm_gc (pu_iald _) (sn_iald (jm_dc dc_55_0 14 rfl)) (
  jm_gc (pu_iload _ _) (sn_iload_n (i := 2) (jm_dc dc_55_0 15 rfl)) (
  jm_gc (pu_cne _) (sn_cne (jm_dc dc_55_0 16 rfl) (by decide)) (
  jm_gc (pu_aload _ _) (sn_aload_n (i := 0) (jm_dc dc_55_0 17 rfl)) (
  jm_gc (pu_getA _ _) (sn_getA (jm_dc dc_55_0 18 rfl) fl_4_9 rfl) (
  jm_gc (pu_iload _ _) (sn_iload_n (i := 1) (jm_dc dc_55_0 19 rfl)) (
  jm_gc (pu_iald _) (sn_iald (jm_dc dc_55_0 20 rfl)) (
  jm_gc (pu_goto _) (sn_goto (jm_dc dc_55_0 21 rfl) (by decide)) (
  jm_gc (pu_ic _ _) (sn_iconst (jm_dc dc_55_0 22 rfl) (by decide)) (
  jm_gc (pu_iret) (sn_iret (jm_dc dc_55_0 23 rfl) rfl) (
  jm_gn))))))))))))))))))))))))
theorem dc_56_0 : ([(0, .aload_n 0, 1), (1, .invokespecial 3, 3), (4, .aload_n 0, 1), (5, .sipush 484, 3), (8, .newarray .int, 2), (10, .putfield 9, 3), (13, .return_, 1)] : List (Nat × Instr × Nat)).all (fun e => decide (decode prog_7_method_1_code e.1 = .ok e.2)) = true := by decide +kernel
abbrev cl_56_0 : List (Nat × jm_O) := [(0, op_aload 0 1), (1, op_objInit), (4, op_aload 0 1), (5, op_ic 484 3), (8, op_newa 13 2), (10, op_putA 5 0), (13, op_vret)]
set_option maxRecDepth 100000 in
theorem gl_56_0 : jm_gl "FrescoWall$Photo" prog_7_method_1_code 1 (Option.none : Option Jvm.ClassFile.FieldType) true cl_56_0 :=
  jm_gc (pu_aload _ _) (sn_aload_n (i := 0) (jm_dc dc_56_0 0 rfl)) (
  jm_gc (pu_objInit) (sn_objInit (jm_dc dc_56_0 1 rfl) ⟨kc_tb 232 (by decide +kernel), kc_tb 23 (by decide +kernel), kc_tb 24 (by decide +kernel)⟩) (
  jm_gc (pu_aload _ _) (sn_aload_n (i := 0) (jm_dc dc_56_0 2 rfl)) (
  jm_gc (pu_ic _ _) (sn_sipush (jm_dc dc_56_0 3 rfl) (by decide)) (
  jm_gc (pu_newa _ _) (sn_newI (jm_dc dc_56_0 4 rfl) (kc_tb 91 (by decide +kernel))) (
  jm_gc (pu_putA _ _) (sn_putAF (jm_dc dc_56_0 5 rfl) flw_5_9 rfl rfl) (
  jm_gc (pu_vret) (sn_vret (jm_dc dc_56_0 6 rfl) rfl) (
  jm_gn)))))))
theorem dc_57_0 : ([(0, .aload_n 0, 1), (1, .getfield 13, 3), (4, .ifCond .le 7, 3), (7, .iconst 1, 1), (8, .goto 4, 3), (11, .iconst 0, 1), (12, .ireturn, 1)] : List (Nat × Instr × Nat)).all (fun e => decide (decode prog_7_method_2_code e.1 = .ok e.2)) = true := by decide +kernel
abbrev cl_57_0 : List (Nat × jm_O) := [(0, op_aload 0 1), (1, op_getI 5 1), (4, op_ifle 11), (7, op_ic 1 1), (8, op_goto 12), (11, op_ic 0 1), (12, op_zret)]
set_option maxRecDepth 100000 in
theorem gl_57_0 : jm_gl "FrescoWall$Photo" prog_7_method_2_code 1 (Option.some Jvm.ClassFile.FieldType.boolean) false cl_57_0 :=
  jm_gc (pu_aload _ _) (sn_aload_n (i := 0) (jm_dc dc_57_0 0 rfl)) (
  jm_gc (pu_getI _ _) (sn_getI (jm_dc dc_57_0 1 rfl) fl_5_13 (Or.inl rfl)) (
  jm_gc (pu_ifle _) (sn_ifle (jm_dc dc_57_0 2 rfl) (by decide)) (
  jm_gc (pu_ic _ _) (sn_iconst (jm_dc dc_57_0 3 rfl) (by decide)) (
  jm_gc (pu_goto _) (sn_goto (jm_dc dc_57_0 4 rfl) (by decide)) (
  jm_gc (pu_ic _ _) (sn_iconst (jm_dc dc_57_0 5 rfl) (by decide)) (
  jm_gc (pu_zret) (sn_zret (jm_dc dc_57_0 6 rfl) rfl) (
  jm_gn)))))))
theorem dc_58_0 : ([(0, .aload_n 0, 1), (1, .getfield 17, 3), (4, .invokestatic 20, 3), (7, .ireturn, 1)] : List (Nat × Instr × Nat)).all (fun e => decide (decode prog_7_method_3_code e.1 = .ok e.2)) = true := by decide +kernel
abbrev cl_58_0 : List (Nat × jm_O) := [(0, op_aload 0 1), (1, op_getI 5 5), (4, op_callS 317 1), (7, op_iret)]
set_option maxRecDepth 100000 in
theorem gl_58_0 : jm_gl "FrescoWall$Photo" prog_7_method_3_code 1 (Option.some Jvm.ClassFile.FieldType.int) false cl_58_0 :=
  jm_gc (pu_aload _ _) (sn_aload_n (i := 0) (jm_dc dc_58_0 0 rfl)) (
  jm_gc (pu_getI _ _) (sn_getI (jm_dc dc_58_0 1 rfl) fl_5_17 (Or.inl rfl)) (
  jm_gc (pu_callS _ _) (sn_callS (jm_dc dc_58_0 2 rfl) lk_5_20) (
  jm_gc (pu_iret) (sn_iret (jm_dc dc_58_0 3 rfl) rfl) (
  jm_gn))))
theorem dc_59_0 : ([(0, .iconst 0, 1), (1, .istore_n 2, 1), (2, .iconst 0, 1), (3, .istore_n 3, 1), (4, .bipush 16, 2), (6, .istore 4, 2), (8, .iconst 0, 1), (9, .istore 5, 2), (11, .iload 5, 2), (13, .aload_n 1, 1), (14, .getfield 26, 3), (17, .if_icmp .ge 87, 3), (20, .aload_n 1, 1), (21, .iload 5, 2), (23, .invokevirtual 31, 3), (26, .istore 6, 2), (28, .iload 6, 2), (30, .bipush 46, 2), (32, .if_icmp .eq 12, 3), (35, .aload_n 1, 1), (36, .iload 5, 2), (38, .invokevirtual 34, 3), (41, .ifCond .lt 18, 3), (44, .iload_n 3, 1), (45, .iload 4, 2)] : List (Nat × Instr × Nat)).all (fun e => decide (decode prog_7_method_4_code e.1 = .ok e.2)) = true := by decide +kernel
abbrev cl_59_0 : List (Nat × jm_O) := [(0, op_ic 0 1), (1, op_istore 2 1), (2, op_ic 0 1), (3, op_istore 3 1), (4, op_ic 16 2), (6, op_istore 4 2), (8, op_ic 0 1), (9, op_istore 5 2), (11, op_iload 5 2), (13, op_aload 1 1), (14, op_getI 8 0), (17, op_cge 104), (20, op_aload 1 1), (21, op_iload 5 2), (23, op_callV 8 96 2), (26, op_istore 6 2), (28, op_iload 6 2), (30, op_ic 46 2), (32, op_ceq 44), (35, op_aload 1 1), (36, op_iload 5 2), (38, op_callV 8 97 2), (41, op_iflt 59), (44, op_iload 3 1), (45, op_iload 4 2)]
set_option maxRecDepth 100000 in
theorem gl_59_0 : jm_gl "FrescoWall$Photo" prog_7_method_4_code 7 (Option.some Jvm.ClassFile.FieldType.int) false cl_59_0 :=
  jm_gc (pu_ic _ _) (sn_iconst (jm_dc dc_59_0 0 rfl) (by decide)) (
  jm_gc (pu_istore _ _) (sn_istore_n (i := 2) (jm_dc dc_59_0 1 rfl)) (
  jm_gc (pu_ic _ _) (sn_iconst (jm_dc dc_59_0 2 rfl) (by decide)) (
  jm_gc (pu_istore _ _) (sn_istore_n (i := 3) (jm_dc dc_59_0 3 rfl)) (
  jm_gc (pu_ic _ _) (sn_bipush (jm_dc dc_59_0 4 rfl) (by decide)) (
  jm_gc (pu_istore _ _) (sn_istore (jm_dc dc_59_0 5 rfl)) (
  jm_gc (pu_ic _ _) (sn_iconst (jm_dc dc_59_0 6 rfl) (by decide)) (
  jm_gc (pu_istore _ _) (sn_istore (jm_dc dc_59_0 7 rfl)) (
  jm_gc (pu_iload _ _) (sn_iload (jm_dc dc_59_0 8 rfl)) (
  jm_gc (pu_aload _ _) (sn_aload_n (i := 1) (jm_dc dc_59_0 9 rfl)) (
  jm_gc (pu_getI _ _) (sn_getI (jm_dc dc_59_0 10 rfl) fl_5_26 (Or.inl rfl)) (
  jm_gc (pu_cge _) (sn_cge (jm_dc dc_59_0 11 rfl) (by decide)) (
  jm_gc (pu_aload _ _) (sn_aload_n (i := 1) (jm_dc dc_59_0 12 rfl)) (
  jm_gc (pu_iload _ _) (sn_iload (jm_dc dc_59_0 13 rfl)) (
  jm_gc (pu_callV _ _ _) (sn_callV (jm_dc dc_59_0 14 rfl) lk_5_31) (
  jm_gc (pu_istore _ _) (sn_istore (jm_dc dc_59_0 15 rfl)) (
  jm_gc (pu_iload _ _) (sn_iload (jm_dc dc_59_0 16 rfl)) (
  jm_gc (pu_ic _ _) (sn_bipush (jm_dc dc_59_0 17 rfl) (by decide)) (
  jm_gc (pu_ceq _) (sn_ceq (jm_dc dc_59_0 18 rfl) (by decide)) (
  jm_gc (pu_aload _ _) (sn_aload_n (i := 1) (jm_dc dc_59_0 19 rfl)) (
  jm_gc (pu_iload _ _) (sn_iload (jm_dc dc_59_0 20 rfl)) (
  jm_gc (pu_callV _ _ _) (sn_callV (jm_dc dc_59_0 21 rfl) lk_5_34) (
  jm_gc (pu_iflt _) (sn_iflt (jm_dc dc_59_0 22 rfl) (by decide)) (
  jm_gc (pu_iload _ _) (sn_iload_n (i := 3) (jm_dc dc_59_0 23 rfl)) (
  jm_gc (pu_iload _ _) (sn_iload (jm_dc dc_59_0 24 rfl)) (
  jm_gn)))))))))))))))))))))))))
theorem dc_59_1 : ([(47, .if_icmp .ne 6, 3), (50, .iload 5, 2), (52, .ireturn, 1), (53, .iinc 3 1, 3), (56, .goto 42, 3), (59, .iload 6, 2), (61, .bipush 47, 2), (63, .if_icmp .ne 32, 3), (66, .iload_n 2, 1), (67, .iload_n 3, 1), (68, .iload 4, 2), (70, .invokestatic 37, 3), (73, .ifCond .eq 22, 3), (76, .iload_n 2, 1), (77, .iconst 1, 1), (78, .iadd, 1), (79, .bipush 16, 2), (81, .if_icmp .ge 14, 3), (84, .iload_n 3, 1), (85, .istore 4, 2), (87, .iinc 2 1, 3), (90, .iconst 0, 1), (91, .istore_n 3, 1), (92, .goto 6, 3), (95, .iload 5, 2)] : List (Nat × Instr × Nat)).all (fun e => decide (decode prog_7_method_4_code e.1 = .ok e.2)) = true := by decide +kernel
abbrev cl_59_1 : List (Nat × jm_O) := [(47, op_cne 53), (50, op_iload 5 2), (52, op_iret), (53, op_iinc 3 1), (56, op_goto 98), (59, op_iload 6 2), (61, op_ic 47 2), (63, op_cne 95), (66, op_iload 2 1), (67, op_iload 3 1), (68, op_iload 4 2), (70, op_callS 60 3), (73, op_ifeq 95), (76, op_iload 2 1), (77, op_ic 1 1), (78, op_ibin (fun x y => x + y)), (79, op_ic 16 2), (81, op_cge 95), (84, op_iload 3 1), (85, op_istore 4 2), (87, op_iinc 2 1), (90, op_ic 0 1), (91, op_istore 3 1), (92, op_goto 98), (95, op_iload 5 2)]
set_option maxRecDepth 100000 in
theorem gl_59_1 : jm_gl "FrescoWall$Photo" prog_7_method_4_code 7 (Option.some Jvm.ClassFile.FieldType.int) false cl_59_1 :=
  jm_gc (pu_cne _) (sn_cne (jm_dc dc_59_1 0 rfl) (by decide)) (
  jm_gc (pu_iload _ _) (sn_iload (jm_dc dc_59_1 1 rfl)) (
  jm_gc (pu_iret) (sn_iret (jm_dc dc_59_1 2 rfl) rfl) (
  jm_gc (pu_iinc _ _) (sn_iinc (jm_dc dc_59_1 3 rfl) (by decide)) (
  jm_gc (pu_goto _) (sn_goto (jm_dc dc_59_1 4 rfl) (by decide)) (
  jm_gc (pu_iload _ _) (sn_iload (jm_dc dc_59_1 5 rfl)) (
  jm_gc (pu_ic _ _) (sn_bipush (jm_dc dc_59_1 6 rfl) (by decide)) (
  jm_gc (pu_cne _) (sn_cne (jm_dc dc_59_1 7 rfl) (by decide)) (
  jm_gc (pu_iload _ _) (sn_iload_n (i := 2) (jm_dc dc_59_1 8 rfl)) (
  jm_gc (pu_iload _ _) (sn_iload_n (i := 3) (jm_dc dc_59_1 9 rfl)) (
  jm_gc (pu_iload _ _) (sn_iload (jm_dc dc_59_1 10 rfl)) (
  jm_gc (pu_callS _ _) (sn_callS (jm_dc dc_59_1 11 rfl) lk_5_37) (
  jm_gc (pu_ifeq _) (sn_ifeq (jm_dc dc_59_1 12 rfl) (by decide)) (
  jm_gc (pu_iload _ _) (sn_iload_n (i := 2) (jm_dc dc_59_1 13 rfl)) (
  jm_gc (pu_ic _ _) (sn_iconst (jm_dc dc_59_1 14 rfl) (by decide)) (
  jm_gc (pu_ibin _) (sn_iadd (jm_dc dc_59_1 15 rfl)) (
  jm_gc (pu_ic _ _) (sn_bipush (jm_dc dc_59_1 16 rfl) (by decide)) (
  jm_gc (pu_cge _) (sn_cge (jm_dc dc_59_1 17 rfl) (by decide)) (
  jm_gc (pu_iload _ _) (sn_iload_n (i := 3) (jm_dc dc_59_1 18 rfl)) (
  jm_gc (pu_istore _ _) (sn_istore (jm_dc dc_59_1 19 rfl)) (
  jm_gc (pu_iinc _ _) (sn_iinc (jm_dc dc_59_1 20 rfl) (by decide)) (
  jm_gc (pu_ic _ _) (sn_iconst (jm_dc dc_59_1 21 rfl) (by decide)) (
  jm_gc (pu_istore _ _) (sn_istore_n (i := 3) (jm_dc dc_59_1 22 rfl)) (
  jm_gc (pu_goto _) (sn_goto (jm_dc dc_59_1 23 rfl) (by decide)) (
  jm_gc (pu_iload _ _) (sn_iload (jm_dc dc_59_1 24 rfl)) (
  jm_gn)))))))))))))))))))))))))
theorem dc_59_2 : ([(97, .ireturn, 1), (98, .iinc 5 1, 3), (101, .goto (-90), 3), (104, .iload_n 2, 1), (105, .iload_n 3, 1), (106, .iload 4, 2), (108, .invokestatic 37, 3), (111, .ifCond .eq 7, 3), (114, .iconst (-1), 1), (115, .goto 7, 3), (118, .aload_n 1, 1), (119, .getfield 26, 3), (122, .ireturn, 1)] : List (Nat × Instr × Nat)).all (fun e => decide (decode prog_7_method_4_code e.1 = .ok e.2)) = true := by decide +kernel
abbrev cl_59_2 : List (Nat × jm_O) := [(97, op_iret), (98, op_iinc 5 1), (101, op_goto 11), (104, op_iload 2 1), (105, op_iload 3 1), (106, op_iload 4 2), (108, op_callS 60 3), (111, op_ifeq 118), (114, op_ic (-1) 1), (115, op_goto 122), (118, op_aload 1 1), (119, op_getI 8 0), (122, op_iret)]
set_option maxRecDepth 100000 in
theorem gl_59_2 : jm_gl "FrescoWall$Photo" prog_7_method_4_code 7 (Option.some Jvm.ClassFile.FieldType.int) false cl_59_2 :=
  jm_gc (pu_iret) (sn_iret (jm_dc dc_59_2 0 rfl) rfl) (
  jm_gc (pu_iinc _ _) (sn_iinc (jm_dc dc_59_2 1 rfl) (by decide)) (
  jm_gc (pu_goto _) (sn_goto (jm_dc dc_59_2 2 rfl) (by decide)) (
  jm_gc (pu_iload _ _) (sn_iload_n (i := 2) (jm_dc dc_59_2 3 rfl)) (
  jm_gc (pu_iload _ _) (sn_iload_n (i := 3) (jm_dc dc_59_2 4 rfl)) (
  jm_gc (pu_iload _ _) (sn_iload (jm_dc dc_59_2 5 rfl)) (
  jm_gc (pu_callS _ _) (sn_callS (jm_dc dc_59_2 6 rfl) lk_5_37) (
  jm_gc (pu_ifeq _) (sn_ifeq (jm_dc dc_59_2 7 rfl) (by decide)) (
  jm_gc (pu_ic _ _) (sn_iconst (jm_dc dc_59_2 8 rfl) (by decide)) (
  jm_gc (pu_goto _) (sn_goto (jm_dc dc_59_2 9 rfl) (by decide)) (
  jm_gc (pu_aload _ _) (sn_aload_n (i := 1) (jm_dc dc_59_2 10 rfl)) (
  jm_gc (pu_getI _ _) (sn_getI (jm_dc dc_59_2 11 rfl) fl_5_26 (Or.inl rfl)) (
  jm_gc (pu_iret) (sn_iret (jm_dc dc_59_2 12 rfl) rfl) (
  jm_gn)))))))))))))
theorem dc_60_0 : ([(0, .iload_n 0, 1), (1, .ifCond .ne 15, 3), (4, .iload_n 1, 1), (5, .ifCond .le 7, 3), (8, .iconst 1, 1), (9, .goto 17, 3), (12, .iconst 0, 1), (13, .goto 13, 3), (16, .iload_n 1, 1), (17, .iload_n 2, 1), (18, .if_icmp .ne 7, 3), (21, .iconst 1, 1), (22, .goto 4, 3), (25, .iconst 0, 1), (26, .ireturn, 1)] : List (Nat × Instr × Nat)).all (fun e => decide (decode prog_7_method_5_code e.1 = .ok e.2)) = true := by decide +kernel
abbrev cl_60_0 : List (Nat × jm_O) := [(0, op_iload 0 1), (1, op_ifne 16), (4, op_iload 1 1), (5, op_ifle 12), (8, op_ic 1 1), (9, op_goto 26), (12, op_ic 0 1), (13, op_goto 26), (16, op_iload 1 1), (17, op_iload 2 1), (18, op_cne 25), (21, op_ic 1 1), (22, op_goto 26), (25, op_ic 0 1), (26, op_zret)]
set_option maxRecDepth 100000 in
theorem gl_60_0 : jm_gl "FrescoWall$Photo" prog_7_method_5_code 3 (Option.some Jvm.ClassFile.FieldType.boolean) false cl_60_0 :=
  jm_gc (pu_iload _ _) (sn_iload_n (i := 0) (jm_dc dc_60_0 0 rfl)) (
  jm_gc (pu_ifne _) (sn_ifne (jm_dc dc_60_0 1 rfl) (by decide)) (
  jm_gc (pu_iload _ _) (sn_iload_n (i := 1) (jm_dc dc_60_0 2 rfl)) (
  jm_gc (pu_ifle _) (sn_ifle (jm_dc dc_60_0 3 rfl) (by decide)) (
  jm_gc (pu_ic _ _) (sn_iconst (jm_dc dc_60_0 4 rfl) (by decide)) (
  jm_gc (pu_goto _) (sn_goto (jm_dc dc_60_0 5 rfl) (by decide)) (
  jm_gc (pu_ic _ _) (sn_iconst (jm_dc dc_60_0 6 rfl) (by decide)) (
  jm_gc (pu_goto _) (sn_goto (jm_dc dc_60_0 7 rfl) (by decide)) (
  jm_gc (pu_iload _ _) (sn_iload_n (i := 1) (jm_dc dc_60_0 8 rfl)) (
  jm_gc (pu_iload _ _) (sn_iload_n (i := 2) (jm_dc dc_60_0 9 rfl)) (
  jm_gc (pu_cne _) (sn_cne (jm_dc dc_60_0 10 rfl) (by decide)) (
  jm_gc (pu_ic _ _) (sn_iconst (jm_dc dc_60_0 11 rfl) (by decide)) (
  jm_gc (pu_goto _) (sn_goto (jm_dc dc_60_0 12 rfl) (by decide)) (
  jm_gc (pu_ic _ _) (sn_iconst (jm_dc dc_60_0 13 rfl) (by decide)) (
  jm_gc (pu_zret) (sn_zret (jm_dc dc_60_0 14 rfl) rfl) (
  jm_gn)))))))))))))))
theorem dc_61_0 : ([(0, .aload_n 0, 1), (1, .iconst 0, 1), (2, .putfield 13, 3), (5, .aload_n 0, 1), (6, .getfield 13, 3), (9, .aload_n 1, 1), (10, .getfield 26, 3), (13, .if_icmp .ge 29, 3), (16, .aload_n 1, 1), (17, .aload_n 0, 1), (18, .getfield 13, 3), (21, .invokevirtual 31, 3), (24, .bipush 47, 2), (26, .if_icmp .eq 16, 3), (29, .aload_n 0, 1), (30, .dup, 1), (31, .getfield 13, 3), (34, .iconst 1, 1), (35, .iadd, 1), (36, .putfield 13, 3), (39, .goto (-34), 3), (42, .aload_n 0, 1), (43, .aload_n 1, 1), (44, .getfield 26, 3), (47, .iconst 1, 1)] : List (Nat × Instr × Nat)).all (fun e => decide (decode prog_7_method_6_code e.1 = .ok e.2)) = true := by decide +kernel
abbrev cl_61_0 : List (Nat × jm_O) := [(0, op_aload 0 1), (1, op_ic 0 1), (2, op_putI 5 1), (5, op_aload 0 1), (6, op_getI 5 1), (9, op_aload 1 1), (10, op_getI 8 0), (13, op_cge 42), (16, op_aload 1 1), (17, op_aload 0 1), (18, op_getI 5 1), (21, op_callV 8 96 2), (24, op_ic 47 2), (26, op_ceq 42), (29, op_aload 0 1), (30, op_dup), (31, op_getI 5 1), (34, op_ic 1 1), (35, op_ibin (fun x y => x + y)), (36, op_putI 5 1), (39, op_goto 5), (42, op_aload 0 1), (43, op_aload 1 1), (44, op_getI 8 0), (47, op_ic 1 1)]
set_option maxRecDepth 100000 in
theorem gl_61_0 : jm_gl "FrescoWall$Photo" prog_7_method_6_code 8 (Option.none : Option Jvm.ClassFile.FieldType) false cl_61_0 :=
  jm_gc (pu_aload _ _) (sn_aload_n (i := 0) (jm_dc dc_61_0 0 rfl)) (
  jm_gc (pu_ic _ _) (sn_iconst (jm_dc dc_61_0 1 rfl) (by decide)) (
  jm_gc (pu_putI _ _) (sn_putI (jm_dc dc_61_0 2 rfl) flw_5_13 rfl) (
  jm_gc (pu_aload _ _) (sn_aload_n (i := 0) (jm_dc dc_61_0 3 rfl)) (
  jm_gc (pu_getI _ _) (sn_getI (jm_dc dc_61_0 4 rfl) fl_5_13 (Or.inl rfl)) (
  jm_gc (pu_aload _ _) (sn_aload_n (i := 1) (jm_dc dc_61_0 5 rfl)) (
  jm_gc (pu_getI _ _) (sn_getI (jm_dc dc_61_0 6 rfl) fl_5_26 (Or.inl rfl)) (
  jm_gc (pu_cge _) (sn_cge (jm_dc dc_61_0 7 rfl) (by decide)) (
  jm_gc (pu_aload _ _) (sn_aload_n (i := 1) (jm_dc dc_61_0 8 rfl)) (
  jm_gc (pu_aload _ _) (sn_aload_n (i := 0) (jm_dc dc_61_0 9 rfl)) (
  jm_gc (pu_getI _ _) (sn_getI (jm_dc dc_61_0 10 rfl) fl_5_13 (Or.inl rfl)) (
  jm_gc (pu_callV _ _ _) (sn_callV (jm_dc dc_61_0 11 rfl) lk_5_31) (
  jm_gc (pu_ic _ _) (sn_bipush (jm_dc dc_61_0 12 rfl) (by decide)) (
  jm_gc (pu_ceq _) (sn_ceq (jm_dc dc_61_0 13 rfl) (by decide)) (
  jm_gc (pu_aload _ _) (sn_aload_n (i := 0) (jm_dc dc_61_0 14 rfl)) (
  jm_gc (pu_dup) (sn_dup (jm_dc dc_61_0 15 rfl)) (
  jm_gc (pu_getI _ _) (sn_getI (jm_dc dc_61_0 16 rfl) fl_5_13 (Or.inl rfl)) (
  jm_gc (pu_ic _ _) (sn_iconst (jm_dc dc_61_0 17 rfl) (by decide)) (
  jm_gc (pu_ibin _) (sn_iadd (jm_dc dc_61_0 18 rfl)) (
  jm_gc (pu_putI _ _) (sn_putI (jm_dc dc_61_0 19 rfl) flw_5_13 rfl) (
  jm_gc (pu_goto _) (sn_goto (jm_dc dc_61_0 20 rfl) (by decide)) (
  jm_gc (pu_aload _ _) (sn_aload_n (i := 0) (jm_dc dc_61_0 21 rfl)) (
  jm_gc (pu_aload _ _) (sn_aload_n (i := 1) (jm_dc dc_61_0 22 rfl)) (
  jm_gc (pu_getI _ _) (sn_getI (jm_dc dc_61_0 23 rfl) fl_5_26 (Or.inl rfl)) (
  jm_gc (pu_ic _ _) (sn_iconst (jm_dc dc_61_0 24 rfl) (by decide)) (
  jm_gn)))))))))))))))))))))))))
theorem dc_61_1 : ([(48, .iadd, 1), (49, .aload_n 0, 1), (50, .getfield 13, 3), (53, .iconst 1, 1), (54, .iadd, 1), (55, .idiv, 1), (56, .putfield 41, 3), (59, .aload_n 0, 1), (60, .iload_n 2, 1), (61, .putfield 44, 3), (64, .aload_n 0, 1), (65, .iload_n 3, 1), (66, .putfield 47, 3), (69, .aload_n 0, 1), (70, .iconst 0, 1), (71, .putfield 17, 3), (74, .iconst 0, 1), (75, .istore 5, 2), (77, .iload 5, 2), (79, .sipush 484, 3), (82, .if_icmp .ge 17, 3), (85, .aload_n 0, 1), (86, .getfield 9, 3), (89, .iload 5, 2), (91, .iconst 0, 1)] : List (Nat × Instr × Nat)).all (fun e => decide (decode prog_7_method_6_code e.1 = .ok e.2)) = true := by decide +kernel
abbrev cl_61_1 : List (Nat × jm_O) := [(48, op_ibin (fun x y => x + y)), (49, op_aload 0 1), (50, op_getI 5 1), (53, op_ic 1 1), (54, op_ibin (fun x y => x + y)), (55, op_idz (fun x y => x / y)), (56, op_putI 5 2), (59, op_aload 0 1), (60, op_iload 2 1), (61, op_putI 5 3), (64, op_aload 0 1), (65, op_iload 3 1), (66, op_putI 5 4), (69, op_aload 0 1), (70, op_ic 0 1), (71, op_putI 5 5), (74, op_ic 0 1), (75, op_istore 5 2), (77, op_iload 5 2), (79, op_ic 484 3), (82, op_cge 99), (85, op_aload 0 1), (86, op_getA 5 0), (89, op_iload 5 2), (91, op_ic 0 1)]
set_option maxRecDepth 100000 in
theorem gl_61_1 : jm_gl "FrescoWall$Photo" prog_7_method_6_code 8 (Option.none : Option Jvm.ClassFile.FieldType) false cl_61_1 :=
  jm_gc (pu_ibin _) (sn_iadd (jm_dc dc_61_1 0 rfl)) (
  jm_gc (pu_aload _ _) (sn_aload_n (i := 0) (jm_dc dc_61_1 1 rfl)) (
  jm_gc (pu_getI _ _) (sn_getI (jm_dc dc_61_1 2 rfl) fl_5_13 (Or.inl rfl)) (
  jm_gc (pu_ic _ _) (sn_iconst (jm_dc dc_61_1 3 rfl) (by decide)) (
  jm_gc (pu_ibin _) (sn_iadd (jm_dc dc_61_1 4 rfl)) (
  jm_gc (pu_idz _) (sn_idiv (jm_dc dc_61_1 5 rfl)) (
  jm_gc (pu_putI _ _) (sn_putI (jm_dc dc_61_1 6 rfl) flw_5_41 rfl) (
  jm_gc (pu_aload _ _) (sn_aload_n (i := 0) (jm_dc dc_61_1 7 rfl)) (
  jm_gc (pu_iload _ _) (sn_iload_n (i := 2) (jm_dc dc_61_1 8 rfl)) (
  jm_gc (pu_putI _ _) (sn_putI (jm_dc dc_61_1 9 rfl) flw_5_44 rfl) (
  jm_gc (pu_aload _ _) (sn_aload_n (i := 0) (jm_dc dc_61_1 10 rfl)) (
  jm_gc (pu_iload _ _) (sn_iload_n (i := 3) (jm_dc dc_61_1 11 rfl)) (
  jm_gc (pu_putI _ _) (sn_putI (jm_dc dc_61_1 12 rfl) flw_5_47 rfl) (
  jm_gc (pu_aload _ _) (sn_aload_n (i := 0) (jm_dc dc_61_1 13 rfl)) (
  jm_gc (pu_ic _ _) (sn_iconst (jm_dc dc_61_1 14 rfl) (by decide)) (
  jm_gc (pu_putI _ _) (sn_putI (jm_dc dc_61_1 15 rfl) flw_5_17 rfl) (
  jm_gc (pu_ic _ _) (sn_iconst (jm_dc dc_61_1 16 rfl) (by decide)) (
  jm_gc (pu_istore _ _) (sn_istore (jm_dc dc_61_1 17 rfl)) (
  jm_gc (pu_iload _ _) (sn_iload (jm_dc dc_61_1 18 rfl)) (
  jm_gc (pu_ic _ _) (sn_sipush (jm_dc dc_61_1 19 rfl) (by decide)) (
  jm_gc (pu_cge _) (sn_cge (jm_dc dc_61_1 20 rfl) (by decide)) (
  jm_gc (pu_aload _ _) (sn_aload_n (i := 0) (jm_dc dc_61_1 21 rfl)) (
  jm_gc (pu_getA _ _) (sn_getA (jm_dc dc_61_1 22 rfl) fl_5_9 rfl) (
  jm_gc (pu_iload _ _) (sn_iload (jm_dc dc_61_1 23 rfl)) (
  jm_gc (pu_ic _ _) (sn_iconst (jm_dc dc_61_1 24 rfl) (by decide)) (
  jm_gn)))))))))))))))))))))))))
theorem dc_61_2 : ([(92, .iastore, 1), (93, .iinc 5 1, 3), (96, .goto (-19), 3), (99, .iconst 0, 1), (100, .istore 5, 2), (102, .iload 5, 2), (104, .aload_n 0, 1), (105, .getfield 41, 3), (108, .if_icmp .ge 84, 3), (111, .iconst 0, 1), (112, .istore 6, 2), (114, .iload 6, 2), (116, .aload_n 0, 1), (117, .getfield 13, 3), (120, .if_icmp .ge 66, 3), (123, .aload_n 1, 1), (124, .iload 5, 2), (126, .aload_n 0, 1), (127, .getfield 13, 3), (130, .iconst 1, 1), (131, .iadd, 1), (132, .imul, 1), (133, .iload 6, 2), (135, .iadd, 1), (136, .invokevirtual 34, 3)] : List (Nat × Instr × Nat)).all (fun e => decide (decode prog_7_method_6_code e.1 = .ok e.2)) = true := by decide +kernel
abbrev cl_61_2 : List (Nat × jm_O) := [(92, op_iast), (93, op_iinc 5 1), (96, op_goto 77), (99, op_ic 0 1), (100, op_istore 5 2), (102, op_iload 5 2), (104, op_aload 0 1), (105, op_getI 5 2), (108, op_cge 192), (111, op_ic 0 1), (112, op_istore 6 2), (114, op_iload 6 2), (116, op_aload 0 1), (117, op_getI 5 1), (120, op_cge 186), (123, op_aload 1 1), (124, op_iload 5 2), (126, op_aload 0 1), (127, op_getI 5 1), (130, op_ic 1 1), (131, op_ibin (fun x y => x + y)), (132, op_ibin (fun x y => x * y)), (133, op_iload 6 2), (135, op_ibin (fun x y => x + y)), (136, op_callV 8 97 2)]
set_option maxRecDepth 100000 in
theorem gl_61_2 : jm_gl "FrescoWall$Photo" prog_7_method_6_code 8 (Option.none : Option Jvm.ClassFile.FieldType) false cl_61_2 :=
  jm_gc (pu_iast) (sn_iast (jm_dc dc_61_2 0 rfl)) (
  jm_gc (pu_iinc _ _) (sn_iinc (jm_dc dc_61_2 1 rfl) (by decide)) (
  jm_gc (pu_goto _) (sn_goto (jm_dc dc_61_2 2 rfl) (by decide)) (
  jm_gc (pu_ic _ _) (sn_iconst (jm_dc dc_61_2 3 rfl) (by decide)) (
  jm_gc (pu_istore _ _) (sn_istore (jm_dc dc_61_2 4 rfl)) (
  jm_gc (pu_iload _ _) (sn_iload (jm_dc dc_61_2 5 rfl)) (
  jm_gc (pu_aload _ _) (sn_aload_n (i := 0) (jm_dc dc_61_2 6 rfl)) (
  jm_gc (pu_getI _ _) (sn_getI (jm_dc dc_61_2 7 rfl) fl_5_41 (Or.inl rfl)) (
  jm_gc (pu_cge _) (sn_cge (jm_dc dc_61_2 8 rfl) (by decide)) (
  jm_gc (pu_ic _ _) (sn_iconst (jm_dc dc_61_2 9 rfl) (by decide)) (
  jm_gc (pu_istore _ _) (sn_istore (jm_dc dc_61_2 10 rfl)) (
  jm_gc (pu_iload _ _) (sn_iload (jm_dc dc_61_2 11 rfl)) (
  jm_gc (pu_aload _ _) (sn_aload_n (i := 0) (jm_dc dc_61_2 12 rfl)) (
  jm_gc (pu_getI _ _) (sn_getI (jm_dc dc_61_2 13 rfl) fl_5_13 (Or.inl rfl)) (
  jm_gc (pu_cge _) (sn_cge (jm_dc dc_61_2 14 rfl) (by decide)) (
  jm_gc (pu_aload _ _) (sn_aload_n (i := 1) (jm_dc dc_61_2 15 rfl)) (
  jm_gc (pu_iload _ _) (sn_iload (jm_dc dc_61_2 16 rfl)) (
  jm_gc (pu_aload _ _) (sn_aload_n (i := 0) (jm_dc dc_61_2 17 rfl)) (
  jm_gc (pu_getI _ _) (sn_getI (jm_dc dc_61_2 18 rfl) fl_5_13 (Or.inl rfl)) (
  jm_gc (pu_ic _ _) (sn_iconst (jm_dc dc_61_2 19 rfl) (by decide)) (
  jm_gc (pu_ibin _) (sn_iadd (jm_dc dc_61_2 20 rfl)) (
  jm_gc (pu_ibin _) (sn_imul (jm_dc dc_61_2 21 rfl)) (
  jm_gc (pu_iload _ _) (sn_iload (jm_dc dc_61_2 22 rfl)) (
  jm_gc (pu_ibin _) (sn_iadd (jm_dc dc_61_2 23 rfl)) (
  jm_gc (pu_callV _ _ _) (sn_callV (jm_dc dc_61_2 24 rfl) lk_5_34) (
  jm_gn)))))))))))))))))))))))))
theorem dc_61_3 : ([(139, .istore 7, 2), (141, .iload 7, 2), (143, .ifCond .lt 37, 3), (146, .aload_n 0, 1), (147, .dup, 1), (148, .getfield 17, 3), (151, .iconst 1, 1), (152, .iload 7, 2), (154, .ishl, 1), (155, .ior, 1), (156, .putfield 17, 3), (159, .aload_n 0, 1), (160, .iload 6, 2), (162, .aload_n 0, 1), (163, .getfield 41, 3), (166, .iconst 1, 1), (167, .isub, 1), (168, .iload 5, 2), (170, .isub, 1), (171, .iconst 1, 1), (172, .iload 7, 2), (174, .ishl, 1), (175, .iload 4, 2), (177, .invokevirtual 50, 3), (180, .iinc 6 1, 3)] : List (Nat × Instr × Nat)).all (fun e => decide (decode prog_7_method_6_code e.1 = .ok e.2)) = true := by decide +kernel
abbrev cl_61_3 : List (Nat × jm_O) := [(139, op_istore 7 2), (141, op_iload 7 2), (143, op_iflt 180), (146, op_aload 0 1), (147, op_dup), (148, op_getI 5 5), (151, op_ic 1 1), (152, op_iload 7 2), (154, op_ibin (fun x y => x <<< (y &&& 31))), (155, op_ibin (fun x y => x ||| y)), (156, op_putI 5 5), (159, op_aload 0 1), (160, op_iload 6 2), (162, op_aload 0 1), (163, op_getI 5 2), (166, op_ic 1 1), (167, op_ibin (fun x y => x - y)), (168, op_iload 5 2), (170, op_ibin (fun x y => x - y)), (171, op_ic 1 1), (172, op_iload 7 2), (174, op_ibin (fun x y => x <<< (y &&& 31))), (175, op_iload 4 2), (177, op_callV 5 62 5), (180, op_iinc 6 1)]
set_option maxRecDepth 100000 in
theorem gl_61_3 : jm_gl "FrescoWall$Photo" prog_7_method_6_code 8 (Option.none : Option Jvm.ClassFile.FieldType) false cl_61_3 :=
  jm_gc (pu_istore _ _) (sn_istore (jm_dc dc_61_3 0 rfl)) (
  jm_gc (pu_iload _ _) (sn_iload (jm_dc dc_61_3 1 rfl)) (
  jm_gc (pu_iflt _) (sn_iflt (jm_dc dc_61_3 2 rfl) (by decide)) (
  jm_gc (pu_aload _ _) (sn_aload_n (i := 0) (jm_dc dc_61_3 3 rfl)) (
  jm_gc (pu_dup) (sn_dup (jm_dc dc_61_3 4 rfl)) (
  jm_gc (pu_getI _ _) (sn_getI (jm_dc dc_61_3 5 rfl) fl_5_17 (Or.inl rfl)) (
  jm_gc (pu_ic _ _) (sn_iconst (jm_dc dc_61_3 6 rfl) (by decide)) (
  jm_gc (pu_iload _ _) (sn_iload (jm_dc dc_61_3 7 rfl)) (
  jm_gc (pu_ibin _) (sn_ishl (jm_dc dc_61_3 8 rfl)) (
  jm_gc (pu_ibin _) (sn_ior (jm_dc dc_61_3 9 rfl)) (
  jm_gc (pu_putI _ _) (sn_putI (jm_dc dc_61_3 10 rfl) flw_5_17 rfl) (
  jm_gc (pu_aload _ _) (sn_aload_n (i := 0) (jm_dc dc_61_3 11 rfl)) (
  jm_gc (pu_iload _ _) (sn_iload (jm_dc dc_61_3 12 rfl)) (
  jm_gc (pu_aload _ _) (sn_aload_n (i := 0) (jm_dc dc_61_3 13 rfl)) (
  jm_gc (pu_getI _ _) (sn_getI (jm_dc dc_61_3 14 rfl) fl_5_41 (Or.inl rfl)) (
  jm_gc (pu_ic _ _) (sn_iconst (jm_dc dc_61_3 15 rfl) (by decide)) (
  jm_gc (pu_ibin _) (sn_isub (jm_dc dc_61_3 16 rfl)) (
  jm_gc (pu_iload _ _) (sn_iload (jm_dc dc_61_3 17 rfl)) (
  jm_gc (pu_ibin _) (sn_isub (jm_dc dc_61_3 18 rfl)) (
  jm_gc (pu_ic _ _) (sn_iconst (jm_dc dc_61_3 19 rfl) (by decide)) (
  jm_gc (pu_iload _ _) (sn_iload (jm_dc dc_61_3 20 rfl)) (
  jm_gc (pu_ibin _) (sn_ishl (jm_dc dc_61_3 21 rfl)) (
  jm_gc (pu_iload _ _) (sn_iload (jm_dc dc_61_3 22 rfl)) (
  jm_gc (pu_callV _ _ _) (sn_callV (jm_dc dc_61_3 23 rfl) lk_5_50) (
  jm_gc (pu_iinc _ _) (sn_iinc (jm_dc dc_61_3 24 rfl) (by decide)) (
  jm_gn)))))))))))))))))))))))))
theorem dc_61_4 : ([(183, .goto (-69), 3), (186, .iinc 5 1, 3), (189, .goto (-87), 3), (192, .return_, 1)] : List (Nat × Instr × Nat)).all (fun e => decide (decode prog_7_method_6_code e.1 = .ok e.2)) = true := by decide +kernel
abbrev cl_61_4 : List (Nat × jm_O) := [(183, op_goto 114), (186, op_iinc 5 1), (189, op_goto 102), (192, op_vret)]
set_option maxRecDepth 100000 in
theorem gl_61_4 : jm_gl "FrescoWall$Photo" prog_7_method_6_code 8 (Option.none : Option Jvm.ClassFile.FieldType) false cl_61_4 :=
  jm_gc (pu_goto _) (sn_goto (jm_dc dc_61_4 0 rfl) (by decide)) (
  jm_gc (pu_iinc _ _) (sn_iinc (jm_dc dc_61_4 1 rfl) (by decide)) (
  jm_gc (pu_goto _) (sn_goto (jm_dc dc_61_4 2 rfl) (by decide)) (
  jm_gc (pu_vret) (sn_vret (jm_dc dc_61_4 3 rfl) rfl) (
  jm_gn))))
theorem dc_62_0 : ([(0, .iload_n 2, 1), (1, .iload 4, 2), (3, .isub, 1), (4, .istore 5, 2), (6, .iload 5, 2), (8, .iload_n 2, 1), (9, .iload 4, 2), (11, .iadd, 1), (12, .if_icmp .gt 51, 3), (15, .iload_n 1, 1), (16, .iload 4, 2), (18, .isub, 1), (19, .istore 6, 2), (21, .iload 6, 2), (23, .iload_n 1, 1), (24, .iload 4, 2), (26, .iadd, 1), (27, .if_icmp .gt 30, 3), (30, .aload_n 0, 1), (31, .getfield 9, 3), (34, .iload 5, 2), (36, .iconst 3, 1), (37, .iadd, 1), (38, .bipush 22, 2), (40, .imul, 1)] : List (Nat × Instr × Nat)).all (fun e => decide (decode prog_7_method_7_code e.1 = .ok e.2)) = true := by decide +kernel
abbrev cl_62_0 : List (Nat × jm_O) := [(0, op_iload 2 1), (1, op_iload 4 2), (3, op_ibin (fun x y => x - y)), (4, op_istore 5 2), (6, op_iload 5 2), (8, op_iload 2 1), (9, op_iload 4 2), (11, op_ibin (fun x y => x + y)), (12, op_cgt 63), (15, op_iload 1 1), (16, op_iload 4 2), (18, op_ibin (fun x y => x - y)), (19, op_istore 6 2), (21, op_iload 6 2), (23, op_iload 1 1), (24, op_iload 4 2), (26, op_ibin (fun x y => x + y)), (27, op_cgt 57), (30, op_aload 0 1), (31, op_getA 5 0), (34, op_iload 5 2), (36, op_ic 3 1), (37, op_ibin (fun x y => x + y)), (38, op_ic 22 2), (40, op_ibin (fun x y => x * y))]
set_option maxRecDepth 100000 in
theorem gl_62_0 : jm_gl "FrescoWall$Photo" prog_7_method_7_code 7 (Option.none : Option Jvm.ClassFile.FieldType) false cl_62_0 :=
  jm_gc (pu_iload _ _) (sn_iload_n (i := 2) (jm_dc dc_62_0 0 rfl)) (
  jm_gc (pu_iload _ _) (sn_iload (jm_dc dc_62_0 1 rfl)) (
  jm_gc (pu_ibin _) (sn_isub (jm_dc dc_62_0 2 rfl)) (
  jm_gc (pu_istore _ _) (sn_istore (jm_dc dc_62_0 3 rfl)) (
  jm_gc (pu_iload _ _) (sn_iload (jm_dc dc_62_0 4 rfl)) (
  jm_gc (pu_iload _ _) (sn_iload_n (i := 2) (jm_dc dc_62_0 5 rfl)) (
  jm_gc (pu_iload _ _) (sn_iload (jm_dc dc_62_0 6 rfl)) (
  jm_gc (pu_ibin _) (sn_iadd (jm_dc dc_62_0 7 rfl)) (
  jm_gc (pu_cgt _) (sn_cgt (jm_dc dc_62_0 8 rfl) (by decide)) (
  jm_gc (pu_iload _ _) (sn_iload_n (i := 1) (jm_dc dc_62_0 9 rfl)) (
  jm_gc (pu_iload _ _) (sn_iload (jm_dc dc_62_0 10 rfl)) (
  jm_gc (pu_ibin _) (sn_isub (jm_dc dc_62_0 11 rfl)) (
  jm_gc (pu_istore _ _) (sn_istore (jm_dc dc_62_0 12 rfl)) (
  jm_gc (pu_iload _ _) (sn_iload (jm_dc dc_62_0 13 rfl)) (
  jm_gc (pu_iload _ _) (sn_iload_n (i := 1) (jm_dc dc_62_0 14 rfl)) (
  jm_gc (pu_iload _ _) (sn_iload (jm_dc dc_62_0 15 rfl)) (
  jm_gc (pu_ibin _) (sn_iadd (jm_dc dc_62_0 16 rfl)) (
  jm_gc (pu_cgt _) (sn_cgt (jm_dc dc_62_0 17 rfl) (by decide)) (
  jm_gc (pu_aload _ _) (sn_aload_n (i := 0) (jm_dc dc_62_0 18 rfl)) (
  jm_gc (pu_getA _ _) (sn_getA (jm_dc dc_62_0 19 rfl) fl_5_9 rfl) (
  jm_gc (pu_iload _ _) (sn_iload (jm_dc dc_62_0 20 rfl)) (
  jm_gc (pu_ic _ _) (sn_iconst (jm_dc dc_62_0 21 rfl) (by decide)) (
  jm_gc (pu_ibin _) (sn_iadd (jm_dc dc_62_0 22 rfl)) (
  jm_gc (pu_ic _ _) (sn_bipush (jm_dc dc_62_0 23 rfl) (by decide)) (
  jm_gc (pu_ibin _) (sn_imul (jm_dc dc_62_0 24 rfl)) (
  jm_gn)))))))))))))))))))))))))
theorem dc_62_1 : ([(41, .iload 6, 2), (43, .iadd, 1), (44, .iconst 3, 1), (45, .iadd, 1), (46, .dup2, 1), (47, .iaload, 1), (48, .iload_n 3, 1), (49, .ior, 1), (50, .iastore, 1), (51, .iinc 6 1, 3), (54, .goto (-33), 3), (57, .iinc 5 1, 3), (60, .goto (-54), 3), (63, .return_, 1)] : List (Nat × Instr × Nat)).all (fun e => decide (decode prog_7_method_7_code e.1 = .ok e.2)) = true := by decide +kernel
abbrev cl_62_1 : List (Nat × jm_O) := [(41, op_iload 6 2), (43, op_ibin (fun x y => x + y)), (44, op_ic 3 1), (45, op_ibin (fun x y => x + y)), (46, op_dup2), (47, op_iald 13), (48, op_iload 3 1), (49, op_ibin (fun x y => x ||| y)), (50, op_iast), (51, op_iinc 6 1), (54, op_goto 21), (57, op_iinc 5 1), (60, op_goto 6), (63, op_vret)]
set_option maxRecDepth 100000 in
theorem gl_62_1 : jm_gl "FrescoWall$Photo" prog_7_method_7_code 7 (Option.none : Option Jvm.ClassFile.FieldType) false cl_62_1 :=
  jm_gc (pu_iload _ _) (sn_iload (jm_dc dc_62_1 0 rfl)) (
  jm_gc (pu_ibin _) (sn_iadd (jm_dc dc_62_1 1 rfl)) (
  jm_gc (pu_ic _ _) (sn_iconst (jm_dc dc_62_1 2 rfl) (by decide)) (
  jm_gc (pu_ibin _) (sn_iadd (jm_dc dc_62_1 3 rfl)) (
  jm_gc (pu_dup2) (sn_dup2 (jm_dc dc_62_1 4 rfl)) (
  jm_gc (pu_iald _) (sn_iald (jm_dc dc_62_1 5 rfl)) (
  jm_gc (pu_iload _ _) (sn_iload_n (i := 3) (jm_dc dc_62_1 6 rfl)) (
  jm_gc (pu_ibin _) (sn_ior (jm_dc dc_62_1 7 rfl)) (
  jm_gc (pu_iast) (sn_iast (jm_dc dc_62_1 8 rfl)) (
  jm_gc (pu_iinc _ _) (sn_iinc (jm_dc dc_62_1 9 rfl) (by decide)) (
  jm_gc (pu_goto _) (sn_goto (jm_dc dc_62_1 10 rfl) (by decide)) (
  jm_gc (pu_iinc _ _) (sn_iinc (jm_dc dc_62_1 11 rfl) (by decide)) (
  jm_gc (pu_goto _) (sn_goto (jm_dc dc_62_1 12 rfl) (by decide)) (
  jm_gc (pu_vret) (sn_vret (jm_dc dc_62_1 13 rfl) rfl) (
  jm_gn))))))))))))))
theorem dc_63_0 : ([(0, .iconst 0, 1), (1, .istore 5, 2), (3, .iconst 0, 1), (4, .istore 6, 2), (6, .iload 6, 2), (8, .aload_n 1, 1), (9, .getfield 54, 3), (12, .if_icmp .ge 133, 3), (15, .iload_n 2, 1), (16, .aload_n 1, 1), (17, .getfield 59, 3), (20, .iload 6, 2), (22, .iaload, 1), (23, .aload_n 1, 1), (24, .getfield 62, 3), (27, .iload 6, 2), (29, .iaload, 1), (30, .invokestatic 65, 3), (33, .iload_n 3, 1), (34, .iadd, 1), (35, .aload_n 0, 1), (36, .getfield 44, 3), (39, .isub, 1), (40, .iconst 3, 1), (41, .iadd, 1)] : List (Nat × Instr × Nat)).all (fun e => decide (decode prog_7_method_8_code e.1 = .ok e.2)) = true := by decide +kernel
abbrev cl_63_0 : List (Nat × jm_O) := [(0, op_ic 0 1), (1, op_istore 5 2), (3, op_ic 0 1), (4, op_istore 6 2), (6, op_iload 6 2), (8, op_aload 1 1), (9, op_getI 1 7), (12, op_cge 145), (15, op_iload 2 1), (16, op_aload 1 1), (17, op_getA 1 8), (20, op_iload 6 2), (22, op_iald 13), (23, op_aload 1 1), (24, op_getA 1 9), (27, op_iload 6 2), (29, op_iald 13), (30, op_callS 311 3), (33, op_iload 3 1), (34, op_ibin (fun x y => x + y)), (35, op_aload 0 1), (36, op_getI 5 3), (39, op_ibin (fun x y => x - y)), (40, op_ic 3 1), (41, op_ibin (fun x y => x + y))]
set_option maxRecDepth 100000 in
theorem gl_63_0 : jm_gl "FrescoWall$Photo" prog_7_method_8_code 10 (Option.some Jvm.ClassFile.FieldType.int) false cl_63_0 :=
  jm_gc (pu_ic _ _) (sn_iconst (jm_dc dc_63_0 0 rfl) (by decide)) (
  jm_gc (pu_istore _ _) (sn_istore (jm_dc dc_63_0 1 rfl)) (
  jm_gc (pu_ic _ _) (sn_iconst (jm_dc dc_63_0 2 rfl) (by decide)) (
  jm_gc (pu_istore _ _) (sn_istore (jm_dc dc_63_0 3 rfl)) (
  jm_gc (pu_iload _ _) (sn_iload (jm_dc dc_63_0 4 rfl)) (
  jm_gc (pu_aload _ _) (sn_aload_n (i := 1) (jm_dc dc_63_0 5 rfl)) (
  jm_gc (pu_getI _ _) (sn_getI (jm_dc dc_63_0 6 rfl) fl_5_54 (Or.inl rfl)) (
  jm_gc (pu_cge _) (sn_cge (jm_dc dc_63_0 7 rfl) (by decide)) (
  jm_gc (pu_iload _ _) (sn_iload_n (i := 2) (jm_dc dc_63_0 8 rfl)) (
  jm_gc (pu_aload _ _) (sn_aload_n (i := 1) (jm_dc dc_63_0 9 rfl)) (
  jm_gc (pu_getA _ _) (sn_getA (jm_dc dc_63_0 10 rfl) fl_5_59 rfl) (
  jm_gc (pu_iload _ _) (sn_iload (jm_dc dc_63_0 11 rfl)) (
  jm_gc (pu_iald _) (sn_iald (jm_dc dc_63_0 12 rfl)) (
  jm_gc (pu_aload _ _) (sn_aload_n (i := 1) (jm_dc dc_63_0 13 rfl)) (
  jm_gc (pu_getA _ _) (sn_getA (jm_dc dc_63_0 14 rfl) fl_5_62 rfl) (
  jm_gc (pu_iload _ _) (sn_iload (jm_dc dc_63_0 15 rfl)) (
  jm_gc (pu_iald _) (sn_iald (jm_dc dc_63_0 16 rfl)) (
  jm_gc (pu_callS _ _) (sn_callS (jm_dc dc_63_0 17 rfl) lk_5_65) (
  jm_gc (pu_iload _ _) (sn_iload_n (i := 3) (jm_dc dc_63_0 18 rfl)) (
  jm_gc (pu_ibin _) (sn_iadd (jm_dc dc_63_0 19 rfl)) (
  jm_gc (pu_aload _ _) (sn_aload_n (i := 0) (jm_dc dc_63_0 20 rfl)) (
  jm_gc (pu_getI _ _) (sn_getI (jm_dc dc_63_0 21 rfl) fl_5_44 (Or.inl rfl)) (
  jm_gc (pu_ibin _) (sn_isub (jm_dc dc_63_0 22 rfl)) (
  jm_gc (pu_ic _ _) (sn_iconst (jm_dc dc_63_0 23 rfl) (by decide)) (
  jm_gc (pu_ibin _) (sn_iadd (jm_dc dc_63_0 24 rfl)) (
  jm_gn)))))))))))))))))))))))))
theorem dc_63_1 : ([(42, .istore 7, 2), (44, .iload_n 2, 1), (45, .aload_n 1, 1), (46, .getfield 59, 3), (49, .iload 6, 2), (51, .iaload, 1), (52, .aload_n 1, 1), (53, .getfield 62, 3), (56, .iload 6, 2), (58, .iaload, 1), (59, .invokestatic 71, 3), (62, .iload 4, 2), (64, .iadd, 1), (65, .aload_n 0, 1), (66, .getfield 47, 3), (69, .isub, 1), (70, .iconst 3, 1), (71, .iadd, 1), (72, .istore 8, 2), (74, .iload 7, 2), (76, .ifCond .lt 26, 3), (79, .iload 7, 2), (81, .bipush 22, 2), (83, .if_icmp .ge 19, 3), (86, .iload 8, 2)] : List (Nat × Instr × Nat)).all (fun e => decide (decode prog_7_method_8_code e.1 = .ok e.2)) = true := by decide +kernel
abbrev cl_63_1 : List (Nat × jm_O) := [(42, op_istore 7 2), (44, op_iload 2 1), (45, op_aload 1 1), (46, op_getA 1 8), (49, op_iload 6 2), (51, op_iald 13), (52, op_aload 1 1), (53, op_getA 1 9), (56, op_iload 6 2), (58, op_iald 13), (59, op_callS 312 3), (62, op_iload 4 2), (64, op_ibin (fun x y => x + y)), (65, op_aload 0 1), (66, op_getI 5 4), (69, op_ibin (fun x y => x - y)), (70, op_ic 3 1), (71, op_ibin (fun x y => x + y)), (72, op_istore 8 2), (74, op_iload 7 2), (76, op_iflt 102), (79, op_iload 7 2), (81, op_ic 22 2), (83, op_cge 102), (86, op_iload 8 2)]
set_option maxRecDepth 100000 in
theorem gl_63_1 : jm_gl "FrescoWall$Photo" prog_7_method_8_code 10 (Option.some Jvm.ClassFile.FieldType.int) false cl_63_1 :=
  jm_gc (pu_istore _ _) (sn_istore (jm_dc dc_63_1 0 rfl)) (
  jm_gc (pu_iload _ _) (sn_iload_n (i := 2) (jm_dc dc_63_1 1 rfl)) (
  jm_gc (pu_aload _ _) (sn_aload_n (i := 1) (jm_dc dc_63_1 2 rfl)) (
  jm_gc (pu_getA _ _) (sn_getA (jm_dc dc_63_1 3 rfl) fl_5_59 rfl) (
  jm_gc (pu_iload _ _) (sn_iload (jm_dc dc_63_1 4 rfl)) (
  jm_gc (pu_iald _) (sn_iald (jm_dc dc_63_1 5 rfl)) (
  jm_gc (pu_aload _ _) (sn_aload_n (i := 1) (jm_dc dc_63_1 6 rfl)) (
  jm_gc (pu_getA _ _) (sn_getA (jm_dc dc_63_1 7 rfl) fl_5_62 rfl) (
  jm_gc (pu_iload _ _) (sn_iload (jm_dc dc_63_1 8 rfl)) (
  jm_gc (pu_iald _) (sn_iald (jm_dc dc_63_1 9 rfl)) (
  jm_gc (pu_callS _ _) (sn_callS (jm_dc dc_63_1 10 rfl) lk_5_71) (
  jm_gc (pu_iload _ _) (sn_iload (jm_dc dc_63_1 11 rfl)) (
  jm_gc (pu_ibin _) (sn_iadd (jm_dc dc_63_1 12 rfl)) (
  jm_gc (pu_aload _ _) (sn_aload_n (i := 0) (jm_dc dc_63_1 13 rfl)) (
  jm_gc (pu_getI _ _) (sn_getI (jm_dc dc_63_1 14 rfl) fl_5_47 (Or.inl rfl)) (
  jm_gc (pu_ibin _) (sn_isub (jm_dc dc_63_1 15 rfl)) (
  jm_gc (pu_ic _ _) (sn_iconst (jm_dc dc_63_1 16 rfl) (by decide)) (
  jm_gc (pu_ibin _) (sn_iadd (jm_dc dc_63_1 17 rfl)) (
  jm_gc (pu_istore _ _) (sn_istore (jm_dc dc_63_1 18 rfl)) (
  jm_gc (pu_iload _ _) (sn_iload (jm_dc dc_63_1 19 rfl)) (
  jm_gc (pu_iflt _) (sn_iflt (jm_dc dc_63_1 20 rfl) (by decide)) (
  jm_gc (pu_iload _ _) (sn_iload (jm_dc dc_63_1 21 rfl)) (
  jm_gc (pu_ic _ _) (sn_bipush (jm_dc dc_63_1 22 rfl) (by decide)) (
  jm_gc (pu_cge _) (sn_cge (jm_dc dc_63_1 23 rfl) (by decide)) (
  jm_gc (pu_iload _ _) (sn_iload (jm_dc dc_63_1 24 rfl)) (
  jm_gn)))))))))))))))))))))))))
theorem dc_63_2 : ([(88, .ifCond .lt 14, 3), (91, .iload 8, 2), (93, .bipush 22, 2), (95, .if_icmp .ge 7, 3), (98, .iconst 1, 1), (99, .goto 4, 3), (102, .iconst 0, 1), (103, .istore 9, 2), (105, .iload 9, 2), (107, .ifCond .eq 32, 3), (110, .aload_n 0, 1), (111, .getfield 9, 3), (114, .iload 8, 2), (116, .bipush 22, 2), (118, .imul, 1), (119, .iload 7, 2), (121, .iadd, 1), (122, .iaload, 1), (123, .aload_n 1, 1), (124, .getfield 74, 3), (127, .iload 6, 2), (129, .iaload, 1), (130, .ishr, 1), (131, .iconst 1, 1), (132, .iand, 1)] : List (Nat × Instr × Nat)).all (fun e => decide (decode prog_7_method_8_code e.1 = .ok e.2)) = true := by decide +kernel
abbrev cl_63_2 : List (Nat × jm_O) := [(88, op_iflt 102), (91, op_iload 8 2), (93, op_ic 22 2), (95, op_cge 102), (98, op_ic 1 1), (99, op_goto 103), (102, op_ic 0 1), (103, op_istore 9 2), (105, op_iload 9 2), (107, op_ifeq 139), (110, op_aload 0 1), (111, op_getA 5 0), (114, op_iload 8 2), (116, op_ic 22 2), (118, op_ibin (fun x y => x * y)), (119, op_iload 7 2), (121, op_ibin (fun x y => x + y)), (122, op_iald 13), (123, op_aload 1 1), (124, op_getA 1 10), (127, op_iload 6 2), (129, op_iald 13), (130, op_ibin (fun x y => x >>> (y &&& 31))), (131, op_ic 1 1), (132, op_ibin (fun x y => x &&& y))]
set_option maxRecDepth 100000 in
theorem gl_63_2 : jm_gl "FrescoWall$Photo" prog_7_method_8_code 10 (Option.some Jvm.ClassFile.FieldType.int) false cl_63_2 :=
  jm_gc (pu_iflt _) (sn_iflt (jm_dc dc_63_2 0 rfl) (by decide)) (
  jm_gc (pu_iload _ _) (sn_iload (jm_dc dc_63_2 1 rfl)) (
  jm_gc (pu_ic _ _) (sn_bipush (jm_dc dc_63_2 2 rfl) (by decide)) (
  jm_gc (pu_cge _) (sn_cge (jm_dc dc_63_2 3 rfl) (by decide)) (
  jm_gc (pu_ic _ _) (sn_iconst (jm_dc dc_63_2 4 rfl) (by decide)) (
  jm_gc (pu_goto _) (sn_goto (jm_dc dc_63_2 5 rfl) (by decide)) (
  jm_gc (pu_ic _ _) (sn_iconst (jm_dc dc_63_2 6 rfl) (by decide)) (
  jm_gc (pu_istore _ _) (sn_istore (jm_dc dc_63_2 7 rfl)) (
  jm_gc (pu_iload _ _) (sn_iload (jm_dc dc_63_2 8 rfl)) (
  jm_gc (pu_ifeq _) (sn_ifeq (jm_dc dc_63_2 9 rfl) (by decide)) (
  jm_gc (pu_aload _ _) (sn_aload_n (i := 0) (jm_dc dc_63_2 10 rfl)) (
  jm_gc (pu_getA _ _) (sn_getA (jm_dc dc_63_2 11 rfl) fl_5_9 rfl) (
  jm_gc (pu_iload _ _) (sn_iload (jm_dc dc_63_2 12 rfl)) (
  jm_gc (pu_ic _ _) (sn_bipush (jm_dc dc_63_2 13 rfl) (by decide)) (
  jm_gc (pu_ibin _) (sn_imul (jm_dc dc_63_2 14 rfl)) (
  jm_gc (pu_iload _ _) (sn_iload (jm_dc dc_63_2 15 rfl)) (
  jm_gc (pu_ibin _) (sn_iadd (jm_dc dc_63_2 16 rfl)) (
  jm_gc (pu_iald _) (sn_iald (jm_dc dc_63_2 17 rfl)) (
  jm_gc (pu_aload _ _) (sn_aload_n (i := 1) (jm_dc dc_63_2 18 rfl)) (
  jm_gc (pu_getA _ _) (sn_getA (jm_dc dc_63_2 19 rfl) fl_5_74 rfl) (
  jm_gc (pu_iload _ _) (sn_iload (jm_dc dc_63_2 20 rfl)) (
  jm_gc (pu_iald _) (sn_iald (jm_dc dc_63_2 21 rfl)) (
  jm_gc (pu_ibin _) (sn_ishr (jm_dc dc_63_2 22 rfl)) (
  jm_gc (pu_ic _ _) (sn_iconst (jm_dc dc_63_2 23 rfl) (by decide)) (
  jm_gc (pu_ibin _) (sn_iand (jm_dc dc_63_2 24 rfl)) (
  jm_gn)))))))))))))))))))))))))
theorem dc_63_3 : ([(133, .ifCond .eq 6, 3), (136, .iinc 5 1, 3), (139, .iinc 6 1, 3), (142, .goto (-136), 3), (145, .iload 5, 2), (147, .ireturn, 1)] : List (Nat × Instr × Nat)).all (fun e => decide (decode prog_7_method_8_code e.1 = .ok e.2)) = true := by decide +kernel
abbrev cl_63_3 : List (Nat × jm_O) := [(133, op_ifeq 139), (136, op_iinc 5 1), (139, op_iinc 6 1), (142, op_goto 6), (145, op_iload 5 2), (147, op_iret)]
set_option maxRecDepth 100000 in
theorem gl_63_3 : jm_gl "FrescoWall$Photo" prog_7_method_8_code 10 (Option.some Jvm.ClassFile.FieldType.int) false cl_63_3 :=
  jm_gc (pu_ifeq _) (sn_ifeq (jm_dc dc_63_3 0 rfl) (by decide)) (
  jm_gc (pu_iinc _ _) (sn_iinc (jm_dc dc_63_3 1 rfl) (by decide)) (
  jm_gc (pu_iinc _ _) (sn_iinc (jm_dc dc_63_3 2 rfl) (by decide)) (
  jm_gc (pu_goto _) (sn_goto (jm_dc dc_63_3 3 rfl) (by decide)) (
  jm_gc (pu_iload _ _) (sn_iload (jm_dc dc_63_3 4 rfl)) (
  jm_gc (pu_iret) (sn_iret (jm_dc dc_63_3 5 rfl) rfl) (
  jm_gn))))))
theorem dc_64_0 : ([(0, .aload_n 0, 1), (1, .iconst (-1), 1), (2, .putfield 77, 3), (5, .aload_n 0, 1), (6, .iconst 0, 1), (7, .putfield 80, 3), (10, .aload_n 1, 1), (11, .getfield 54, 3), (14, .ifCond .ne 5, 3), (17, .iconst 0, 1), (18, .ireturn, 1), (19, .iconst 0, 1), (20, .istore_n 2, 1), (21, .iload_n 2, 1), (22, .iconst 4, 1), (23, .if_icmp .ge 15, 3), (26, .aload_n 0, 1), (27, .aload_n 1, 1), (28, .iload_n 2, 1), (29, .invokevirtual 83, 3), (32, .iinc 2 1, 3), (35, .goto (-14), 3), (38, .aload_n 0, 1), (39, .getfield 77, 3), (42, .ifCond .lt 7, 3)] : List (Nat × Instr × Nat)).all (fun e => decide (decode prog_7_method_9_code e.1 = .ok e.2)) = true := by decide +kernel
abbrev cl_64_0 : List (Nat × jm_O) := [(0, op_aload 0 1), (1, op_ic (-1) 1), (2, op_putI 5 6), (5, op_aload 0 1), (6, op_ic 0 1), (7, op_putI 5 7), (10, op_aload 1 1), (11, op_getI 1 7), (14, op_ifne 19), (17, op_ic 0 1), (18, op_zret), (19, op_ic 0 1), (20, op_istore 2 1), (21, op_iload 2 1), (22, op_ic 4 1), (23, op_cge 38), (26, op_aload 0 1), (27, op_aload 1 1), (28, op_iload 2 1), (29, op_callV 5 65 3), (32, op_iinc 2 1), (35, op_goto 21), (38, op_aload 0 1), (39, op_getI 5 6), (42, op_iflt 49)]
set_option maxRecDepth 100000 in
theorem gl_64_0 : jm_gl "FrescoWall$Photo" prog_7_method_9_code 3 (Option.some Jvm.ClassFile.FieldType.boolean) false cl_64_0 :=
  jm_gc (pu_aload _ _) (sn_aload_n (i := 0) (jm_dc dc_64_0 0 rfl)) (
  jm_gc (pu_ic _ _) (sn_iconst (jm_dc dc_64_0 1 rfl) (by decide)) (
  jm_gc (pu_putI _ _) (sn_putI (jm_dc dc_64_0 2 rfl) flw_5_77 rfl) (
  jm_gc (pu_aload _ _) (sn_aload_n (i := 0) (jm_dc dc_64_0 3 rfl)) (
  jm_gc (pu_ic _ _) (sn_iconst (jm_dc dc_64_0 4 rfl) (by decide)) (
  jm_gc (pu_putI _ _) (sn_putI (jm_dc dc_64_0 5 rfl) flw_5_80 rfl) (
  jm_gc (pu_aload _ _) (sn_aload_n (i := 1) (jm_dc dc_64_0 6 rfl)) (
  jm_gc (pu_getI _ _) (sn_getI (jm_dc dc_64_0 7 rfl) fl_5_54 (Or.inl rfl)) (
  jm_gc (pu_ifne _) (sn_ifne (jm_dc dc_64_0 8 rfl) (by decide)) (
  jm_gc (pu_ic _ _) (sn_iconst (jm_dc dc_64_0 9 rfl) (by decide)) (
  jm_gc (pu_zret) (sn_zret (jm_dc dc_64_0 10 rfl) rfl) (
  jm_gc (pu_ic _ _) (sn_iconst (jm_dc dc_64_0 11 rfl) (by decide)) (
  jm_gc (pu_istore _ _) (sn_istore_n (i := 2) (jm_dc dc_64_0 12 rfl)) (
  jm_gc (pu_iload _ _) (sn_iload_n (i := 2) (jm_dc dc_64_0 13 rfl)) (
  jm_gc (pu_ic _ _) (sn_iconst (jm_dc dc_64_0 14 rfl) (by decide)) (
  jm_gc (pu_cge _) (sn_cge (jm_dc dc_64_0 15 rfl) (by decide)) (
  jm_gc (pu_aload _ _) (sn_aload_n (i := 0) (jm_dc dc_64_0 16 rfl)) (
  jm_gc (pu_aload _ _) (sn_aload_n (i := 1) (jm_dc dc_64_0 17 rfl)) (
  jm_gc (pu_iload _ _) (sn_iload_n (i := 2) (jm_dc dc_64_0 18 rfl)) (
  jm_gc (pu_callV _ _ _) (sn_callV (jm_dc dc_64_0 19 rfl) lk_5_83) (
  jm_gc (pu_iinc _ _) (sn_iinc (jm_dc dc_64_0 20 rfl) (by decide)) (
  jm_gc (pu_goto _) (sn_goto (jm_dc dc_64_0 21 rfl) (by decide)) (
  jm_gc (pu_aload _ _) (sn_aload_n (i := 0) (jm_dc dc_64_0 22 rfl)) (
  jm_gc (pu_getI _ _) (sn_getI (jm_dc dc_64_0 23 rfl) fl_5_77 (Or.inl rfl)) (
  jm_gc (pu_iflt _) (sn_iflt (jm_dc dc_64_0 24 rfl) (by decide)) (
  jm_gn)))))))))))))))))))))))))
theorem dc_64_1 : ([(45, .iconst 1, 1), (46, .goto 4, 3), (49, .iconst 0, 1), (50, .ireturn, 1)] : List (Nat × Instr × Nat)).all (fun e => decide (decode prog_7_method_9_code e.1 = .ok e.2)) = true := by decide +kernel
abbrev cl_64_1 : List (Nat × jm_O) := [(45, op_ic 1 1), (46, op_goto 50), (49, op_ic 0 1), (50, op_zret)]
set_option maxRecDepth 100000 in
theorem gl_64_1 : jm_gl "FrescoWall$Photo" prog_7_method_9_code 3 (Option.some Jvm.ClassFile.FieldType.boolean) false cl_64_1 :=
  jm_gc (pu_ic _ _) (sn_iconst (jm_dc dc_64_1 0 rfl) (by decide)) (
  jm_gc (pu_goto _) (sn_goto (jm_dc dc_64_1 1 rfl) (by decide)) (
  jm_gc (pu_ic _ _) (sn_iconst (jm_dc dc_64_1 2 rfl) (by decide)) (
  jm_gc (pu_zret) (sn_zret (jm_dc dc_64_1 3 rfl) rfl) (
  jm_gn))))
theorem dc_65_0 : ([(0, .iload_n 2, 1), (1, .aload_n 1, 1), (2, .getfield 59, 3), (5, .iconst 0, 1), (6, .iaload, 1), (7, .aload_n 1, 1), (8, .getfield 62, 3), (11, .iconst 0, 1), (12, .iaload, 1), (13, .invokestatic 65, 3), (16, .istore_n 3, 1), (17, .iload_n 2, 1), (18, .aload_n 1, 1), (19, .getfield 59, 3), (22, .iconst 0, 1), (23, .iaload, 1), (24, .aload_n 1, 1), (25, .getfield 62, 3), (28, .iconst 0, 1), (29, .iaload, 1), (30, .invokestatic 71, 3), (33, .istore 4, 2), (35, .iload_n 3, 1), (36, .istore 5, 2), (38, .iload 4, 2)] : List (Nat × Instr × Nat)).all (fun e => decide (decode prog_7_method_10_code e.1 = .ok e.2)) = true := by decide +kernel
abbrev cl_65_0 : List (Nat × jm_O) := [(0, op_iload 2 1), (1, op_aload 1 1), (2, op_getA 1 8), (5, op_ic 0 1), (6, op_iald 13), (7, op_aload 1 1), (8, op_getA 1 9), (11, op_ic 0 1), (12, op_iald 13), (13, op_callS 311 3), (16, op_istore 3 1), (17, op_iload 2 1), (18, op_aload 1 1), (19, op_getA 1 8), (22, op_ic 0 1), (23, op_iald 13), (24, op_aload 1 1), (25, op_getA 1 9), (28, op_ic 0 1), (29, op_iald 13), (30, op_callS 312 3), (33, op_istore 4 2), (35, op_iload 3 1), (36, op_istore 5 2), (38, op_iload 4 2)]
set_option maxRecDepth 100000 in
theorem gl_65_0 : jm_gl "FrescoWall$Photo" prog_7_method_10_code 10 (Option.none : Option Jvm.ClassFile.FieldType) false cl_65_0 :=
  jm_gc (pu_iload _ _) (sn_iload_n (i := 2) (jm_dc dc_65_0 0 rfl)) (
  jm_gc (pu_aload _ _) (sn_aload_n (i := 1) (jm_dc dc_65_0 1 rfl)) (
  jm_gc (pu_getA _ _) (sn_getA (jm_dc dc_65_0 2 rfl) fl_5_59 rfl) (
  jm_gc (pu_ic _ _) (sn_iconst (jm_dc dc_65_0 3 rfl) (by decide)) (
  jm_gc (pu_iald _) (sn_iald (jm_dc dc_65_0 4 rfl)) (
  jm_gc (pu_aload _ _) (sn_aload_n (i := 1) (jm_dc dc_65_0 5 rfl)) (
  jm_gc (pu_getA _ _) (sn_getA (jm_dc dc_65_0 6 rfl) fl_5_62 rfl) (
  jm_gc (pu_ic _ _) (sn_iconst (jm_dc dc_65_0 7 rfl) (by decide)) (
  jm_gc (pu_iald _) (sn_iald (jm_dc dc_65_0 8 rfl)) (
  jm_gc (pu_callS _ _) (sn_callS (jm_dc dc_65_0 9 rfl) lk_5_65) (
  jm_gc (pu_istore _ _) (sn_istore_n (i := 3) (jm_dc dc_65_0 10 rfl)) (
  jm_gc (pu_iload _ _) (sn_iload_n (i := 2) (jm_dc dc_65_0 11 rfl)) (
  jm_gc (pu_aload _ _) (sn_aload_n (i := 1) (jm_dc dc_65_0 12 rfl)) (
  jm_gc (pu_getA _ _) (sn_getA (jm_dc dc_65_0 13 rfl) fl_5_59 rfl) (
  jm_gc (pu_ic _ _) (sn_iconst (jm_dc dc_65_0 14 rfl) (by decide)) (
  jm_gc (pu_iald _) (sn_iald (jm_dc dc_65_0 15 rfl)) (
  jm_gc (pu_aload _ _) (sn_aload_n (i := 1) (jm_dc dc_65_0 16 rfl)) (
  jm_gc (pu_getA _ _) (sn_getA (jm_dc dc_65_0 17 rfl) fl_5_62 rfl) (
  jm_gc (pu_ic _ _) (sn_iconst (jm_dc dc_65_0 18 rfl) (by decide)) (
  jm_gc (pu_iald _) (sn_iald (jm_dc dc_65_0 19 rfl)) (
  jm_gc (pu_callS _ _) (sn_callS (jm_dc dc_65_0 20 rfl) lk_5_71) (
  jm_gc (pu_istore _ _) (sn_istore (jm_dc dc_65_0 21 rfl)) (
  jm_gc (pu_iload _ _) (sn_iload_n (i := 3) (jm_dc dc_65_0 22 rfl)) (
  jm_gc (pu_istore _ _) (sn_istore (jm_dc dc_65_0 23 rfl)) (
  jm_gc (pu_iload _ _) (sn_iload (jm_dc dc_65_0 24 rfl)) (
  jm_gn)))))))))))))))))))))))))
theorem dc_65_1 : ([(40, .istore 6, 2), (42, .iconst 1, 1), (43, .istore 7, 2), (45, .iload 7, 2), (47, .aload_n 1, 1), (48, .getfield 54, 3), (51, .if_icmp .ge 83, 3), (54, .iload_n 2, 1), (55, .aload_n 1, 1), (56, .getfield 59, 3), (59, .iload 7, 2), (61, .iaload, 1), (62, .aload_n 1, 1), (63, .getfield 62, 3), (66, .iload 7, 2), (68, .iaload, 1), (69, .invokestatic 65, 3), (72, .istore 8, 2), (74, .iload_n 2, 1), (75, .aload_n 1, 1), (76, .getfield 59, 3), (79, .iload 7, 2), (81, .iaload, 1), (82, .aload_n 1, 1), (83, .getfield 62, 3)] : List (Nat × Instr × Nat)).all (fun e => decide (decode prog_7_method_10_code e.1 = .ok e.2)) = true := by decide +kernel
abbrev cl_65_1 : List (Nat × jm_O) := [(40, op_istore 6 2), (42, op_ic 1 1), (43, op_istore 7 2), (45, op_iload 7 2), (47, op_aload 1 1), (48, op_getI 1 7), (51, op_cge 134), (54, op_iload 2 1), (55, op_aload 1 1), (56, op_getA 1 8), (59, op_iload 7 2), (61, op_iald 13), (62, op_aload 1 1), (63, op_getA 1 9), (66, op_iload 7 2), (68, op_iald 13), (69, op_callS 311 3), (72, op_istore 8 2), (74, op_iload 2 1), (75, op_aload 1 1), (76, op_getA 1 8), (79, op_iload 7 2), (81, op_iald 13), (82, op_aload 1 1), (83, op_getA 1 9)]
set_option maxRecDepth 100000 in
theorem gl_65_1 : jm_gl "FrescoWall$Photo" prog_7_method_10_code 10 (Option.none : Option Jvm.ClassFile.FieldType) false cl_65_1 :=
  jm_gc (pu_istore _ _) (sn_istore (jm_dc dc_65_1 0 rfl)) (
  jm_gc (pu_ic _ _) (sn_iconst (jm_dc dc_65_1 1 rfl) (by decide)) (
  jm_gc (pu_istore _ _) (sn_istore (jm_dc dc_65_1 2 rfl)) (
  jm_gc (pu_iload _ _) (sn_iload (jm_dc dc_65_1 3 rfl)) (
  jm_gc (pu_aload _ _) (sn_aload_n (i := 1) (jm_dc dc_65_1 4 rfl)) (
  jm_gc (pu_getI _ _) (sn_getI (jm_dc dc_65_1 5 rfl) fl_5_54 (Or.inl rfl)) (
  jm_gc (pu_cge _) (sn_cge (jm_dc dc_65_1 6 rfl) (by decide)) (
  jm_gc (pu_iload _ _) (sn_iload_n (i := 2) (jm_dc dc_65_1 7 rfl)) (
  jm_gc (pu_aload _ _) (sn_aload_n (i := 1) (jm_dc dc_65_1 8 rfl)) (
  jm_gc (pu_getA _ _) (sn_getA (jm_dc dc_65_1 9 rfl) fl_5_59 rfl) (
  jm_gc (pu_iload _ _) (sn_iload (jm_dc dc_65_1 10 rfl)) (
  jm_gc (pu_iald _) (sn_iald (jm_dc dc_65_1 11 rfl)) (
  jm_gc (pu_aload _ _) (sn_aload_n (i := 1) (jm_dc dc_65_1 12 rfl)) (
  jm_gc (pu_getA _ _) (sn_getA (jm_dc dc_65_1 13 rfl) fl_5_62 rfl) (
  jm_gc (pu_iload _ _) (sn_iload (jm_dc dc_65_1 14 rfl)) (
  jm_gc (pu_iald _) (sn_iald (jm_dc dc_65_1 15 rfl)) (
  jm_gc (pu_callS _ _) (sn_callS (jm_dc dc_65_1 16 rfl) lk_5_65) (
  jm_gc (pu_istore _ _) (sn_istore (jm_dc dc_65_1 17 rfl)) (
  jm_gc (pu_iload _ _) (sn_iload_n (i := 2) (jm_dc dc_65_1 18 rfl)) (
  jm_gc (pu_aload _ _) (sn_aload_n (i := 1) (jm_dc dc_65_1 19 rfl)) (
  jm_gc (pu_getA _ _) (sn_getA (jm_dc dc_65_1 20 rfl) fl_5_59 rfl) (
  jm_gc (pu_iload _ _) (sn_iload (jm_dc dc_65_1 21 rfl)) (
  jm_gc (pu_iald _) (sn_iald (jm_dc dc_65_1 22 rfl)) (
  jm_gc (pu_aload _ _) (sn_aload_n (i := 1) (jm_dc dc_65_1 23 rfl)) (
  jm_gc (pu_getA _ _) (sn_getA (jm_dc dc_65_1 24 rfl) fl_5_62 rfl) (
  jm_gn)))))))))))))))))))))))))
theorem dc_65_2 : ([(86, .iload 7, 2), (88, .iaload, 1), (89, .invokestatic 71, 3), (92, .istore 9, 2), (94, .iload_n 3, 1), (95, .iload 8, 2), (97, .invokestatic 87, 3), (100, .istore_n 3, 1), (101, .iload 4, 2), (103, .iload 9, 2), (105, .invokestatic 87, 3), (108, .istore 4, 2), (110, .iload 5, 2), (112, .iload 8, 2), (114, .invokestatic 93, 3), (117, .istore 5, 2), (119, .iload 6, 2), (121, .iload 9, 2), (123, .invokestatic 93, 3), (126, .istore 6, 2), (128, .iinc 7 1, 3), (131, .goto (-86), 3), (134, .aload_n 0, 1), (135, .getfield 47, 3), (138, .iload 4, 2)] : List (Nat × Instr × Nat)).all (fun e => decide (decode prog_7_method_10_code e.1 = .ok e.2)) = true := by decide +kernel
abbrev cl_65_2 : List (Nat × jm_O) := [(86, op_iload 7 2), (88, op_iald 13), (89, op_callS 312 3), (92, op_istore 9 2), (94, op_iload 3 1), (95, op_iload 8 2), (97, op_mmin), (100, op_istore 3 1), (101, op_iload 4 2), (103, op_iload 9 2), (105, op_mmin), (108, op_istore 4 2), (110, op_iload 5 2), (112, op_iload 8 2), (114, op_mmax), (117, op_istore 5 2), (119, op_iload 6 2), (121, op_iload 9 2), (123, op_mmax), (126, op_istore 6 2), (128, op_iinc 7 1), (131, op_goto 45), (134, op_aload 0 1), (135, op_getI 5 4), (138, op_iload 4 2)]
set_option maxRecDepth 100000 in
theorem gl_65_2 : jm_gl "FrescoWall$Photo" prog_7_method_10_code 10 (Option.none : Option Jvm.ClassFile.FieldType) false cl_65_2 :=
  jm_gc (pu_iload _ _) (sn_iload (jm_dc dc_65_2 0 rfl)) (
  jm_gc (pu_iald _) (sn_iald (jm_dc dc_65_2 1 rfl)) (
  jm_gc (pu_callS _ _) (sn_callS (jm_dc dc_65_2 2 rfl) lk_5_71) (
  jm_gc (pu_istore _ _) (sn_istore (jm_dc dc_65_2 3 rfl)) (
  jm_gc (pu_iload _ _) (sn_iload_n (i := 3) (jm_dc dc_65_2 4 rfl)) (
  jm_gc (pu_iload _ _) (sn_iload (jm_dc dc_65_2 5 rfl)) (
  jm_gc (pu_mmin) (sn_mmin (jm_dc dc_65_2 6 rfl) ⟨kc_tb 1043 (by decide +kernel), kc_tb 478 (by decide +kernel), kc_tb 13 (by decide +kernel), kc_tb 479 (by decide +kernel)⟩) (
  jm_gc (pu_istore _ _) (sn_istore_n (i := 3) (jm_dc dc_65_2 7 rfl)) (
  jm_gc (pu_iload _ _) (sn_iload (jm_dc dc_65_2 8 rfl)) (
  jm_gc (pu_iload _ _) (sn_iload (jm_dc dc_65_2 9 rfl)) (
  jm_gc (pu_mmin) (sn_mmin (jm_dc dc_65_2 10 rfl) ⟨kc_tb 1043 (by decide +kernel), kc_tb 478 (by decide +kernel), kc_tb 13 (by decide +kernel), kc_tb 479 (by decide +kernel)⟩) (
  jm_gc (pu_istore _ _) (sn_istore (jm_dc dc_65_2 11 rfl)) (
  jm_gc (pu_iload _ _) (sn_iload (jm_dc dc_65_2 12 rfl)) (
  jm_gc (pu_iload _ _) (sn_iload (jm_dc dc_65_2 13 rfl)) (
  jm_gc (pu_mmax) (sn_mmax (jm_dc dc_65_2 14 rfl) ⟨kc_tb 1044 (by decide +kernel), kc_tb 481 (by decide +kernel), kc_tb 13 (by decide +kernel), kc_tb 482 (by decide +kernel)⟩) (
  jm_gc (pu_istore _ _) (sn_istore (jm_dc dc_65_2 15 rfl)) (
  jm_gc (pu_iload _ _) (sn_iload (jm_dc dc_65_2 16 rfl)) (
  jm_gc (pu_iload _ _) (sn_iload (jm_dc dc_65_2 17 rfl)) (
  jm_gc (pu_mmax) (sn_mmax (jm_dc dc_65_2 18 rfl) ⟨kc_tb 1044 (by decide +kernel), kc_tb 481 (by decide +kernel), kc_tb 13 (by decide +kernel), kc_tb 482 (by decide +kernel)⟩) (
  jm_gc (pu_istore _ _) (sn_istore (jm_dc dc_65_2 19 rfl)) (
  jm_gc (pu_iinc _ _) (sn_iinc (jm_dc dc_65_2 20 rfl) (by decide)) (
  jm_gc (pu_goto _) (sn_goto (jm_dc dc_65_2 21 rfl) (by decide)) (
  jm_gc (pu_aload _ _) (sn_aload_n (i := 0) (jm_dc dc_65_2 22 rfl)) (
  jm_gc (pu_getI _ _) (sn_getI (jm_dc dc_65_2 23 rfl) fl_5_47 (Or.inl rfl)) (
  jm_gc (pu_iload _ _) (sn_iload (jm_dc dc_65_2 24 rfl)) (
  jm_gn)))))))))))))))))))))))))
theorem dc_65_3 : ([(140, .isub, 1), (141, .istore 7, 2), (143, .iload 7, 2), (145, .aload_n 0, 1), (146, .getfield 47, 3), (149, .aload_n 0, 1), (150, .getfield 41, 3), (153, .iadd, 1), (154, .iload 6, 2), (156, .isub, 1), (157, .if_icmp .ge 62, 3), (160, .aload_n 0, 1), (161, .getfield 44, 3), (164, .iload_n 3, 1), (165, .isub, 1), (166, .istore 8, 2), (168, .iload 8, 2), (170, .aload_n 0, 1), (171, .getfield 44, 3), (174, .aload_n 0, 1), (175, .getfield 13, 3), (178, .iadd, 1), (179, .iload 5, 2), (181, .isub, 1), (182, .if_icmp .ge 31, 3)] : List (Nat × Instr × Nat)).all (fun e => decide (decode prog_7_method_10_code e.1 = .ok e.2)) = true := by decide +kernel
abbrev cl_65_3 : List (Nat × jm_O) := [(140, op_ibin (fun x y => x - y)), (141, op_istore 7 2), (143, op_iload 7 2), (145, op_aload 0 1), (146, op_getI 5 4), (149, op_aload 0 1), (150, op_getI 5 2), (153, op_ibin (fun x y => x + y)), (154, op_iload 6 2), (156, op_ibin (fun x y => x - y)), (157, op_cge 219), (160, op_aload 0 1), (161, op_getI 5 3), (164, op_iload 3 1), (165, op_ibin (fun x y => x - y)), (166, op_istore 8 2), (168, op_iload 8 2), (170, op_aload 0 1), (171, op_getI 5 3), (174, op_aload 0 1), (175, op_getI 5 1), (178, op_ibin (fun x y => x + y)), (179, op_iload 5 2), (181, op_ibin (fun x y => x - y)), (182, op_cge 213)]
set_option maxRecDepth 100000 in
theorem gl_65_3 : jm_gl "FrescoWall$Photo" prog_7_method_10_code 10 (Option.none : Option Jvm.ClassFile.FieldType) false cl_65_3 :=
  jm_gc (pu_ibin _) (sn_isub (jm_dc dc_65_3 0 rfl)) (
  jm_gc (pu_istore _ _) (sn_istore (jm_dc dc_65_3 1 rfl)) (
  jm_gc (pu_iload _ _) (sn_iload (jm_dc dc_65_3 2 rfl)) (
  jm_gc (pu_aload _ _) (sn_aload_n (i := 0) (jm_dc dc_65_3 3 rfl)) (
  jm_gc (pu_getI _ _) (sn_getI (jm_dc dc_65_3 4 rfl) fl_5_47 (Or.inl rfl)) (
  jm_gc (pu_aload _ _) (sn_aload_n (i := 0) (jm_dc dc_65_3 5 rfl)) (
  jm_gc (pu_getI _ _) (sn_getI (jm_dc dc_65_3 6 rfl) fl_5_41 (Or.inl rfl)) (
  jm_gc (pu_ibin _) (sn_iadd (jm_dc dc_65_3 7 rfl)) (
  jm_gc (pu_iload _ _) (sn_iload (jm_dc dc_65_3 8 rfl)) (
  jm_gc (pu_ibin _) (sn_isub (jm_dc dc_65_3 9 rfl)) (
  jm_gc (pu_cge _) (sn_cge (jm_dc dc_65_3 10 rfl) (by decide)) (
  jm_gc (pu_aload _ _) (sn_aload_n (i := 0) (jm_dc dc_65_3 11 rfl)) (
  jm_gc (pu_getI _ _) (sn_getI (jm_dc dc_65_3 12 rfl) fl_5_44 (Or.inl rfl)) (
  jm_gc (pu_iload _ _) (sn_iload_n (i := 3) (jm_dc dc_65_3 13 rfl)) (
  jm_gc (pu_ibin _) (sn_isub (jm_dc dc_65_3 14 rfl)) (
  jm_gc (pu_istore _ _) (sn_istore (jm_dc dc_65_3 15 rfl)) (
  jm_gc (pu_iload _ _) (sn_iload (jm_dc dc_65_3 16 rfl)) (
  jm_gc (pu_aload _ _) (sn_aload_n (i := 0) (jm_dc dc_65_3 17 rfl)) (
  jm_gc (pu_getI _ _) (sn_getI (jm_dc dc_65_3 18 rfl) fl_5_44 (Or.inl rfl)) (
  jm_gc (pu_aload _ _) (sn_aload_n (i := 0) (jm_dc dc_65_3 19 rfl)) (
  jm_gc (pu_getI _ _) (sn_getI (jm_dc dc_65_3 20 rfl) fl_5_13 (Or.inl rfl)) (
  jm_gc (pu_ibin _) (sn_iadd (jm_dc dc_65_3 21 rfl)) (
  jm_gc (pu_iload _ _) (sn_iload (jm_dc dc_65_3 22 rfl)) (
  jm_gc (pu_ibin _) (sn_isub (jm_dc dc_65_3 23 rfl)) (
  jm_gc (pu_cge _) (sn_cge (jm_dc dc_65_3 24 rfl) (by decide)) (
  jm_gn)))))))))))))))))))))))))
theorem dc_65_4 : ([(185, .aload_n 0, 1), (186, .aload_n 0, 1), (187, .aload_n 1, 1), (188, .iload_n 2, 1), (189, .iload 8, 2), (191, .iload 7, 2), (193, .invokevirtual 96, 3), (196, .iload_n 2, 1), (197, .iload 8, 2), (199, .iload 7, 2), (201, .invokestatic 100, 3), (204, .invokevirtual 104, 3), (207, .iinc 8 1, 3), (210, .goto (-42), 3), (213, .iinc 7 1, 3), (216, .goto (-73), 3), (219, .return_, 1)] : List (Nat × Instr × Nat)).all (fun e => decide (decode prog_7_method_10_code e.1 = .ok e.2)) = true := by decide +kernel
abbrev cl_65_4 : List (Nat × jm_O) := [(185, op_aload 0 1), (186, op_aload 0 1), (187, op_aload 1 1), (188, op_iload 2 1), (189, op_iload 8 2), (191, op_iload 7 2), (193, op_callV 5 63 5), (196, op_iload 2 1), (197, op_iload 8 2), (199, op_iload 7 2), (201, op_callS 305 3), (204, op_callV 5 66 3), (207, op_iinc 8 1), (210, op_goto 168), (213, op_iinc 7 1), (216, op_goto 143), (219, op_vret)]
set_option maxRecDepth 100000 in
theorem gl_65_4 : jm_gl "FrescoWall$Photo" prog_7_method_10_code 10 (Option.none : Option Jvm.ClassFile.FieldType) false cl_65_4 :=
  jm_gc (pu_aload _ _) (sn_aload_n (i := 0) (jm_dc dc_65_4 0 rfl)) (
  jm_gc (pu_aload _ _) (sn_aload_n (i := 0) (jm_dc dc_65_4 1 rfl)) (
  jm_gc (pu_aload _ _) (sn_aload_n (i := 1) (jm_dc dc_65_4 2 rfl)) (
  jm_gc (pu_iload _ _) (sn_iload_n (i := 2) (jm_dc dc_65_4 3 rfl)) (
  jm_gc (pu_iload _ _) (sn_iload (jm_dc dc_65_4 4 rfl)) (
  jm_gc (pu_iload _ _) (sn_iload (jm_dc dc_65_4 5 rfl)) (
  jm_gc (pu_callV _ _ _) (sn_callV (jm_dc dc_65_4 6 rfl) lk_5_96) (
  jm_gc (pu_iload _ _) (sn_iload_n (i := 2) (jm_dc dc_65_4 7 rfl)) (
  jm_gc (pu_iload _ _) (sn_iload (jm_dc dc_65_4 8 rfl)) (
  jm_gc (pu_iload _ _) (sn_iload (jm_dc dc_65_4 9 rfl)) (
  jm_gc (pu_callS _ _) (sn_callS (jm_dc dc_65_4 10 rfl) lk_5_100) (
  jm_gc (pu_callV _ _ _) (sn_callV (jm_dc dc_65_4 11 rfl) lk_5_104) (
  jm_gc (pu_iinc _ _) (sn_iinc (jm_dc dc_65_4 12 rfl) (by decide)) (
  jm_gc (pu_goto _) (sn_goto (jm_dc dc_65_4 13 rfl) (by decide)) (
  jm_gc (pu_iinc _ _) (sn_iinc (jm_dc dc_65_4 14 rfl) (by decide)) (
  jm_gc (pu_goto _) (sn_goto (jm_dc dc_65_4 15 rfl) (by decide)) (
  jm_gc (pu_vret) (sn_vret (jm_dc dc_65_4 16 rfl) rfl) (
  jm_gn)))))))))))))))))
theorem dc_66_0 : ([(0, .iload_n 1, 1), (1, .aload_n 0, 1), (2, .getfield 77, 3), (5, .if_icmp .le 21, 3), (8, .aload_n 0, 1), (9, .iload_n 1, 1), (10, .putfield 77, 3), (13, .aload_n 0, 1), (14, .lload_n 2, 1), (15, .putfield 108, 3), (18, .aload_n 0, 1), (19, .iconst 0, 1), (20, .putfield 80, 3), (23, .goto 21, 3), (26, .iload_n 1, 1), (27, .aload_n 0, 1), (28, .getfield 77, 3), (31, .if_icmp .ne 13, 3), (34, .aload_n 0, 1), (35, .dup, 1), (36, .getfield 80, 3), (39, .iconst 1, 1), (40, .iadd, 1), (41, .putfield 80, 3), (44, .return_, 1)] : List (Nat × Instr × Nat)).all (fun e => decide (decode prog_7_method_11_code e.1 = .ok e.2)) = true := by decide +kernel
abbrev cl_66_0 : List (Nat × jm_O) := [(0, op_iload 1 1), (1, op_aload 0 1), (2, op_getI 5 6), (5, op_cle 26), (8, op_aload 0 1), (9, op_iload 1 1), (10, op_putI 5 6), (13, op_aload 0 1), (14, op_lload 2 1), (15, op_putJ 5 8), (18, op_aload 0 1), (19, op_ic 0 1), (20, op_putI 5 7), (23, op_goto 44), (26, op_iload 1 1), (27, op_aload 0 1), (28, op_getI 5 6), (31, op_cne 44), (34, op_aload 0 1), (35, op_dup), (36, op_getI 5 7), (39, op_ic 1 1), (40, op_ibin (fun x y => x + y)), (41, op_putI 5 7), (44, op_vret)]
set_option maxRecDepth 100000 in
theorem gl_66_0 : jm_gl "FrescoWall$Photo" prog_7_method_11_code 4 (Option.none : Option Jvm.ClassFile.FieldType) false cl_66_0 :=
  jm_gc (pu_iload _ _) (sn_iload_n (i := 1) (jm_dc dc_66_0 0 rfl)) (
  jm_gc (pu_aload _ _) (sn_aload_n (i := 0) (jm_dc dc_66_0 1 rfl)) (
  jm_gc (pu_getI _ _) (sn_getI (jm_dc dc_66_0 2 rfl) fl_5_77 (Or.inl rfl)) (
  jm_gc (pu_cle _) (sn_cle (jm_dc dc_66_0 3 rfl) (by decide)) (
  jm_gc (pu_aload _ _) (sn_aload_n (i := 0) (jm_dc dc_66_0 4 rfl)) (
  jm_gc (pu_iload _ _) (sn_iload_n (i := 1) (jm_dc dc_66_0 5 rfl)) (
  jm_gc (pu_putI _ _) (sn_putI (jm_dc dc_66_0 6 rfl) flw_5_77 rfl) (
  jm_gc (pu_aload _ _) (sn_aload_n (i := 0) (jm_dc dc_66_0 7 rfl)) (
  jm_gc (pu_lload _ _) (sn_lload_n (i := 2) (jm_dc dc_66_0 8 rfl)) (
  jm_gc (pu_putJ _ _) (sn_putJ (jm_dc dc_66_0 9 rfl) flw_5_108 rfl) (
  jm_gc (pu_aload _ _) (sn_aload_n (i := 0) (jm_dc dc_66_0 10 rfl)) (
  jm_gc (pu_ic _ _) (sn_iconst (jm_dc dc_66_0 11 rfl) (by decide)) (
  jm_gc (pu_putI _ _) (sn_putI (jm_dc dc_66_0 12 rfl) flw_5_80 rfl) (
  jm_gc (pu_goto _) (sn_goto (jm_dc dc_66_0 13 rfl) (by decide)) (
  jm_gc (pu_iload _ _) (sn_iload_n (i := 1) (jm_dc dc_66_0 14 rfl)) (
  jm_gc (pu_aload _ _) (sn_aload_n (i := 0) (jm_dc dc_66_0 15 rfl)) (
  jm_gc (pu_getI _ _) (sn_getI (jm_dc dc_66_0 16 rfl) fl_5_77 (Or.inl rfl)) (
  jm_gc (pu_cne _) (sn_cne (jm_dc dc_66_0 17 rfl) (by decide)) (
  jm_gc (pu_aload _ _) (sn_aload_n (i := 0) (jm_dc dc_66_0 18 rfl)) (
  jm_gc (pu_dup) (sn_dup (jm_dc dc_66_0 19 rfl)) (
  jm_gc (pu_getI _ _) (sn_getI (jm_dc dc_66_0 20 rfl) fl_5_80 (Or.inl rfl)) (
  jm_gc (pu_ic _ _) (sn_iconst (jm_dc dc_66_0 21 rfl) (by decide)) (
  jm_gc (pu_ibin _) (sn_iadd (jm_dc dc_66_0 22 rfl)) (
  jm_gc (pu_putI _ _) (sn_putI (jm_dc dc_66_0 23 rfl) flw_5_80 rfl) (
  jm_gc (pu_vret) (sn_vret (jm_dc dc_66_0 24 rfl) rfl) (
  jm_gn)))))))))))))))))))))))))
theorem dc_67_0 : ([(0, .aload_n 0, 1), (1, .invokespecial 1, 3), (4, .aload_n 0, 1), (5, .sipush 241, 3), (8, .newarray .int, 2), (10, .putfield 9, 3), (13, .aload_n 0, 1), (14, .sipush 241, 3), (17, .newarray .int, 2), (19, .putfield 15, 3), (22, .aload_n 0, 1), (23, .sipush 241, 3), (26, .newarray .boolean, 2), (28, .putfield 18, 3), (31, .aload_n 0, 1), (32, .aload_n 1, 1), (33, .putfield 22, 3), (36, .aload_n 0, 1), (37, .aload_n 2, 1), (38, .putfield 26, 3), (41, .aload_n 0, 1), (42, .aload_n 3, 1), (43, .putfield 30, 3), (46, .return_, 1)] : List (Nat × Instr × Nat)).all (fun e => decide (decode prog_9_method_1_code e.1 = .ok e.2)) = true := by decide +kernel
abbrev cl_67_0 : List (Nat × jm_O) := [(0, op_aload 0 1), (1, op_objInit), (4, op_aload 0 1), (5, op_ic 241 3), (8, op_newa 13 2), (10, op_putA 6 3), (13, op_aload 0 1), (14, op_ic 241 3), (17, op_newa 13 2), (19, op_putA 6 4), (22, op_aload 0 1), (23, op_ic 241 3), (26, op_newa 15 2), (28, op_putA 6 5), (31, op_aload 0 1), (32, op_aload 1 1), (33, op_putA 6 0), (36, op_aload 0 1), (37, op_aload 2 1), (38, op_putA 6 1), (41, op_aload 0 1), (42, op_aload 3 1), (43, op_putA 6 2), (46, op_vret)]
set_option maxRecDepth 100000 in
theorem gl_67_0 : jm_gl "FrescoWall$Question" prog_9_method_1_code 4 (Option.none : Option Jvm.ClassFile.FieldType) true cl_67_0 :=
  jm_gc (pu_aload _ _) (sn_aload_n (i := 0) (jm_dc dc_67_0 0 rfl)) (
  jm_gc (pu_objInit) (sn_objInit (jm_dc dc_67_0 1 rfl) ⟨kc_tb 344 (by decide +kernel), kc_tb 23 (by decide +kernel), kc_tb 24 (by decide +kernel)⟩) (
  jm_gc (pu_aload _ _) (sn_aload_n (i := 0) (jm_dc dc_67_0 2 rfl)) (
  jm_gc (pu_ic _ _) (sn_sipush (jm_dc dc_67_0 3 rfl) (by decide)) (
  jm_gc (pu_newa _ _) (sn_newI (jm_dc dc_67_0 4 rfl) (kc_tb 91 (by decide +kernel))) (
  jm_gc (pu_putA _ _) (sn_putAF (jm_dc dc_67_0 5 rfl) flw_6_9 rfl rfl) (
  jm_gc (pu_aload _ _) (sn_aload_n (i := 0) (jm_dc dc_67_0 6 rfl)) (
  jm_gc (pu_ic _ _) (sn_sipush (jm_dc dc_67_0 7 rfl) (by decide)) (
  jm_gc (pu_newa _ _) (sn_newI (jm_dc dc_67_0 8 rfl) (kc_tb 91 (by decide +kernel))) (
  jm_gc (pu_putA _ _) (sn_putAF (jm_dc dc_67_0 9 rfl) flw_6_15 rfl rfl) (
  jm_gc (pu_aload _ _) (sn_aload_n (i := 0) (jm_dc dc_67_0 10 rfl)) (
  jm_gc (pu_ic _ _) (sn_sipush (jm_dc dc_67_0 11 rfl) (by decide)) (
  jm_gc (pu_newa _ _) (sn_newZ (jm_dc dc_67_0 12 rfl) (kc_tb 380 (by decide +kernel))) (
  jm_gc (pu_putA _ _) (sn_putAF (jm_dc dc_67_0 13 rfl) flw_6_18 rfl rfl) (
  jm_gc (pu_aload _ _) (sn_aload_n (i := 0) (jm_dc dc_67_0 14 rfl)) (
  jm_gc (pu_aload _ _) (sn_aload_n (i := 1) (jm_dc dc_67_0 15 rfl)) (
  jm_gc (pu_putA _ _) (sn_putAF (jm_dc dc_67_0 16 rfl) flw_6_22 rfl rfl) (
  jm_gc (pu_aload _ _) (sn_aload_n (i := 0) (jm_dc dc_67_0 17 rfl)) (
  jm_gc (pu_aload _ _) (sn_aload_n (i := 2) (jm_dc dc_67_0 18 rfl)) (
  jm_gc (pu_putA _ _) (sn_putAF (jm_dc dc_67_0 19 rfl) flw_6_26 rfl rfl) (
  jm_gc (pu_aload _ _) (sn_aload_n (i := 0) (jm_dc dc_67_0 20 rfl)) (
  jm_gc (pu_aload _ _) (sn_aload_n (i := 3) (jm_dc dc_67_0 21 rfl)) (
  jm_gc (pu_putA _ _) (sn_putAF (jm_dc dc_67_0 22 rfl) flw_6_30 rfl rfl) (
  jm_gc (pu_vret) (sn_vret (jm_dc dc_67_0 23 rfl) rfl) (
  jm_gn))))))))))))))))))))))))
theorem dc_68_0 : ([(0, .aload_n 0, 1), (1, .aload_n 0, 1), (2, .getfield 22, 3), (5, .invokevirtual 34, 3), (8, .putfield 40, 3), (11, .aload_n 0, 1), (12, .iload_n 2, 1), (13, .putfield 44, 3), (16, .aload_n 0, 1), (17, .iload_n 3, 1), (18, .putfield 47, 3), (21, .aload_n 0, 1), (22, .iconst (-1), 1), (23, .putfield 50, 3), (26, .aload_n 0, 1), (27, .invokevirtual 53, 3), (30, .iconst 1, 1), (31, .istore 4, 2), (33, .iconst 0, 1), (34, .istore 5, 2), (36, .iconst 0, 1), (37, .istore 6, 2), (39, .iload 6, 2), (41, .sipush 240, 3), (44, .if_icmp .ge 109, 3)] : List (Nat × Instr × Nat)).all (fun e => decide (decode prog_9_method_2_code e.1 = .ok e.2)) = true := by decide +kernel
abbrev cl_68_0 : List (Nat × jm_O) := [(0, op_aload 0 1), (1, op_aload 0 1), (2, op_getA 6 0), (5, op_callV 3 31 1), (8, op_putI 6 7), (11, op_aload 0 1), (12, op_iload 2 1), (13, op_putI 6 8), (16, op_aload 0 1), (17, op_iload 3 1), (18, op_putI 6 9), (21, op_aload 0 1), (22, op_ic (-1) 1), (23, op_putI 6 6), (26, op_aload 0 1), (27, op_callV 6 69 1), (30, op_ic 1 1), (31, op_istore 4 2), (33, op_ic 0 1), (34, op_istore 5 2), (36, op_ic 0 1), (37, op_istore 6 2), (39, op_iload 6 2), (41, op_ic 240 3), (44, op_cge 153)]
set_option maxRecDepth 100000 in
theorem gl_68_0 : jm_gl "FrescoWall$Question" prog_9_method_2_code 9 (Option.some Jvm.ClassFile.FieldType.int) false cl_68_0 :=
  jm_gc (pu_aload _ _) (sn_aload_n (i := 0) (jm_dc dc_68_0 0 rfl)) (
  jm_gc (pu_aload _ _) (sn_aload_n (i := 0) (jm_dc dc_68_0 1 rfl)) (
  jm_gc (pu_getA _ _) (sn_getA (jm_dc dc_68_0 2 rfl) fl_6_22 rfl) (
  jm_gc (pu_callV _ _ _) (sn_callV (jm_dc dc_68_0 3 rfl) lk_6_34) (
  jm_gc (pu_putI _ _) (sn_putI (jm_dc dc_68_0 4 rfl) flw_6_40 rfl) (
  jm_gc (pu_aload _ _) (sn_aload_n (i := 0) (jm_dc dc_68_0 5 rfl)) (
  jm_gc (pu_iload _ _) (sn_iload_n (i := 2) (jm_dc dc_68_0 6 rfl)) (
  jm_gc (pu_putI _ _) (sn_putI (jm_dc dc_68_0 7 rfl) flw_6_44 rfl) (
  jm_gc (pu_aload _ _) (sn_aload_n (i := 0) (jm_dc dc_68_0 8 rfl)) (
  jm_gc (pu_iload _ _) (sn_iload_n (i := 3) (jm_dc dc_68_0 9 rfl)) (
  jm_gc (pu_putI _ _) (sn_putI (jm_dc dc_68_0 10 rfl) flw_6_47 rfl) (
  jm_gc (pu_aload _ _) (sn_aload_n (i := 0) (jm_dc dc_68_0 11 rfl)) (
  jm_gc (pu_ic _ _) (sn_iconst (jm_dc dc_68_0 12 rfl) (by decide)) (
  jm_gc (pu_putI _ _) (sn_putI (jm_dc dc_68_0 13 rfl) flw_6_50 rfl) (
  jm_gc (pu_aload _ _) (sn_aload_n (i := 0) (jm_dc dc_68_0 14 rfl)) (
  jm_gc (pu_callV _ _ _) (sn_callV (jm_dc dc_68_0 15 rfl) lk_6_53) (
  jm_gc (pu_ic _ _) (sn_iconst (jm_dc dc_68_0 16 rfl) (by decide)) (
  jm_gc (pu_istore _ _) (sn_istore (jm_dc dc_68_0 17 rfl)) (
  jm_gc (pu_ic _ _) (sn_iconst (jm_dc dc_68_0 18 rfl) (by decide)) (
  jm_gc (pu_istore _ _) (sn_istore (jm_dc dc_68_0 19 rfl)) (
  jm_gc (pu_ic _ _) (sn_iconst (jm_dc dc_68_0 20 rfl) (by decide)) (
  jm_gc (pu_istore _ _) (sn_istore (jm_dc dc_68_0 21 rfl)) (
  jm_gc (pu_iload _ _) (sn_iload (jm_dc dc_68_0 22 rfl)) (
  jm_gc (pu_ic _ _) (sn_sipush (jm_dc dc_68_0 23 rfl) (by decide)) (
  jm_gc (pu_cge _) (sn_cge (jm_dc dc_68_0 24 rfl) (by decide)) (
  jm_gn)))))))))))))))))))))))))
theorem dc_68_1 : ([(47, .iload 5, 2), (49, .aload_n 1, 1), (50, .getfield 56, 3), (53, .if_icmp .ge 100, 3), (56, .aload_n 1, 1), (57, .iload 5, 2), (59, .invokevirtual 59, 3), (62, .istore 7, 2), (64, .iload 4, 2), (66, .ifCond .eq 15, 3), (69, .aload_n 0, 1), (70, .aload_n 1, 1), (71, .iload 5, 2), (73, .iload 7, 2), (75, .invokevirtual 63, 3), (78, .goto 11, 3), (81, .aload_n 0, 1), (82, .iload 5, 2), (84, .iload 7, 2), (86, .invokevirtual 67, 3), (89, .istore 8, 2), (91, .iload 8, 2), (93, .iload 5, 2), (95, .if_icmp .gt 7, 3), (98, .iload 8, 2)] : List (Nat × Instr × Nat)).all (fun e => decide (decode prog_9_method_2_code e.1 = .ok e.2)) = true := by decide +kernel
abbrev cl_68_1 : List (Nat × jm_O) := [(47, op_iload 5 2), (49, op_aload 1 1), (50, op_getI 8 0), (53, op_cge 153), (56, op_aload 1 1), (57, op_iload 5 2), (59, op_callV 8 96 2), (62, op_istore 7 2), (64, op_iload 4 2), (66, op_ifeq 81), (69, op_aload 0 1), (70, op_aload 1 1), (71, op_iload 5 2), (73, op_iload 7 2), (75, op_callV 6 71 4), (78, op_goto 89), (81, op_aload 0 1), (82, op_iload 5 2), (84, op_iload 7 2), (86, op_callV 6 72 3), (89, op_istore 8 2), (91, op_iload 8 2), (93, op_iload 5 2), (95, op_cgt 102), (98, op_iload 8 2)]
set_option maxRecDepth 100000 in
theorem gl_68_1 : jm_gl "FrescoWall$Question" prog_9_method_2_code 9 (Option.some Jvm.ClassFile.FieldType.int) false cl_68_1 :=
  jm_gc (pu_iload _ _) (sn_iload (jm_dc dc_68_1 0 rfl)) (
  jm_gc (pu_aload _ _) (sn_aload_n (i := 1) (jm_dc dc_68_1 1 rfl)) (
  jm_gc (pu_getI _ _) (sn_getI (jm_dc dc_68_1 2 rfl) fl_6_56 (Or.inl rfl)) (
  jm_gc (pu_cge _) (sn_cge (jm_dc dc_68_1 3 rfl) (by decide)) (
  jm_gc (pu_aload _ _) (sn_aload_n (i := 1) (jm_dc dc_68_1 4 rfl)) (
  jm_gc (pu_iload _ _) (sn_iload (jm_dc dc_68_1 5 rfl)) (
  jm_gc (pu_callV _ _ _) (sn_callV (jm_dc dc_68_1 6 rfl) lk_6_59) (
  jm_gc (pu_istore _ _) (sn_istore (jm_dc dc_68_1 7 rfl)) (
  jm_gc (pu_iload _ _) (sn_iload (jm_dc dc_68_1 8 rfl)) (
  jm_gc (pu_ifeq _) (sn_ifeq (jm_dc dc_68_1 9 rfl) (by decide)) (
  jm_gc (pu_aload _ _) (sn_aload_n (i := 0) (jm_dc dc_68_1 10 rfl)) (
  jm_gc (pu_aload _ _) (sn_aload_n (i := 1) (jm_dc dc_68_1 11 rfl)) (
  jm_gc (pu_iload _ _) (sn_iload (jm_dc dc_68_1 12 rfl)) (
  jm_gc (pu_iload _ _) (sn_iload (jm_dc dc_68_1 13 rfl)) (
  jm_gc (pu_callV _ _ _) (sn_callV (jm_dc dc_68_1 14 rfl) lk_6_63) (
  jm_gc (pu_goto _) (sn_goto (jm_dc dc_68_1 15 rfl) (by decide)) (
  jm_gc (pu_aload _ _) (sn_aload_n (i := 0) (jm_dc dc_68_1 16 rfl)) (
  jm_gc (pu_iload _ _) (sn_iload (jm_dc dc_68_1 17 rfl)) (
  jm_gc (pu_iload _ _) (sn_iload (jm_dc dc_68_1 18 rfl)) (
  jm_gc (pu_callV _ _ _) (sn_callV (jm_dc dc_68_1 19 rfl) lk_6_67) (
  jm_gc (pu_istore _ _) (sn_istore (jm_dc dc_68_1 20 rfl)) (
  jm_gc (pu_iload _ _) (sn_iload (jm_dc dc_68_1 21 rfl)) (
  jm_gc (pu_iload _ _) (sn_iload (jm_dc dc_68_1 22 rfl)) (
  jm_gc (pu_cgt _) (sn_cgt (jm_dc dc_68_1 23 rfl) (by decide)) (
  jm_gc (pu_iload _ _) (sn_iload (jm_dc dc_68_1 24 rfl)) (
  jm_gn)))))))))))))))))))))))))
theorem dc_68_2 : ([(100, .ineg, 1), (101, .ireturn, 1), (102, .iload 4, 2), (104, .ifCond .eq 25, 3), (107, .iload 7, 2), (109, .bipush 33, 2), (111, .if_icmp .eq 10, 3), (114, .iload 7, 2), (116, .bipush 40, 2), (118, .if_icmp .ne 7, 3), (121, .iconst 1, 1), (122, .goto 19, 3), (125, .iconst 0, 1), (126, .goto 15, 3), (129, .iload 7, 2), (131, .bipush 41, 2), (133, .if_icmp .eq 7, 3), (136, .iconst 1, 1), (137, .goto 4, 3), (140, .iconst 0, 1), (141, .istore 4, 2), (143, .iload 8, 2), (145, .istore 5, 2), (147, .iinc 6 1, 3), (150, .goto (-111), 3)] : List (Nat × Instr × Nat)).all (fun e => decide (decode prog_9_method_2_code e.1 = .ok e.2)) = true := by decide +kernel
abbrev cl_68_2 : List (Nat × jm_O) := [(100, op_iun (fun x => -x)), (101, op_iret), (102, op_iload 4 2), (104, op_ifeq 129), (107, op_iload 7 2), (109, op_ic 33 2), (111, op_ceq 121), (114, op_iload 7 2), (116, op_ic 40 2), (118, op_cne 125), (121, op_ic 1 1), (122, op_goto 141), (125, op_ic 0 1), (126, op_goto 141), (129, op_iload 7 2), (131, op_ic 41 2), (133, op_ceq 140), (136, op_ic 1 1), (137, op_goto 141), (140, op_ic 0 1), (141, op_istore 4 2), (143, op_iload 8 2), (145, op_istore 5 2), (147, op_iinc 6 1), (150, op_goto 39)]
set_option maxRecDepth 100000 in
theorem gl_68_2 : jm_gl "FrescoWall$Question" prog_9_method_2_code 9 (Option.some Jvm.ClassFile.FieldType.int) false cl_68_2 :=
  jm_gc (pu_iun _) (sn_ineg (jm_dc dc_68_2 0 rfl)) (
  jm_gc (pu_iret) (sn_iret (jm_dc dc_68_2 1 rfl) rfl) (
  jm_gc (pu_iload _ _) (sn_iload (jm_dc dc_68_2 2 rfl)) (
  jm_gc (pu_ifeq _) (sn_ifeq (jm_dc dc_68_2 3 rfl) (by decide)) (
  jm_gc (pu_iload _ _) (sn_iload (jm_dc dc_68_2 4 rfl)) (
  jm_gc (pu_ic _ _) (sn_bipush (jm_dc dc_68_2 5 rfl) (by decide)) (
  jm_gc (pu_ceq _) (sn_ceq (jm_dc dc_68_2 6 rfl) (by decide)) (
  jm_gc (pu_iload _ _) (sn_iload (jm_dc dc_68_2 7 rfl)) (
  jm_gc (pu_ic _ _) (sn_bipush (jm_dc dc_68_2 8 rfl) (by decide)) (
  jm_gc (pu_cne _) (sn_cne (jm_dc dc_68_2 9 rfl) (by decide)) (
  jm_gc (pu_ic _ _) (sn_iconst (jm_dc dc_68_2 10 rfl) (by decide)) (
  jm_gc (pu_goto _) (sn_goto (jm_dc dc_68_2 11 rfl) (by decide)) (
  jm_gc (pu_ic _ _) (sn_iconst (jm_dc dc_68_2 12 rfl) (by decide)) (
  jm_gc (pu_goto _) (sn_goto (jm_dc dc_68_2 13 rfl) (by decide)) (
  jm_gc (pu_iload _ _) (sn_iload (jm_dc dc_68_2 14 rfl)) (
  jm_gc (pu_ic _ _) (sn_bipush (jm_dc dc_68_2 15 rfl) (by decide)) (
  jm_gc (pu_ceq _) (sn_ceq (jm_dc dc_68_2 16 rfl) (by decide)) (
  jm_gc (pu_ic _ _) (sn_iconst (jm_dc dc_68_2 17 rfl) (by decide)) (
  jm_gc (pu_goto _) (sn_goto (jm_dc dc_68_2 18 rfl) (by decide)) (
  jm_gc (pu_ic _ _) (sn_iconst (jm_dc dc_68_2 19 rfl) (by decide)) (
  jm_gc (pu_istore _ _) (sn_istore (jm_dc dc_68_2 20 rfl)) (
  jm_gc (pu_iload _ _) (sn_iload (jm_dc dc_68_2 21 rfl)) (
  jm_gc (pu_istore _ _) (sn_istore (jm_dc dc_68_2 22 rfl)) (
  jm_gc (pu_iinc _ _) (sn_iinc (jm_dc dc_68_2 23 rfl) (by decide)) (
  jm_gc (pu_goto _) (sn_goto (jm_dc dc_68_2 24 rfl) (by decide)) (
  jm_gn)))))))))))))))))))))))))
theorem dc_68_3 : ([(153, .iload 4, 2), (155, .ifCond .ne 10, 3), (158, .aload_n 0, 1), (159, .getfield 50, 3), (162, .ifCond .le 8, 3), (165, .aload_n 1, 1), (166, .getfield 56, 3), (169, .ireturn, 1), (170, .aload_n 0, 1), (171, .aload_n 0, 1), (172, .getfield 9, 3), (175, .iconst 0, 1), (176, .iaload, 1), (177, .aload_n 0, 1), (178, .getfield 15, 3), (181, .iconst 0, 1), (182, .iaload, 1), (183, .ior, 1), (184, .putfield 71, 3), (187, .iconst (-1), 1), (188, .ireturn, 1)] : List (Nat × Instr × Nat)).all (fun e => decide (decode prog_9_method_2_code e.1 = .ok e.2)) = true := by decide +kernel
abbrev cl_68_3 : List (Nat × jm_O) := [(153, op_iload 4 2), (155, op_ifne 165), (158, op_aload 0 1), (159, op_getI 6 6), (162, op_ifle 170), (165, op_aload 1 1), (166, op_getI 8 0), (169, op_iret), (170, op_aload 0 1), (171, op_aload 0 1), (172, op_getA 6 3), (175, op_ic 0 1), (176, op_iald 13), (177, op_aload 0 1), (178, op_getA 6 4), (181, op_ic 0 1), (182, op_iald 13), (183, op_ibin (fun x y => x ||| y)), (184, op_putI 6 10), (187, op_ic (-1) 1), (188, op_iret)]
set_option maxRecDepth 100000 in
theorem gl_68_3 : jm_gl "FrescoWall$Question" prog_9_method_2_code 9 (Option.some Jvm.ClassFile.FieldType.int) false cl_68_3 :=
  jm_gc (pu_iload _ _) (sn_iload (jm_dc dc_68_3 0 rfl)) (
  jm_gc (pu_ifne _) (sn_ifne (jm_dc dc_68_3 1 rfl) (by decide)) (
  jm_gc (pu_aload _ _) (sn_aload_n (i := 0) (jm_dc dc_68_3 2 rfl)) (
  jm_gc (pu_getI _ _) (sn_getI (jm_dc dc_68_3 3 rfl) fl_6_50 (Or.inl rfl)) (
  jm_gc (pu_ifle _) (sn_ifle (jm_dc dc_68_3 4 rfl) (by decide)) (
  jm_gc (pu_aload _ _) (sn_aload_n (i := 1) (jm_dc dc_68_3 5 rfl)) (
  jm_gc (pu_getI _ _) (sn_getI (jm_dc dc_68_3 6 rfl) fl_6_56 (Or.inl rfl)) (
  jm_gc (pu_iret) (sn_iret (jm_dc dc_68_3 7 rfl) rfl) (
  jm_gc (pu_aload _ _) (sn_aload_n (i := 0) (jm_dc dc_68_3 8 rfl)) (
  jm_gc (pu_aload _ _) (sn_aload_n (i := 0) (jm_dc dc_68_3 9 rfl)) (
  jm_gc (pu_getA _ _) (sn_getA (jm_dc dc_68_3 10 rfl) fl_6_9 rfl) (
  jm_gc (pu_ic _ _) (sn_iconst (jm_dc dc_68_3 11 rfl) (by decide)) (
  jm_gc (pu_iald _) (sn_iald (jm_dc dc_68_3 12 rfl)) (
  jm_gc (pu_aload _ _) (sn_aload_n (i := 0) (jm_dc dc_68_3 13 rfl)) (
  jm_gc (pu_getA _ _) (sn_getA (jm_dc dc_68_3 14 rfl) fl_6_15 rfl) (
  jm_gc (pu_ic _ _) (sn_iconst (jm_dc dc_68_3 15 rfl) (by decide)) (
  jm_gc (pu_iald _) (sn_iald (jm_dc dc_68_3 16 rfl)) (
  jm_gc (pu_ibin _) (sn_ior (jm_dc dc_68_3 17 rfl)) (
  jm_gc (pu_putI _ _) (sn_putI (jm_dc dc_68_3 18 rfl) flw_6_71 rfl) (
  jm_gc (pu_ic _ _) (sn_iconst (jm_dc dc_68_3 19 rfl) (by decide)) (
  jm_gc (pu_iret) (sn_iret (jm_dc dc_68_3 20 rfl) rfl) (
  jm_gn)))))))))))))))))))))
theorem dc_69_0 : ([(0, .aload_n 0, 1), (1, .dup, 1), (2, .getfield 50, 3), (5, .iconst 1, 1), (6, .iadd, 1), (7, .putfield 50, 3), (10, .aload_n 0, 1), (11, .getfield 9, 3), (14, .aload_n 0, 1), (15, .getfield 50, 3), (18, .iconst 0, 1), (19, .iastore, 1), (20, .aload_n 0, 1), (21, .getfield 15, 3), (24, .aload_n 0, 1), (25, .getfield 50, 3), (28, .aload_n 0, 1), (29, .getfield 40, 3), (32, .iastore, 1), (33, .aload_n 0, 1), (34, .getfield 18, 3), (37, .aload_n 0, 1), (38, .getfield 50, 3), (41, .iconst 0, 1), (42, .bastore, 1)] : List (Nat × Instr × Nat)).all (fun e => decide (decode prog_9_method_3_code e.1 = .ok e.2)) = true := by decide +kernel
abbrev cl_69_0 : List (Nat × jm_O) := [(0, op_aload 0 1), (1, op_dup), (2, op_getI 6 6), (5, op_ic 1 1), (6, op_ibin (fun x y => x + y)), (7, op_putI 6 6), (10, op_aload 0 1), (11, op_getA 6 3), (14, op_aload 0 1), (15, op_getI 6 6), (18, op_ic 0 1), (19, op_iast), (20, op_aload 0 1), (21, op_getA 6 4), (24, op_aload 0 1), (25, op_getI 6 6), (28, op_aload 0 1), (29, op_getI 6 7), (32, op_iast), (33, op_aload 0 1), (34, op_getA 6 5), (37, op_aload 0 1), (38, op_getI 6 6), (41, op_ic 0 1), (42, op_zast)]
set_option maxRecDepth 100000 in
theorem gl_69_0 : jm_gl "FrescoWall$Question" prog_9_method_3_code 1 (Option.none : Option Jvm.ClassFile.FieldType) false cl_69_0 :=
  jm_gc (pu_aload _ _) (sn_aload_n (i := 0) (jm_dc dc_69_0 0 rfl)) (
  jm_gc (pu_dup) (sn_dup (jm_dc dc_69_0 1 rfl)) (
  jm_gc (pu_getI _ _) (sn_getI (jm_dc dc_69_0 2 rfl) fl_6_50 (Or.inl rfl)) (
  jm_gc (pu_ic _ _) (sn_iconst (jm_dc dc_69_0 3 rfl) (by decide)) (
  jm_gc (pu_ibin _) (sn_iadd (jm_dc dc_69_0 4 rfl)) (
  jm_gc (pu_putI _ _) (sn_putI (jm_dc dc_69_0 5 rfl) flw_6_50 rfl) (
  jm_gc (pu_aload _ _) (sn_aload_n (i := 0) (jm_dc dc_69_0 6 rfl)) (
  jm_gc (pu_getA _ _) (sn_getA (jm_dc dc_69_0 7 rfl) fl_6_9 rfl) (
  jm_gc (pu_aload _ _) (sn_aload_n (i := 0) (jm_dc dc_69_0 8 rfl)) (
  jm_gc (pu_getI _ _) (sn_getI (jm_dc dc_69_0 9 rfl) fl_6_50 (Or.inl rfl)) (
  jm_gc (pu_ic _ _) (sn_iconst (jm_dc dc_69_0 10 rfl) (by decide)) (
  jm_gc (pu_iast) (sn_iast (jm_dc dc_69_0 11 rfl)) (
  jm_gc (pu_aload _ _) (sn_aload_n (i := 0) (jm_dc dc_69_0 12 rfl)) (
  jm_gc (pu_getA _ _) (sn_getA (jm_dc dc_69_0 13 rfl) fl_6_15 rfl) (
  jm_gc (pu_aload _ _) (sn_aload_n (i := 0) (jm_dc dc_69_0 14 rfl)) (
  jm_gc (pu_getI _ _) (sn_getI (jm_dc dc_69_0 15 rfl) fl_6_50 (Or.inl rfl)) (
  jm_gc (pu_aload _ _) (sn_aload_n (i := 0) (jm_dc dc_69_0 16 rfl)) (
  jm_gc (pu_getI _ _) (sn_getI (jm_dc dc_69_0 17 rfl) fl_6_40 (Or.inl rfl)) (
  jm_gc (pu_iast) (sn_iast (jm_dc dc_69_0 18 rfl)) (
  jm_gc (pu_aload _ _) (sn_aload_n (i := 0) (jm_dc dc_69_0 19 rfl)) (
  jm_gc (pu_getA _ _) (sn_getA (jm_dc dc_69_0 20 rfl) fl_6_18 rfl) (
  jm_gc (pu_aload _ _) (sn_aload_n (i := 0) (jm_dc dc_69_0 21 rfl)) (
  jm_gc (pu_getI _ _) (sn_getI (jm_dc dc_69_0 22 rfl) fl_6_50 (Or.inl rfl)) (
  jm_gc (pu_ic _ _) (sn_iconst (jm_dc dc_69_0 23 rfl) (by decide)) (
  jm_gc (pu_zast) (sn_zast (jm_dc dc_69_0 24 rfl)) (
  jm_gn)))))))))))))))))))))))))
theorem dc_69_1 : ([(43, .return_, 1)] : List (Nat × Instr × Nat)).all (fun e => decide (decode prog_9_method_3_code e.1 = .ok e.2)) = true := by decide +kernel
abbrev cl_69_1 : List (Nat × jm_O) := [(43, op_vret)]
set_option maxRecDepth 100000 in
theorem gl_69_1 : jm_gl "FrescoWall$Question" prog_9_method_3_code 1 (Option.none : Option Jvm.ClassFile.FieldType) false cl_69_1 :=
  jm_gc (pu_vret) (sn_vret (jm_dc dc_69_1 0 rfl) rfl) (
  jm_gn)
theorem dc_70_0 : ([(0, .aload_n 0, 1), (1, .getfield 18, 3), (4, .aload_n 0, 1), (5, .getfield 50, 3), (8, .baload, 1), (9, .ifCond .eq 14, 3), (12, .aload_n 0, 1), (13, .getfield 40, 3), (16, .iload_n 1, 1), (17, .iconst (-1), 1), (18, .ixor, 1), (19, .iand, 1), (20, .goto 4, 3), (23, .iload_n 1, 1), (24, .istore_n 2, 1), (25, .aload_n 0, 1), (26, .getfield 15, 3), (29, .aload_n 0, 1), (30, .getfield 50, 3), (33, .dup2, 1), (34, .iaload, 1), (35, .iload_n 2, 1), (36, .iand, 1), (37, .iastore, 1), (38, .aload_n 0, 1)] : List (Nat × Instr × Nat)).all (fun e => decide (decode prog_9_method_4_code e.1 = .ok e.2)) = true := by decide +kernel
abbrev cl_70_0 : List (Nat × jm_O) := [(0, op_aload 0 1), (1, op_getA 6 5), (4, op_aload 0 1), (5, op_getI 6 6), (8, op_iald 15), (9, op_ifeq 23), (12, op_aload 0 1), (13, op_getI 6 7), (16, op_iload 1 1), (17, op_ic (-1) 1), (18, op_ibin (fun x y => x ^^^ y)), (19, op_ibin (fun x y => x &&& y)), (20, op_goto 24), (23, op_iload 1 1), (24, op_istore 2 1), (25, op_aload 0 1), (26, op_getA 6 4), (29, op_aload 0 1), (30, op_getI 6 6), (33, op_dup2), (34, op_iald 13), (35, op_iload 2 1), (36, op_ibin (fun x y => x &&& y)), (37, op_iast), (38, op_aload 0 1)]
set_option maxRecDepth 100000 in
theorem gl_70_0 : jm_gl "FrescoWall$Question" prog_9_method_4_code 3 (Option.none : Option Jvm.ClassFile.FieldType) false cl_70_0 :=
  jm_gc (pu_aload _ _) (sn_aload_n (i := 0) (jm_dc dc_70_0 0 rfl)) (
  jm_gc (pu_getA _ _) (sn_getA (jm_dc dc_70_0 1 rfl) fl_6_18 rfl) (
  jm_gc (pu_aload _ _) (sn_aload_n (i := 0) (jm_dc dc_70_0 2 rfl)) (
  jm_gc (pu_getI _ _) (sn_getI (jm_dc dc_70_0 3 rfl) fl_6_50 (Or.inl rfl)) (
  jm_gc (pu_iald _) (sn_zald (jm_dc dc_70_0 4 rfl)) (
  jm_gc (pu_ifeq _) (sn_ifeq (jm_dc dc_70_0 5 rfl) (by decide)) (
  jm_gc (pu_aload _ _) (sn_aload_n (i := 0) (jm_dc dc_70_0 6 rfl)) (
  jm_gc (pu_getI _ _) (sn_getI (jm_dc dc_70_0 7 rfl) fl_6_40 (Or.inl rfl)) (
  jm_gc (pu_iload _ _) (sn_iload_n (i := 1) (jm_dc dc_70_0 8 rfl)) (
  jm_gc (pu_ic _ _) (sn_iconst (jm_dc dc_70_0 9 rfl) (by decide)) (
  jm_gc (pu_ibin _) (sn_ixor (jm_dc dc_70_0 10 rfl)) (
  jm_gc (pu_ibin _) (sn_iand (jm_dc dc_70_0 11 rfl)) (
  jm_gc (pu_goto _) (sn_goto (jm_dc dc_70_0 12 rfl) (by decide)) (
  jm_gc (pu_iload _ _) (sn_iload_n (i := 1) (jm_dc dc_70_0 13 rfl)) (
  jm_gc (pu_istore _ _) (sn_istore_n (i := 2) (jm_dc dc_70_0 14 rfl)) (
  jm_gc (pu_aload _ _) (sn_aload_n (i := 0) (jm_dc dc_70_0 15 rfl)) (
  jm_gc (pu_getA _ _) (sn_getA (jm_dc dc_70_0 16 rfl) fl_6_15 rfl) (
  jm_gc (pu_aload _ _) (sn_aload_n (i := 0) (jm_dc dc_70_0 17 rfl)) (
  jm_gc (pu_getI _ _) (sn_getI (jm_dc dc_70_0 18 rfl) fl_6_50 (Or.inl rfl)) (
  jm_gc (pu_dup2) (sn_dup2 (jm_dc dc_70_0 19 rfl)) (
  jm_gc (pu_iald _) (sn_iald (jm_dc dc_70_0 20 rfl)) (
  jm_gc (pu_iload _ _) (sn_iload_n (i := 2) (jm_dc dc_70_0 21 rfl)) (
  jm_gc (pu_ibin _) (sn_iand (jm_dc dc_70_0 22 rfl)) (
  jm_gc (pu_iast) (sn_iast (jm_dc dc_70_0 23 rfl)) (
  jm_gc (pu_aload _ _) (sn_aload_n (i := 0) (jm_dc dc_70_0 24 rfl)) (
  jm_gn)))))))))))))))))))))))))
theorem dc_70_1 : ([(39, .getfield 18, 3), (42, .aload_n 0, 1), (43, .getfield 50, 3), (46, .iconst 0, 1), (47, .bastore, 1), (48, .return_, 1)] : List (Nat × Instr × Nat)).all (fun e => decide (decode prog_9_method_4_code e.1 = .ok e.2)) = true := by decide +kernel
abbrev cl_70_1 : List (Nat × jm_O) := [(39, op_getA 6 5), (42, op_aload 0 1), (43, op_getI 6 6), (46, op_ic 0 1), (47, op_zast), (48, op_vret)]
set_option maxRecDepth 100000 in
theorem gl_70_1 : jm_gl "FrescoWall$Question" prog_9_method_4_code 3 (Option.none : Option Jvm.ClassFile.FieldType) false cl_70_1 :=
  jm_gc (pu_getA _ _) (sn_getA (jm_dc dc_70_1 0 rfl) fl_6_18 rfl) (
  jm_gc (pu_aload _ _) (sn_aload_n (i := 0) (jm_dc dc_70_1 1 rfl)) (
  jm_gc (pu_getI _ _) (sn_getI (jm_dc dc_70_1 2 rfl) fl_6_50 (Or.inl rfl)) (
  jm_gc (pu_ic _ _) (sn_iconst (jm_dc dc_70_1 3 rfl) (by decide)) (
  jm_gc (pu_zast) (sn_zast (jm_dc dc_70_1 4 rfl)) (
  jm_gc (pu_vret) (sn_vret (jm_dc dc_70_1 5 rfl) rfl) (
  jm_gn))))))
theorem dc_71_0 : ([(0, .iload_n 3, 1), (1, .bipush 33, 2), (3, .if_icmp .ne 33, 3), (6, .aload_n 0, 1), (7, .getfield 18, 3), (10, .aload_n 0, 1), (11, .getfield 50, 3), (14, .aload_n 0, 1), (15, .getfield 18, 3), (18, .aload_n 0, 1), (19, .getfield 50, 3), (22, .baload, 1), (23, .ifCond .ne 7, 3), (26, .iconst 1, 1), (27, .goto 4, 3), (30, .iconst 0, 1), (31, .bastore, 1), (32, .iload_n 2, 1), (33, .iconst 1, 1), (34, .iadd, 1), (35, .ireturn, 1), (36, .iload_n 3, 1), (37, .bipush 40, 2), (39, .if_icmp .ne 11, 3), (42, .aload_n 0, 1)] : List (Nat × Instr × Nat)).all (fun e => decide (decode prog_9_method_5_code e.1 = .ok e.2)) = true := by decide +kernel
abbrev cl_71_0 : List (Nat × jm_O) := [(0, op_iload 3 1), (1, op_ic 33 2), (3, op_cne 36), (6, op_aload 0 1), (7, op_getA 6 5), (10, op_aload 0 1), (11, op_getI 6 6), (14, op_aload 0 1), (15, op_getA 6 5), (18, op_aload 0 1), (19, op_getI 6 6), (22, op_iald 15), (23, op_ifne 30), (26, op_ic 1 1), (27, op_goto 31), (30, op_ic 0 1), (31, op_zast), (32, op_iload 2 1), (33, op_ic 1 1), (34, op_ibin (fun x y => x + y)), (35, op_iret), (36, op_iload 3 1), (37, op_ic 40 2), (39, op_cne 50), (42, op_aload 0 1)]
set_option maxRecDepth 100000 in
theorem gl_71_0 : jm_gl "FrescoWall$Question" prog_9_method_5_code 4 (Option.some Jvm.ClassFile.FieldType.int) false cl_71_0 :=
  jm_gc (pu_iload _ _) (sn_iload_n (i := 3) (jm_dc dc_71_0 0 rfl)) (
  jm_gc (pu_ic _ _) (sn_bipush (jm_dc dc_71_0 1 rfl) (by decide)) (
  jm_gc (pu_cne _) (sn_cne (jm_dc dc_71_0 2 rfl) (by decide)) (
  jm_gc (pu_aload _ _) (sn_aload_n (i := 0) (jm_dc dc_71_0 3 rfl)) (
  jm_gc (pu_getA _ _) (sn_getA (jm_dc dc_71_0 4 rfl) fl_6_18 rfl) (
  jm_gc (pu_aload _ _) (sn_aload_n (i := 0) (jm_dc dc_71_0 5 rfl)) (
  jm_gc (pu_getI _ _) (sn_getI (jm_dc dc_71_0 6 rfl) fl_6_50 (Or.inl rfl)) (
  jm_gc (pu_aload _ _) (sn_aload_n (i := 0) (jm_dc dc_71_0 7 rfl)) (
  jm_gc (pu_getA _ _) (sn_getA (jm_dc dc_71_0 8 rfl) fl_6_18 rfl) (
  jm_gc (pu_aload _ _) (sn_aload_n (i := 0) (jm_dc dc_71_0 9 rfl)) (
  jm_gc (pu_getI _ _) (sn_getI (jm_dc dc_71_0 10 rfl) fl_6_50 (Or.inl rfl)) (
  jm_gc (pu_iald _) (sn_zald (jm_dc dc_71_0 11 rfl)) (
  jm_gc (pu_ifne _) (sn_ifne (jm_dc dc_71_0 12 rfl) (by decide)) (
  jm_gc (pu_ic _ _) (sn_iconst (jm_dc dc_71_0 13 rfl) (by decide)) (
  jm_gc (pu_goto _) (sn_goto (jm_dc dc_71_0 14 rfl) (by decide)) (
  jm_gc (pu_ic _ _) (sn_iconst (jm_dc dc_71_0 15 rfl) (by decide)) (
  jm_gc (pu_zast) (sn_zast (jm_dc dc_71_0 16 rfl)) (
  jm_gc (pu_iload _ _) (sn_iload_n (i := 2) (jm_dc dc_71_0 17 rfl)) (
  jm_gc (pu_ic _ _) (sn_iconst (jm_dc dc_71_0 18 rfl) (by decide)) (
  jm_gc (pu_ibin _) (sn_iadd (jm_dc dc_71_0 19 rfl)) (
  jm_gc (pu_iret) (sn_iret (jm_dc dc_71_0 20 rfl) rfl) (
  jm_gc (pu_iload _ _) (sn_iload_n (i := 3) (jm_dc dc_71_0 21 rfl)) (
  jm_gc (pu_ic _ _) (sn_bipush (jm_dc dc_71_0 22 rfl) (by decide)) (
  jm_gc (pu_cne _) (sn_cne (jm_dc dc_71_0 23 rfl) (by decide)) (
  jm_gc (pu_aload _ _) (sn_aload_n (i := 0) (jm_dc dc_71_0 24 rfl)) (
  jm_gn)))))))))))))))))))))))))
theorem dc_71_1 : ([(43, .invokevirtual 53, 3), (46, .iload_n 2, 1), (47, .iconst 1, 1), (48, .iadd, 1), (49, .ireturn, 1), (50, .aload_n 0, 1), (51, .aload_n 1, 1), (52, .iload_n 2, 1), (53, .iload_n 3, 1), (54, .invokevirtual 74, 3), (57, .ireturn, 1)] : List (Nat × Instr × Nat)).all (fun e => decide (decode prog_9_method_5_code e.1 = .ok e.2)) = true := by decide +kernel
abbrev cl_71_1 : List (Nat × jm_O) := [(43, op_callV 6 69 1), (46, op_iload 2 1), (47, op_ic 1 1), (48, op_ibin (fun x y => x + y)), (49, op_iret), (50, op_aload 0 1), (51, op_aload 1 1), (52, op_iload 2 1), (53, op_iload 3 1), (54, op_callV 6 73 4), (57, op_iret)]
set_option maxRecDepth 100000 in
theorem gl_71_1 : jm_gl "FrescoWall$Question" prog_9_method_5_code 4 (Option.some Jvm.ClassFile.FieldType.int) false cl_71_1 :=
  jm_gc (pu_callV _ _ _) (sn_callV (jm_dc dc_71_1 0 rfl) lk_6_53) (
  jm_gc (pu_iload _ _) (sn_iload_n (i := 2) (jm_dc dc_71_1 1 rfl)) (
  jm_gc (pu_ic _ _) (sn_iconst (jm_dc dc_71_1 2 rfl) (by decide)) (
  jm_gc (pu_ibin _) (sn_iadd (jm_dc dc_71_1 3 rfl)) (
  jm_gc (pu_iret) (sn_iret (jm_dc dc_71_1 4 rfl) rfl) (
  jm_gc (pu_aload _ _) (sn_aload_n (i := 0) (jm_dc dc_71_1 5 rfl)) (
  jm_gc (pu_aload _ _) (sn_aload_n (i := 1) (jm_dc dc_71_1 6 rfl)) (
  jm_gc (pu_iload _ _) (sn_iload_n (i := 2) (jm_dc dc_71_1 7 rfl)) (
  jm_gc (pu_iload _ _) (sn_iload_n (i := 3) (jm_dc dc_71_1 8 rfl)) (
  jm_gc (pu_callV _ _ _) (sn_callV (jm_dc dc_71_1 9 rfl) lk_6_74) (
  jm_gc (pu_iret) (sn_iret (jm_dc dc_71_1 10 rfl) rfl) (
  jm_gn)))))))))))
theorem dc_72_0 : ([(0, .iload_n 2, 1), (1, .bipush 124, 2), (3, .if_icmp .ne 41, 3), (6, .aload_n 0, 1), (7, .getfield 9, 3), (10, .aload_n 0, 1), (11, .getfield 50, 3), (14, .dup2, 1), (15, .iaload, 1), (16, .aload_n 0, 1), (17, .getfield 15, 3), (20, .aload_n 0, 1), (21, .getfield 50, 3), (24, .iaload, 1), (25, .ior, 1), (26, .iastore, 1), (27, .aload_n 0, 1), (28, .getfield 15, 3), (31, .aload_n 0, 1), (32, .getfield 50, 3), (35, .aload_n 0, 1), (36, .getfield 40, 3), (39, .iastore, 1), (40, .iload_n 1, 1), (41, .iconst 1, 1)] : List (Nat × Instr × Nat)).all (fun e => decide (decode prog_9_method_6_code e.1 = .ok e.2)) = true := by decide +kernel
abbrev cl_72_0 : List (Nat × jm_O) := [(0, op_iload 2 1), (1, op_ic 124 2), (3, op_cne 44), (6, op_aload 0 1), (7, op_getA 6 3), (10, op_aload 0 1), (11, op_getI 6 6), (14, op_dup2), (15, op_iald 13), (16, op_aload 0 1), (17, op_getA 6 4), (20, op_aload 0 1), (21, op_getI 6 6), (24, op_iald 13), (25, op_ibin (fun x y => x ||| y)), (26, op_iast), (27, op_aload 0 1), (28, op_getA 6 4), (31, op_aload 0 1), (32, op_getI 6 6), (35, op_aload 0 1), (36, op_getI 6 7), (39, op_iast), (40, op_iload 1 1), (41, op_ic 1 1)]
set_option maxRecDepth 100000 in
theorem gl_72_0 : jm_gl "FrescoWall$Question" prog_9_method_6_code 3 (Option.some Jvm.ClassFile.FieldType.int) false cl_72_0 :=
  jm_gc (pu_iload _ _) (sn_iload_n (i := 2) (jm_dc dc_72_0 0 rfl)) (
  jm_gc (pu_ic _ _) (sn_bipush (jm_dc dc_72_0 1 rfl) (by decide)) (
  jm_gc (pu_cne _) (sn_cne (jm_dc dc_72_0 2 rfl) (by decide)) (
  jm_gc (pu_aload _ _) (sn_aload_n (i := 0) (jm_dc dc_72_0 3 rfl)) (
  jm_gc (pu_getA _ _) (sn_getA (jm_dc dc_72_0 4 rfl) fl_6_9 rfl) (
  jm_gc (pu_aload _ _) (sn_aload_n (i := 0) (jm_dc dc_72_0 5 rfl)) (
  jm_gc (pu_getI _ _) (sn_getI (jm_dc dc_72_0 6 rfl) fl_6_50 (Or.inl rfl)) (
  jm_gc (pu_dup2) (sn_dup2 (jm_dc dc_72_0 7 rfl)) (
  jm_gc (pu_iald _) (sn_iald (jm_dc dc_72_0 8 rfl)) (
  jm_gc (pu_aload _ _) (sn_aload_n (i := 0) (jm_dc dc_72_0 9 rfl)) (
  jm_gc (pu_getA _ _) (sn_getA (jm_dc dc_72_0 10 rfl) fl_6_15 rfl) (
  jm_gc (pu_aload _ _) (sn_aload_n (i := 0) (jm_dc dc_72_0 11 rfl)) (
  jm_gc (pu_getI _ _) (sn_getI (jm_dc dc_72_0 12 rfl) fl_6_50 (Or.inl rfl)) (
  jm_gc (pu_iald _) (sn_iald (jm_dc dc_72_0 13 rfl)) (
  jm_gc (pu_ibin _) (sn_ior (jm_dc dc_72_0 14 rfl)) (
  jm_gc (pu_iast) (sn_iast (jm_dc dc_72_0 15 rfl)) (
  jm_gc (pu_aload _ _) (sn_aload_n (i := 0) (jm_dc dc_72_0 16 rfl)) (
  jm_gc (pu_getA _ _) (sn_getA (jm_dc dc_72_0 17 rfl) fl_6_15 rfl) (
  jm_gc (pu_aload _ _) (sn_aload_n (i := 0) (jm_dc dc_72_0 18 rfl)) (
  jm_gc (pu_getI _ _) (sn_getI (jm_dc dc_72_0 19 rfl) fl_6_50 (Or.inl rfl)) (
  jm_gc (pu_aload _ _) (sn_aload_n (i := 0) (jm_dc dc_72_0 20 rfl)) (
  jm_gc (pu_getI _ _) (sn_getI (jm_dc dc_72_0 21 rfl) fl_6_40 (Or.inl rfl)) (
  jm_gc (pu_iast) (sn_iast (jm_dc dc_72_0 22 rfl)) (
  jm_gc (pu_iload _ _) (sn_iload_n (i := 1) (jm_dc dc_72_0 23 rfl)) (
  jm_gc (pu_ic _ _) (sn_iconst (jm_dc dc_72_0 24 rfl) (by decide)) (
  jm_gn)))))))))))))))))))))))))
theorem dc_72_1 : ([(42, .iadd, 1), (43, .ireturn, 1), (44, .iload_n 2, 1), (45, .bipush 41, 2), (47, .if_icmp .ne 51, 3), (50, .aload_n 0, 1), (51, .getfield 50, 3), (54, .ifCond .le 44, 3), (57, .aload_n 0, 1), (58, .dup, 1), (59, .getfield 50, 3), (62, .iconst 1, 1), (63, .isub, 1), (64, .putfield 50, 3), (67, .aload_n 0, 1), (68, .aload_n 0, 1), (69, .getfield 9, 3), (72, .aload_n 0, 1), (73, .getfield 50, 3), (76, .iconst 1, 1), (77, .iadd, 1), (78, .iaload, 1), (79, .aload_n 0, 1), (80, .getfield 15, 3), (83, .aload_n 0, 1)] : List (Nat × Instr × Nat)).all (fun e => decide (decode prog_9_method_6_code e.1 = .ok e.2)) = true := by decide +kernel
abbrev cl_72_1 : List (Nat × jm_O) := [(42, op_ibin (fun x y => x + y)), (43, op_iret), (44, op_iload 2 1), (45, op_ic 41 2), (47, op_cne 98), (50, op_aload 0 1), (51, op_getI 6 6), (54, op_ifle 98), (57, op_aload 0 1), (58, op_dup), (59, op_getI 6 6), (62, op_ic 1 1), (63, op_ibin (fun x y => x - y)), (64, op_putI 6 6), (67, op_aload 0 1), (68, op_aload 0 1), (69, op_getA 6 3), (72, op_aload 0 1), (73, op_getI 6 6), (76, op_ic 1 1), (77, op_ibin (fun x y => x + y)), (78, op_iald 13), (79, op_aload 0 1), (80, op_getA 6 4), (83, op_aload 0 1)]
set_option maxRecDepth 100000 in
theorem gl_72_1 : jm_gl "FrescoWall$Question" prog_9_method_6_code 3 (Option.some Jvm.ClassFile.FieldType.int) false cl_72_1 :=
  jm_gc (pu_ibin _) (sn_iadd (jm_dc dc_72_1 0 rfl)) (
  jm_gc (pu_iret) (sn_iret (jm_dc dc_72_1 1 rfl) rfl) (
  jm_gc (pu_iload _ _) (sn_iload_n (i := 2) (jm_dc dc_72_1 2 rfl)) (
  jm_gc (pu_ic _ _) (sn_bipush (jm_dc dc_72_1 3 rfl) (by decide)) (
  jm_gc (pu_cne _) (sn_cne (jm_dc dc_72_1 4 rfl) (by decide)) (
  jm_gc (pu_aload _ _) (sn_aload_n (i := 0) (jm_dc dc_72_1 5 rfl)) (
  jm_gc (pu_getI _ _) (sn_getI (jm_dc dc_72_1 6 rfl) fl_6_50 (Or.inl rfl)) (
  jm_gc (pu_ifle _) (sn_ifle (jm_dc dc_72_1 7 rfl) (by decide)) (
  jm_gc (pu_aload _ _) (sn_aload_n (i := 0) (jm_dc dc_72_1 8 rfl)) (
  jm_gc (pu_dup) (sn_dup (jm_dc dc_72_1 9 rfl)) (
  jm_gc (pu_getI _ _) (sn_getI (jm_dc dc_72_1 10 rfl) fl_6_50 (Or.inl rfl)) (
  jm_gc (pu_ic _ _) (sn_iconst (jm_dc dc_72_1 11 rfl) (by decide)) (
  jm_gc (pu_ibin _) (sn_isub (jm_dc dc_72_1 12 rfl)) (
  jm_gc (pu_putI _ _) (sn_putI (jm_dc dc_72_1 13 rfl) flw_6_50 rfl) (
  jm_gc (pu_aload _ _) (sn_aload_n (i := 0) (jm_dc dc_72_1 14 rfl)) (
  jm_gc (pu_aload _ _) (sn_aload_n (i := 0) (jm_dc dc_72_1 15 rfl)) (
  jm_gc (pu_getA _ _) (sn_getA (jm_dc dc_72_1 16 rfl) fl_6_9 rfl) (
  jm_gc (pu_aload _ _) (sn_aload_n (i := 0) (jm_dc dc_72_1 17 rfl)) (
  jm_gc (pu_getI _ _) (sn_getI (jm_dc dc_72_1 18 rfl) fl_6_50 (Or.inl rfl)) (
  jm_gc (pu_ic _ _) (sn_iconst (jm_dc dc_72_1 19 rfl) (by decide)) (
  jm_gc (pu_ibin _) (sn_iadd (jm_dc dc_72_1 20 rfl)) (
  jm_gc (pu_iald _) (sn_iald (jm_dc dc_72_1 21 rfl)) (
  jm_gc (pu_aload _ _) (sn_aload_n (i := 0) (jm_dc dc_72_1 22 rfl)) (
  jm_gc (pu_getA _ _) (sn_getA (jm_dc dc_72_1 23 rfl) fl_6_15 rfl) (
  jm_gc (pu_aload _ _) (sn_aload_n (i := 0) (jm_dc dc_72_1 24 rfl)) (
  jm_gn)))))))))))))))))))))))))
theorem dc_72_2 : ([(84, .getfield 50, 3), (87, .iconst 1, 1), (88, .iadd, 1), (89, .iaload, 1), (90, .ior, 1), (91, .invokevirtual 77, 3), (94, .iload_n 1, 1), (95, .iconst 1, 1), (96, .iadd, 1), (97, .ireturn, 1), (98, .iload_n 2, 1), (99, .bipush 38, 2), (101, .if_icmp .ne 9, 3), (104, .iload_n 1, 1), (105, .iconst 1, 1), (106, .iadd, 1), (107, .goto 5, 3), (110, .iload_n 1, 1), (111, .ineg, 1), (112, .ireturn, 1)] : List (Nat × Instr × Nat)).all (fun e => decide (decode prog_9_method_6_code e.1 = .ok e.2)) = true := by decide +kernel
abbrev cl_72_2 : List (Nat × jm_O) := [(84, op_getI 6 6), (87, op_ic 1 1), (88, op_ibin (fun x y => x + y)), (89, op_iald 13), (90, op_ibin (fun x y => x ||| y)), (91, op_callV 6 70 2), (94, op_iload 1 1), (95, op_ic 1 1), (96, op_ibin (fun x y => x + y)), (97, op_iret), (98, op_iload 2 1), (99, op_ic 38 2), (101, op_cne 110), (104, op_iload 1 1), (105, op_ic 1 1), (106, op_ibin (fun x y => x + y)), (107, op_goto 112), (110, op_iload 1 1), (111, op_iun (fun x => -x)), (112, op_iret)]
set_option maxRecDepth 100000 in
theorem gl_72_2 : jm_gl "FrescoWall$Question" prog_9_method_6_code 3 (Option.some Jvm.ClassFile.FieldType.int) false cl_72_2 :=
  jm_gc (pu_getI _ _) (sn_getI (jm_dc dc_72_2 0 rfl) fl_6_50 (Or.inl rfl)) (
  jm_gc (pu_ic _ _) (sn_iconst (jm_dc dc_72_2 1 rfl) (by decide)) (
  jm_gc (pu_ibin _) (sn_iadd (jm_dc dc_72_2 2 rfl)) (
  jm_gc (pu_iald _) (sn_iald (jm_dc dc_72_2 3 rfl)) (
  jm_gc (pu_ibin _) (sn_ior (jm_dc dc_72_2 4 rfl)) (
  jm_gc (pu_callV _ _ _) (sn_callV (jm_dc dc_72_2 5 rfl) lk_6_77) (
  jm_gc (pu_iload _ _) (sn_iload_n (i := 1) (jm_dc dc_72_2 6 rfl)) (
  jm_gc (pu_ic _ _) (sn_iconst (jm_dc dc_72_2 7 rfl) (by decide)) (
  jm_gc (pu_ibin _) (sn_iadd (jm_dc dc_72_2 8 rfl)) (
  jm_gc (pu_iret) (sn_iret (jm_dc dc_72_2 9 rfl) rfl) (
  jm_gc (pu_iload _ _) (sn_iload_n (i := 2) (jm_dc dc_72_2 10 rfl)) (
  jm_gc (pu_ic _ _) (sn_bipush (jm_dc dc_72_2 11 rfl) (by decide)) (
  jm_gc (pu_cne _) (sn_cne (jm_dc dc_72_2 12 rfl) (by decide)) (
  jm_gc (pu_iload _ _) (sn_iload_n (i := 1) (jm_dc dc_72_2 13 rfl)) (
  jm_gc (pu_ic _ _) (sn_iconst (jm_dc dc_72_2 14 rfl) (by decide)) (
  jm_gc (pu_ibin _) (sn_iadd (jm_dc dc_72_2 15 rfl)) (
  jm_gc (pu_goto _) (sn_goto (jm_dc dc_72_2 16 rfl) (by decide)) (
  jm_gc (pu_iload _ _) (sn_iload_n (i := 1) (jm_dc dc_72_2 17 rfl)) (
  jm_gc (pu_iun _) (sn_ineg (jm_dc dc_72_2 18 rfl)) (
  jm_gc (pu_iret) (sn_iret (jm_dc dc_72_2 19 rfl) rfl) (
  jm_gn))))))))))))))))))))
theorem dc_73_0 : ([(0, .iload_n 3, 1), (1, .invokestatic 81, 3), (4, .ifCond .ne 6, 3), (7, .iload_n 2, 1), (8, .ineg, 1), (9, .ireturn, 1), (10, .aload_n 1, 1), (11, .iload_n 2, 1), (12, .iconst 1, 1), (13, .iadd, 1), (14, .invokevirtual 59, 3), (17, .istore 4, 2), (19, .iload 4, 2), (21, .bipush 60, 2), (23, .if_icmp .eq 22, 3), (26, .iload 4, 2), (28, .bipush 61, 2), (30, .if_icmp .eq 15, 3), (33, .iload 4, 2), (35, .bipush 62, 2), (37, .if_icmp .eq 8, 3), (40, .iload_n 2, 1), (41, .ineg, 1), (42, .iconst 1, 1), (43, .isub, 1)] : List (Nat × Instr × Nat)).all (fun e => decide (decode prog_9_method_7_code e.1 = .ok e.2)) = true := by decide +kernel
abbrev cl_73_0 : List (Nat × jm_O) := [(0, op_iload 3 1), (1, op_callS 74 1), (4, op_ifne 10), (7, op_iload 2 1), (8, op_iun (fun x => -x)), (9, op_iret), (10, op_aload 1 1), (11, op_iload 2 1), (12, op_ic 1 1), (13, op_ibin (fun x y => x + y)), (14, op_callV 8 96 2), (17, op_istore 4 2), (19, op_iload 4 2), (21, op_ic 60 2), (23, op_ceq 45), (26, op_iload 4 2), (28, op_ic 61 2), (30, op_ceq 45), (33, op_iload 4 2), (35, op_ic 62 2), (37, op_ceq 45), (40, op_iload 2 1), (41, op_iun (fun x => -x)), (42, op_ic 1 1), (43, op_ibin (fun x y => x - y))]
set_option maxRecDepth 100000 in
theorem gl_73_0 : jm_gl "FrescoWall$Question" prog_9_method_7_code 7 (Option.some Jvm.ClassFile.FieldType.int) false cl_73_0 :=
  jm_gc (pu_iload _ _) (sn_iload_n (i := 3) (jm_dc dc_73_0 0 rfl)) (
  jm_gc (pu_callS _ _) (sn_callS (jm_dc dc_73_0 1 rfl) lk_6_81) (
  jm_gc (pu_ifne _) (sn_ifne (jm_dc dc_73_0 2 rfl) (by decide)) (
  jm_gc (pu_iload _ _) (sn_iload_n (i := 2) (jm_dc dc_73_0 3 rfl)) (
  jm_gc (pu_iun _) (sn_ineg (jm_dc dc_73_0 4 rfl)) (
  jm_gc (pu_iret) (sn_iret (jm_dc dc_73_0 5 rfl) rfl) (
  jm_gc (pu_aload _ _) (sn_aload_n (i := 1) (jm_dc dc_73_0 6 rfl)) (
  jm_gc (pu_iload _ _) (sn_iload_n (i := 2) (jm_dc dc_73_0 7 rfl)) (
  jm_gc (pu_ic _ _) (sn_iconst (jm_dc dc_73_0 8 rfl) (by decide)) (
  jm_gc (pu_ibin _) (sn_iadd (jm_dc dc_73_0 9 rfl)) (
  jm_gc (pu_callV _ _ _) (sn_callV (jm_dc dc_73_0 10 rfl) lk_6_59) (
  jm_gc (pu_istore _ _) (sn_istore (jm_dc dc_73_0 11 rfl)) (
  jm_gc (pu_iload _ _) (sn_iload (jm_dc dc_73_0 12 rfl)) (
  jm_gc (pu_ic _ _) (sn_bipush (jm_dc dc_73_0 13 rfl) (by decide)) (
  jm_gc (pu_ceq _) (sn_ceq (jm_dc dc_73_0 14 rfl) (by decide)) (
  jm_gc (pu_iload _ _) (sn_iload (jm_dc dc_73_0 15 rfl)) (
  jm_gc (pu_ic _ _) (sn_bipush (jm_dc dc_73_0 16 rfl) (by decide)) (
  jm_gc (pu_ceq _) (sn_ceq (jm_dc dc_73_0 17 rfl) (by decide)) (
  jm_gc (pu_iload _ _) (sn_iload (jm_dc dc_73_0 18 rfl)) (
  jm_gc (pu_ic _ _) (sn_bipush (jm_dc dc_73_0 19 rfl) (by decide)) (
  jm_gc (pu_ceq _) (sn_ceq (jm_dc dc_73_0 20 rfl) (by decide)) (
  jm_gc (pu_iload _ _) (sn_iload_n (i := 2) (jm_dc dc_73_0 21 rfl)) (
  jm_gc (pu_iun _) (sn_ineg (jm_dc dc_73_0 22 rfl)) (
  jm_gc (pu_ic _ _) (sn_iconst (jm_dc dc_73_0 23 rfl) (by decide)) (
  jm_gc (pu_ibin _) (sn_isub (jm_dc dc_73_0 24 rfl)) (
  jm_gn)))))))))))))))))))))))))
theorem dc_73_1 : ([(44, .ireturn, 1), (45, .aload_n 1, 1), (46, .iload_n 2, 1), (47, .iconst 2, 1), (48, .iadd, 1), (49, .invokevirtual 85, 3), (52, .istore 5, 2), (54, .iload 5, 2), (56, .ifCond .ge 8, 3), (59, .iload_n 2, 1), (60, .ineg, 1), (61, .iconst 2, 1), (62, .isub, 1), (63, .ireturn, 1), (64, .iload_n 2, 1), (65, .iconst 3, 1), (66, .iadd, 1), (67, .istore 6, 2), (69, .iload 6, 2), (71, .iload_n 2, 1), (72, .iconst 5, 1), (73, .iadd, 1), (74, .if_icmp .ge 37, 3), (77, .iload 5, 2), (79, .ifCond .le 32, 3)] : List (Nat × Instr × Nat)).all (fun e => decide (decode prog_9_method_7_code e.1 = .ok e.2)) = true := by decide +kernel
abbrev cl_73_1 : List (Nat × jm_O) := [(44, op_iret), (45, op_aload 1 1), (46, op_iload 2 1), (47, op_ic 2 1), (48, op_ibin (fun x y => x + y)), (49, op_callV 8 97 2), (52, op_istore 5 2), (54, op_iload 5 2), (56, op_ifge 64), (59, op_iload 2 1), (60, op_iun (fun x => -x)), (61, op_ic 2 1), (62, op_ibin (fun x y => x - y)), (63, op_iret), (64, op_iload 2 1), (65, op_ic 3 1), (66, op_ibin (fun x y => x + y)), (67, op_istore 6 2), (69, op_iload 6 2), (71, op_iload 2 1), (72, op_ic 5 1), (73, op_ibin (fun x y => x + y)), (74, op_cge 111), (77, op_iload 5 2), (79, op_ifle 111)]
set_option maxRecDepth 100000 in
theorem gl_73_1 : jm_gl "FrescoWall$Question" prog_9_method_7_code 7 (Option.some Jvm.ClassFile.FieldType.int) false cl_73_1 :=
  jm_gc (pu_iret) (sn_iret (jm_dc dc_73_1 0 rfl) rfl) (
  jm_gc (pu_aload _ _) (sn_aload_n (i := 1) (jm_dc dc_73_1 1 rfl)) (
  jm_gc (pu_iload _ _) (sn_iload_n (i := 2) (jm_dc dc_73_1 2 rfl)) (
  jm_gc (pu_ic _ _) (sn_iconst (jm_dc dc_73_1 3 rfl) (by decide)) (
  jm_gc (pu_ibin _) (sn_iadd (jm_dc dc_73_1 4 rfl)) (
  jm_gc (pu_callV _ _ _) (sn_callV (jm_dc dc_73_1 5 rfl) lk_6_85) (
  jm_gc (pu_istore _ _) (sn_istore (jm_dc dc_73_1 6 rfl)) (
  jm_gc (pu_iload _ _) (sn_iload (jm_dc dc_73_1 7 rfl)) (
  jm_gc (pu_ifge _) (sn_ifge (jm_dc dc_73_1 8 rfl) (by decide)) (
  jm_gc (pu_iload _ _) (sn_iload_n (i := 2) (jm_dc dc_73_1 9 rfl)) (
  jm_gc (pu_iun _) (sn_ineg (jm_dc dc_73_1 10 rfl)) (
  jm_gc (pu_ic _ _) (sn_iconst (jm_dc dc_73_1 11 rfl) (by decide)) (
  jm_gc (pu_ibin _) (sn_isub (jm_dc dc_73_1 12 rfl)) (
  jm_gc (pu_iret) (sn_iret (jm_dc dc_73_1 13 rfl) rfl) (
  jm_gc (pu_iload _ _) (sn_iload_n (i := 2) (jm_dc dc_73_1 14 rfl)) (
  jm_gc (pu_ic _ _) (sn_iconst (jm_dc dc_73_1 15 rfl) (by decide)) (
  jm_gc (pu_ibin _) (sn_iadd (jm_dc dc_73_1 16 rfl)) (
  jm_gc (pu_istore _ _) (sn_istore (jm_dc dc_73_1 17 rfl)) (
  jm_gc (pu_iload _ _) (sn_iload (jm_dc dc_73_1 18 rfl)) (
  jm_gc (pu_iload _ _) (sn_iload_n (i := 2) (jm_dc dc_73_1 19 rfl)) (
  jm_gc (pu_ic _ _) (sn_iconst (jm_dc dc_73_1 20 rfl) (by decide)) (
  jm_gc (pu_ibin _) (sn_iadd (jm_dc dc_73_1 21 rfl)) (
  jm_gc (pu_cge _) (sn_cge (jm_dc dc_73_1 22 rfl) (by decide)) (
  jm_gc (pu_iload _ _) (sn_iload (jm_dc dc_73_1 23 rfl)) (
  jm_gc (pu_ifle _) (sn_ifle (jm_dc dc_73_1 24 rfl) (by decide)) (
  jm_gn)))))))))))))))))))))))))
theorem dc_73_2 : ([(82, .aload_n 1, 1), (83, .iload 6, 2), (85, .invokevirtual 85, 3), (88, .ifCond .lt 23, 3), (91, .bipush 10, 2), (93, .iload 5, 2), (95, .imul, 1), (96, .aload_n 1, 1), (97, .iload 6, 2), (99, .invokevirtual 85, 3), (102, .iadd, 1), (103, .istore 5, 2), (105, .iinc 6 1, 3), (108, .goto (-39), 3), (111, .aload_n 0, 1), (112, .aload_n 0, 1), (113, .iload_n 3, 1), (114, .iload 4, 2), (116, .iload 5, 2), (118, .invokevirtual 88, 3), (121, .invokevirtual 77, 3), (124, .iload 6, 2), (126, .ireturn, 1)] : List (Nat × Instr × Nat)).all (fun e => decide (decode prog_9_method_7_code e.1 = .ok e.2)) = true := by decide +kernel
abbrev cl_73_2 : List (Nat × jm_O) := [(82, op_aload 1 1), (83, op_iload 6 2), (85, op_callV 8 97 2), (88, op_iflt 111), (91, op_ic 10 2), (93, op_iload 5 2), (95, op_ibin (fun x y => x * y)), (96, op_aload 1 1), (97, op_iload 6 2), (99, op_callV 8 97 2), (102, op_ibin (fun x y => x + y)), (103, op_istore 5 2), (105, op_iinc 6 1), (108, op_goto 69), (111, op_aload 0 1), (112, op_aload 0 1), (113, op_iload 3 1), (114, op_iload 4 2), (116, op_iload 5 2), (118, op_callV 6 75 4), (121, op_callV 6 70 2), (124, op_iload 6 2), (126, op_iret)]
set_option maxRecDepth 100000 in
theorem gl_73_2 : jm_gl "FrescoWall$Question" prog_9_method_7_code 7 (Option.some Jvm.ClassFile.FieldType.int) false cl_73_2 :=
  jm_gc (pu_aload _ _) (sn_aload_n (i := 1) (jm_dc dc_73_2 0 rfl)) (
  jm_gc (pu_iload _ _) (sn_iload (jm_dc dc_73_2 1 rfl)) (
  jm_gc (pu_callV _ _ _) (sn_callV (jm_dc dc_73_2 2 rfl) lk_6_85) (
  jm_gc (pu_iflt _) (sn_iflt (jm_dc dc_73_2 3 rfl) (by decide)) (
  jm_gc (pu_ic _ _) (sn_bipush (jm_dc dc_73_2 4 rfl) (by decide)) (
  jm_gc (pu_iload _ _) (sn_iload (jm_dc dc_73_2 5 rfl)) (
  jm_gc (pu_ibin _) (sn_imul (jm_dc dc_73_2 6 rfl)) (
  jm_gc (pu_aload _ _) (sn_aload_n (i := 1) (jm_dc dc_73_2 7 rfl)) (
  jm_gc (pu_iload _ _) (sn_iload (jm_dc dc_73_2 8 rfl)) (
  jm_gc (pu_callV _ _ _) (sn_callV (jm_dc dc_73_2 9 rfl) lk_6_85) (
  jm_gc (pu_ibin _) (sn_iadd (jm_dc dc_73_2 10 rfl)) (
  jm_gc (pu_istore _ _) (sn_istore (jm_dc dc_73_2 11 rfl)) (
  jm_gc (pu_iinc _ _) (sn_iinc (jm_dc dc_73_2 12 rfl) (by decide)) (
  jm_gc (pu_goto _) (sn_goto (jm_dc dc_73_2 13 rfl) (by decide)) (
  jm_gc (pu_aload _ _) (sn_aload_n (i := 0) (jm_dc dc_73_2 14 rfl)) (
  jm_gc (pu_aload _ _) (sn_aload_n (i := 0) (jm_dc dc_73_2 15 rfl)) (
  jm_gc (pu_iload _ _) (sn_iload_n (i := 3) (jm_dc dc_73_2 16 rfl)) (
  jm_gc (pu_iload _ _) (sn_iload (jm_dc dc_73_2 17 rfl)) (
  jm_gc (pu_iload _ _) (sn_iload (jm_dc dc_73_2 18 rfl)) (
  jm_gc (pu_callV _ _ _) (sn_callV (jm_dc dc_73_2 19 rfl) lk_6_88) (
  jm_gc (pu_callV _ _ _) (sn_callV (jm_dc dc_73_2 20 rfl) lk_6_77) (
  jm_gc (pu_iload _ _) (sn_iload (jm_dc dc_73_2 21 rfl)) (
  jm_gc (pu_iret) (sn_iret (jm_dc dc_73_2 22 rfl) rfl) (
  jm_gn)))))))))))))))))))))))
theorem dc_74_0 : ([(0, .iload_n 0, 1), (1, .tableswitch 105 98 119 #[103, 103, 105, 103, 105, 103, 105, 105, 103, 105, 105, 105, 103, 105, 103, 105, 105, 103, 103, 105, 103, 103], 103), (104, .iconst 1, 1), (105, .ireturn, 1), (106, .iconst 0, 1), (107, .ireturn, 1)] : List (Nat × Instr × Nat)).all (fun e => decide (decode prog_9_method_8_code e.1 = .ok e.2)) = true := by decide +kernel
abbrev cl_74_0 : List (Nat × jm_O) := [(0, op_iload 0 1), (1, op_sw 106 [(98, 104), (99, 104), (100, 106), (101, 104), (102, 106), (103, 104), (104, 106), (105, 106), (106, 104), (107, 106), (108, 106), (109, 106), (110, 104), (111, 106), (112, 104), (113, 106), (114, 106), (115, 104), (116, 104), (117, 106), (118, 104), (119, 104)]), (104, op_ic 1 1), (105, op_zret), (106, op_ic 0 1), (107, op_zret)]
set_option maxRecDepth 100000 in
theorem gl_74_0 : jm_gl "FrescoWall$Question" prog_9_method_8_code 1 (Option.some Jvm.ClassFile.FieldType.boolean) false cl_74_0 :=
  jm_gc (pu_iload _ _) (sn_iload_n (i := 0) (jm_dc dc_74_0 0 rfl)) (
  jm_gc (pu_sw _ _) (sn_tsw (jm_dc dc_74_0 1 rfl) (by decide) (by decide) (by decide)) (
  jm_gc (pu_ic _ _) (sn_iconst (jm_dc dc_74_0 2 rfl) (by decide)) (
  jm_gc (pu_zret) (sn_zret (jm_dc dc_74_0 3 rfl) rfl) (
  jm_gc (pu_ic _ _) (sn_iconst (jm_dc dc_74_0 4 rfl) (by decide)) (
  jm_gc (pu_zret) (sn_zret (jm_dc dc_74_0 5 rfl) rfl) (
  jm_gn))))))
theorem dc_75_0 : ([(0, .iload_n 2, 1), (1, .bipush 61, 2), (3, .isub, 1), (4, .istore 4, 2), (6, .iconst 0, 1), (7, .istore 5, 2), (9, .iconst 0, 1), (10, .istore 6, 2), (12, .iload 6, 2), (14, .aload_n 0, 1), (15, .getfield 22, 3), (18, .getfield 92, 3), (21, .if_icmp .ge 38, 3), (24, .aload_n 0, 1), (25, .iload_n 1, 1), (26, .iload 6, 2), (28, .invokevirtual 95, 3), (31, .iload_n 3, 1), (32, .invokestatic 98, 3), (35, .istore 7, 2), (37, .iload 7, 2), (39, .iload 4, 2), (41, .if_icmp .ne 12, 3), (44, .iload 5, 2), (46, .iconst 1, 1)] : List (Nat × Instr × Nat)).all (fun e => decide (decode prog_9_method_9_code e.1 = .ok e.2)) = true := by decide +kernel
abbrev cl_75_0 : List (Nat × jm_O) := [(0, op_iload 2 1), (1, op_ic 61 2), (3, op_ibin (fun x y => x - y)), (4, op_istore 4 2), (6, op_ic 0 1), (7, op_istore 5 2), (9, op_ic 0 1), (10, op_istore 6 2), (12, op_iload 6 2), (14, op_aload 0 1), (15, op_getA 6 0), (18, op_getI 3 1), (21, op_cge 59), (24, op_aload 0 1), (25, op_iload 1 1), (26, op_iload 6 2), (28, op_callV 6 76 3), (31, op_iload 3 1), (32, op_callS 318 2), (35, op_istore 7 2), (37, op_iload 7 2), (39, op_iload 4 2), (41, op_cne 53), (44, op_iload 5 2), (46, op_ic 1 1)]
set_option maxRecDepth 100000 in
theorem gl_75_0 : jm_gl "FrescoWall$Question" prog_9_method_9_code 8 (Option.some Jvm.ClassFile.FieldType.int) false cl_75_0 :=
  jm_gc (pu_iload _ _) (sn_iload_n (i := 2) (jm_dc dc_75_0 0 rfl)) (
  jm_gc (pu_ic _ _) (sn_bipush (jm_dc dc_75_0 1 rfl) (by decide)) (
  jm_gc (pu_ibin _) (sn_isub (jm_dc dc_75_0 2 rfl)) (
  jm_gc (pu_istore _ _) (sn_istore (jm_dc dc_75_0 3 rfl)) (
  jm_gc (pu_ic _ _) (sn_iconst (jm_dc dc_75_0 4 rfl) (by decide)) (
  jm_gc (pu_istore _ _) (sn_istore (jm_dc dc_75_0 5 rfl)) (
  jm_gc (pu_ic _ _) (sn_iconst (jm_dc dc_75_0 6 rfl) (by decide)) (
  jm_gc (pu_istore _ _) (sn_istore (jm_dc dc_75_0 7 rfl)) (
  jm_gc (pu_iload _ _) (sn_iload (jm_dc dc_75_0 8 rfl)) (
  jm_gc (pu_aload _ _) (sn_aload_n (i := 0) (jm_dc dc_75_0 9 rfl)) (
  jm_gc (pu_getA _ _) (sn_getA (jm_dc dc_75_0 10 rfl) fl_6_22 rfl) (
  jm_gc (pu_getI _ _) (sn_getI (jm_dc dc_75_0 11 rfl) fl_6_92 (Or.inl rfl)) (
  jm_gc (pu_cge _) (sn_cge (jm_dc dc_75_0 12 rfl) (by decide)) (
  jm_gc (pu_aload _ _) (sn_aload_n (i := 0) (jm_dc dc_75_0 13 rfl)) (
  jm_gc (pu_iload _ _) (sn_iload_n (i := 1) (jm_dc dc_75_0 14 rfl)) (
  jm_gc (pu_iload _ _) (sn_iload (jm_dc dc_75_0 15 rfl)) (
  jm_gc (pu_callV _ _ _) (sn_callV (jm_dc dc_75_0 16 rfl) lk_6_95) (
  jm_gc (pu_iload _ _) (sn_iload_n (i := 3) (jm_dc dc_75_0 17 rfl)) (
  jm_gc (pu_callS _ _) (sn_callS (jm_dc dc_75_0 18 rfl) lk_6_98) (
  jm_gc (pu_istore _ _) (sn_istore (jm_dc dc_75_0 19 rfl)) (
  jm_gc (pu_iload _ _) (sn_iload (jm_dc dc_75_0 20 rfl)) (
  jm_gc (pu_iload _ _) (sn_iload (jm_dc dc_75_0 21 rfl)) (
  jm_gc (pu_cne _) (sn_cne (jm_dc dc_75_0 22 rfl) (by decide)) (
  jm_gc (pu_iload _ _) (sn_iload (jm_dc dc_75_0 23 rfl)) (
  jm_gc (pu_ic _ _) (sn_iconst (jm_dc dc_75_0 24 rfl) (by decide)) (
  jm_gn)))))))))))))))))))))))))
theorem dc_75_1 : ([(47, .iload 6, 2), (49, .ishl, 1), (50, .ior, 1), (51, .istore 5, 2), (53, .iinc 6 1, 3), (56, .goto (-44), 3), (59, .iload 5, 2), (61, .ireturn, 1)] : List (Nat × Instr × Nat)).all (fun e => decide (decode prog_9_method_9_code e.1 = .ok e.2)) = true := by decide +kernel
abbrev cl_75_1 : List (Nat × jm_O) := [(47, op_iload 6 2), (49, op_ibin (fun x y => x <<< (y &&& 31))), (50, op_ibin (fun x y => x ||| y)), (51, op_istore 5 2), (53, op_iinc 6 1), (56, op_goto 12), (59, op_iload 5 2), (61, op_iret)]
set_option maxRecDepth 100000 in
theorem gl_75_1 : jm_gl "FrescoWall$Question" prog_9_method_9_code 8 (Option.some Jvm.ClassFile.FieldType.int) false cl_75_1 :=
  jm_gc (pu_iload _ _) (sn_iload (jm_dc dc_75_1 0 rfl)) (
  jm_gc (pu_ibin _) (sn_ishl (jm_dc dc_75_1 1 rfl)) (
  jm_gc (pu_ibin _) (sn_ior (jm_dc dc_75_1 2 rfl)) (
  jm_gc (pu_istore _ _) (sn_istore (jm_dc dc_75_1 3 rfl)) (
  jm_gc (pu_iinc _ _) (sn_iinc (jm_dc dc_75_1 4 rfl) (by decide)) (
  jm_gc (pu_goto _) (sn_goto (jm_dc dc_75_1 5 rfl) (by decide)) (
  jm_gc (pu_iload _ _) (sn_iload (jm_dc dc_75_1 6 rfl)) (
  jm_gc (pu_iret) (sn_iret (jm_dc dc_75_1 7 rfl) rfl) (
  jm_gn))))))))
theorem dc_76_0 : ([(0, .aload_n 0, 1), (1, .getfield 22, 3), (4, .getfield 103, 3), (7, .iload_n 2, 1), (8, .aaload, 1), (9, .astore_n 3, 1), (10, .iload_n 1, 1), (11, .tableswitch 179 99 119 #[134, 179, 124, 179, 148, 179, 179, 139, 179, 179, 179, 129, 179, 119, 179, 179, 102, 97, 179, 170, 161], 97), (108, .aload_n 3, 1), (109, .getfield 107, 3), (112, .ireturn, 1), (113, .aload_n 3, 1), (114, .getfield 112, 3), (117, .ifCond .ge 8, 3), (120, .bipush 9, 2), (122, .goto 7, 3), (125, .aload_n 3, 1), (126, .getfield 112, 3), (129, .ireturn, 1), (130, .aload_n 3, 1), (131, .getfield 115, 3), (134, .ireturn, 1), (135, .aload_n 3, 1), (136, .getfield 118, 3), (139, .ireturn, 1)] : List (Nat × Instr × Nat)).all (fun e => decide (decode prog_9_method_10_code e.1 = .ok e.2)) = true := by decide +kernel
abbrev cl_76_0 : List (Nat × jm_O) := [(0, op_aload 0 1), (1, op_getA 6 0), (4, op_getA 3 0), (7, op_iload 2 1), (8, op_aald), (9, op_astore 3 1), (10, op_iload 1 1), (11, op_sw 190 [(99, 145), (100, 190), (101, 135), (102, 190), (103, 159), (104, 190), (105, 190), (106, 150), (107, 190), (108, 190), (109, 190), (110, 140), (111, 190), (112, 130), (113, 190), (114, 190), (115, 113), (116, 108), (117, 190), (118, 181), (119, 172)]), (108, op_aload 3 1), (109, op_getI 1 0), (112, op_iret), (113, op_aload 3 1), (114, op_getI 1 1), (117, op_ifge 125), (120, op_ic 9 2), (122, op_goto 129), (125, op_aload 3 1), (126, op_getI 1 1), (129, op_iret), (130, op_aload 3 1), (131, op_getI 1 2), (134, op_iret), (135, op_aload 3 1), (136, op_getI 1 3), (139, op_iret)]
set_option maxRecDepth 100000 in
theorem gl_76_0 : jm_gl "FrescoWall$Question" prog_9_method_10_code 5 (Option.some Jvm.ClassFile.FieldType.int) false cl_76_0 :=
  jm_gc (pu_aload _ _) (sn_aload_n (i := 0) (jm_dc dc_76_0 0 rfl)) (
  jm_gc (pu_getA _ _) (sn_getA (jm_dc dc_76_0 1 rfl) fl_6_22 rfl) (
  jm_gc (pu_getA _ _) (sn_getA (jm_dc dc_76_0 2 rfl) fl_6_103 rfl) (
  jm_gc (pu_iload _ _) (sn_iload_n (i := 2) (jm_dc dc_76_0 3 rfl)) (
  jm_gc (pu_aald) (sn_aald (jm_dc dc_76_0 4 rfl)) (
  jm_gc (pu_astore _ _) (sn_astore_n (i := 3) (jm_dc dc_76_0 5 rfl)) (
  jm_gc (pu_iload _ _) (sn_iload_n (i := 1) (jm_dc dc_76_0 6 rfl)) (
  jm_gc (pu_sw _ _) (sn_tsw (jm_dc dc_76_0 7 rfl) (by decide) (by decide) (by decide)) (
  jm_gc (pu_aload _ _) (sn_aload_n (i := 3) (jm_dc dc_76_0 8 rfl)) (
  jm_gc (pu_getI _ _) (sn_getI (jm_dc dc_76_0 9 rfl) fl_6_107 (Or.inl rfl)) (
  jm_gc (pu_iret) (sn_iret (jm_dc dc_76_0 10 rfl) rfl) (
  jm_gc (pu_aload _ _) (sn_aload_n (i := 3) (jm_dc dc_76_0 11 rfl)) (
  jm_gc (pu_getI _ _) (sn_getI (jm_dc dc_76_0 12 rfl) fl_6_112 (Or.inl rfl)) (
  jm_gc (pu_ifge _) (sn_ifge (jm_dc dc_76_0 13 rfl) (by decide)) (
  jm_gc (pu_ic _ _) (sn_bipush (jm_dc dc_76_0 14 rfl) (by decide)) (
  jm_gc (pu_goto _) (sn_goto (jm_dc dc_76_0 15 rfl) (by decide)) (
  jm_gc (pu_aload _ _) (sn_aload_n (i := 3) (jm_dc dc_76_0 16 rfl)) (
  jm_gc (pu_getI _ _) (sn_getI (jm_dc dc_76_0 17 rfl) fl_6_112 (Or.inl rfl)) (
  jm_gc (pu_iret) (sn_iret (jm_dc dc_76_0 18 rfl) rfl) (
  jm_gc (pu_aload _ _) (sn_aload_n (i := 3) (jm_dc dc_76_0 19 rfl)) (
  jm_gc (pu_getI _ _) (sn_getI (jm_dc dc_76_0 20 rfl) fl_6_115 (Or.inl rfl)) (
  jm_gc (pu_iret) (sn_iret (jm_dc dc_76_0 21 rfl) rfl) (
  jm_gc (pu_aload _ _) (sn_aload_n (i := 3) (jm_dc dc_76_0 22 rfl)) (
  jm_gc (pu_getI _ _) (sn_getI (jm_dc dc_76_0 23 rfl) fl_6_118 (Or.inl rfl)) (
  jm_gc (pu_iret) (sn_iret (jm_dc dc_76_0 24 rfl) rfl) (
  jm_gn)))))))))))))))))))))))))
theorem dc_76_1 : ([(140, .aload_n 3, 1), (141, .getfield 121, 3), (144, .ireturn, 1), (145, .aload_n 3, 1), (146, .getfield 124, 3), (149, .ireturn, 1), (150, .aload_n 0, 1), (151, .getfield 26, 3), (154, .iload_n 2, 1), (155, .invokevirtual 127, 3), (158, .ireturn, 1), (159, .aload_n 0, 1), (160, .getfield 26, 3), (163, .getfield 132, 3), (166, .iload_n 2, 1), (167, .iaload, 1), (168, .invokestatic 135, 3), (171, .ireturn, 1), (172, .aload_n 0, 1), (173, .getfield 44, 3), (176, .iload_n 2, 1), (177, .ishr, 1), (178, .iconst 1, 1), (179, .iand, 1), (180, .ireturn, 1)] : List (Nat × Instr × Nat)).all (fun e => decide (decode prog_9_method_10_code e.1 = .ok e.2)) = true := by decide +kernel
abbrev cl_76_1 : List (Nat × jm_O) := [(140, op_aload 3 1), (141, op_getI 1 12), (144, op_iret), (145, op_aload 3 1), (146, op_getI 1 7), (149, op_iret), (150, op_aload 0 1), (151, op_getA 6 1), (154, op_iload 2 1), (155, op_callV 4 49 2), (158, op_iret), (159, op_aload 0 1), (160, op_getA 6 1), (163, op_getA 4 6), (166, op_iload 2 1), (167, op_iald 13), (168, op_callS 317 1), (171, op_iret), (172, op_aload 0 1), (173, op_getI 6 8), (176, op_iload 2 1), (177, op_ibin (fun x y => x >>> (y &&& 31))), (178, op_ic 1 1), (179, op_ibin (fun x y => x &&& y)), (180, op_iret)]
set_option maxRecDepth 100000 in
theorem gl_76_1 : jm_gl "FrescoWall$Question" prog_9_method_10_code 5 (Option.some Jvm.ClassFile.FieldType.int) false cl_76_1 :=
  jm_gc (pu_aload _ _) (sn_aload_n (i := 3) (jm_dc dc_76_1 0 rfl)) (
  jm_gc (pu_getI _ _) (sn_getI (jm_dc dc_76_1 1 rfl) fl_6_121 (Or.inl rfl)) (
  jm_gc (pu_iret) (sn_iret (jm_dc dc_76_1 2 rfl) rfl) (
  jm_gc (pu_aload _ _) (sn_aload_n (i := 3) (jm_dc dc_76_1 3 rfl)) (
  jm_gc (pu_getI _ _) (sn_getI (jm_dc dc_76_1 4 rfl) fl_6_124 (Or.inl rfl)) (
  jm_gc (pu_iret) (sn_iret (jm_dc dc_76_1 5 rfl) rfl) (
  jm_gc (pu_aload _ _) (sn_aload_n (i := 0) (jm_dc dc_76_1 6 rfl)) (
  jm_gc (pu_getA _ _) (sn_getA (jm_dc dc_76_1 7 rfl) fl_6_26 rfl) (
  jm_gc (pu_iload _ _) (sn_iload_n (i := 2) (jm_dc dc_76_1 8 rfl)) (
  jm_gc (pu_callV _ _ _) (sn_callV (jm_dc dc_76_1 9 rfl) lk_6_127) (
  jm_gc (pu_iret) (sn_iret (jm_dc dc_76_1 10 rfl) rfl) (
  jm_gc (pu_aload _ _) (sn_aload_n (i := 0) (jm_dc dc_76_1 11 rfl)) (
  jm_gc (pu_getA _ _) (sn_getA (jm_dc dc_76_1 12 rfl) fl_6_26 rfl) (
  jm_gc (pu_getA _ _) (sn_getA (jm_dc dc_76_1 13 rfl) fl_6_132 rfl) (
  jm_gc (pu_iload _ _) (sn_iload_n (i := 2) (jm_dc dc_76_1 14 rfl)) (
  jm_gc (pu_iald _) (sn_iald (jm_dc dc_76_1 15 rfl)) (
  jm_gc (pu_callS _ _) (sn_callS (jm_dc dc_76_1 16 rfl) lk_6_135) (
  jm_gc (pu_iret) (sn_iret (jm_dc dc_76_1 17 rfl) rfl) (
  jm_gc (pu_aload _ _) (sn_aload_n (i := 0) (jm_dc dc_76_1 18 rfl)) (
  jm_gc (pu_getI _ _) (sn_getI (jm_dc dc_76_1 19 rfl) fl_6_44 (Or.inl rfl)) (
  jm_gc (pu_iload _ _) (sn_iload_n (i := 2) (jm_dc dc_76_1 20 rfl)) (
  jm_gc (pu_ibin _) (sn_ishr (jm_dc dc_76_1 21 rfl)) (
  jm_gc (pu_ic _ _) (sn_iconst (jm_dc dc_76_1 22 rfl) (by decide)) (
  jm_gc (pu_ibin _) (sn_iand (jm_dc dc_76_1 23 rfl)) (
  jm_gc (pu_iret) (sn_iret (jm_dc dc_76_1 24 rfl) rfl) (
  jm_gn)))))))))))))))))))))))))
theorem dc_76_2 : ([(181, .aload_n 0, 1), (182, .getfield 47, 3), (185, .iload_n 2, 1), (186, .ishr, 1), (187, .iconst 1, 1), (188, .iand, 1), (189, .ireturn, 1), (190, .aload_n 0, 1), (191, .getfield 30, 3), (194, .iload_n 2, 1), (195, .invokevirtual 138, 3), (198, .istore 4, 2), (200, .iload 4, 2), (202, .ifCond .ge 8, 3), (205, .bipush 99, 2), (207, .goto 5, 3), (210, .iload 4, 2), (212, .ireturn, 1)] : List (Nat × Instr × Nat)).all (fun e => decide (decode prog_9_method_10_code e.1 = .ok e.2)) = true := by decide +kernel
abbrev cl_76_2 : List (Nat × jm_O) := [(181, op_aload 0 1), (182, op_getI 6 9), (185, op_iload 2 1), (186, op_ibin (fun x y => x >>> (y &&& 31))), (187, op_ic 1 1), (188, op_ibin (fun x y => x &&& y)), (189, op_iret), (190, op_aload 0 1), (191, op_getA 6 2), (194, op_iload 2 1), (195, op_callV 2 23 2), (198, op_istore 4 2), (200, op_iload 4 2), (202, op_ifge 210), (205, op_ic 99 2), (207, op_goto 212), (210, op_iload 4 2), (212, op_iret)]
set_option maxRecDepth 100000 in
theorem gl_76_2 : jm_gl "FrescoWall$Question" prog_9_method_10_code 5 (Option.some Jvm.ClassFile.FieldType.int) false cl_76_2 :=
  jm_gc (pu_aload _ _) (sn_aload_n (i := 0) (jm_dc dc_76_2 0 rfl)) (
  jm_gc (pu_getI _ _) (sn_getI (jm_dc dc_76_2 1 rfl) fl_6_47 (Or.inl rfl)) (
  jm_gc (pu_iload _ _) (sn_iload_n (i := 2) (jm_dc dc_76_2 2 rfl)) (
  jm_gc (pu_ibin _) (sn_ishr (jm_dc dc_76_2 3 rfl)) (
  jm_gc (pu_ic _ _) (sn_iconst (jm_dc dc_76_2 4 rfl) (by decide)) (
  jm_gc (pu_ibin _) (sn_iand (jm_dc dc_76_2 5 rfl)) (
  jm_gc (pu_iret) (sn_iret (jm_dc dc_76_2 6 rfl) rfl) (
  jm_gc (pu_aload _ _) (sn_aload_n (i := 0) (jm_dc dc_76_2 7 rfl)) (
  jm_gc (pu_getA _ _) (sn_getA (jm_dc dc_76_2 8 rfl) fl_6_30 rfl) (
  jm_gc (pu_iload _ _) (sn_iload_n (i := 2) (jm_dc dc_76_2 9 rfl)) (
  jm_gc (pu_callV _ _ _) (sn_callV (jm_dc dc_76_2 10 rfl) lk_6_138) (
  jm_gc (pu_istore _ _) (sn_istore (jm_dc dc_76_2 11 rfl)) (
  jm_gc (pu_iload _ _) (sn_iload (jm_dc dc_76_2 12 rfl)) (
  jm_gc (pu_ifge _) (sn_ifge (jm_dc dc_76_2 13 rfl) (by decide)) (
  jm_gc (pu_ic _ _) (sn_bipush (jm_dc dc_76_2 14 rfl) (by decide)) (
  jm_gc (pu_goto _) (sn_goto (jm_dc dc_76_2 15 rfl) (by decide)) (
  jm_gc (pu_iload _ _) (sn_iload (jm_dc dc_76_2 16 rfl)) (
  jm_gc (pu_iret) (sn_iret (jm_dc dc_76_2 17 rfl) rfl) (
  jm_gn))))))))))))))))))
theorem dc_94_0 : ([(0, .aload_n 0, 1), (1, .invokespecial 1, 3), (4, .aload_n 0, 1), (5, .sipush 240, 3), (8, .newarray .byte, 2), (10, .putfield 9, 3), (13, .return_, 1)] : List (Nat × Instr × Nat)).all (fun e => decide (decode prog_11_method_1_code e.1 = .ok e.2)) = true := by decide +kernel
abbrev cl_94_0 : List (Nat × jm_O) := [(0, op_aload 0 1), (1, op_objInit), (4, op_aload 0 1), (5, op_ic 240 3), (8, op_newa 12 2), (10, op_putA 8 1), (13, op_vret)]
set_option maxRecDepth 100000 in
theorem gl_94_0 : jm_gl "FrescoWall$Tape" prog_11_method_1_code 1 (Option.none : Option Jvm.ClassFile.FieldType) true cl_94_0 :=
  jm_gc (pu_aload _ _) (sn_aload_n (i := 0) (jm_dc dc_94_0 0 rfl)) (
  jm_gc (pu_objInit) (sn_objInit (jm_dc dc_94_0 1 rfl) ⟨kc_tb 30 (by decide +kernel), kc_tb 23 (by decide +kernel), kc_tb 24 (by decide +kernel)⟩) (
  jm_gc (pu_aload _ _) (sn_aload_n (i := 0) (jm_dc dc_94_0 2 rfl)) (
  jm_gc (pu_ic _ _) (sn_sipush (jm_dc dc_94_0 3 rfl) (by decide)) (
  jm_gc (pu_newa _ _) (sn_newB (jm_dc dc_94_0 4 rfl) (kc_tb 42 (by decide +kernel))) (
  jm_gc (pu_putA _ _) (sn_putAF (jm_dc dc_94_0 5 rfl) flw_8_9 rfl rfl) (
  jm_gc (pu_vret) (sn_vret (jm_dc dc_94_0 6 rfl) rfl) (
  jm_gn)))))))
theorem dc_95_0 : ([(0, .aload_n 0, 1), (1, .getfield 13, 3), (4, .sipush 240, 3), (7, .if_icmp .ge 24, 3), (10, .aload_n 0, 1), (11, .getfield 9, 3), (14, .aload_n 0, 1), (15, .getfield 13, 3), (18, .iload_n 1, 1), (19, .i2b, 1), (20, .bastore, 1), (21, .aload_n 0, 1), (22, .dup, 1), (23, .getfield 13, 3), (26, .iconst 1, 1), (27, .iadd, 1), (28, .putfield 13, 3), (31, .return_, 1)] : List (Nat × Instr × Nat)).all (fun e => decide (decode prog_11_method_2_code e.1 = .ok e.2)) = true := by decide +kernel
abbrev cl_95_0 : List (Nat × jm_O) := [(0, op_aload 0 1), (1, op_getI 8 0), (4, op_ic 240 3), (7, op_cge 31), (10, op_aload 0 1), (11, op_getA 8 1), (14, op_aload 0 1), (15, op_getI 8 0), (18, op_iload 1 1), (19, op_iun (fun x => x.toInt8.toInt32)), (20, op_bast), (21, op_aload 0 1), (22, op_dup), (23, op_getI 8 0), (26, op_ic 1 1), (27, op_ibin (fun x y => x + y)), (28, op_putI 8 0), (31, op_vret)]
set_option maxRecDepth 100000 in
theorem gl_95_0 : jm_gl "FrescoWall$Tape" prog_11_method_2_code 2 (Option.none : Option Jvm.ClassFile.FieldType) false cl_95_0 :=
  jm_gc (pu_aload _ _) (sn_aload_n (i := 0) (jm_dc dc_95_0 0 rfl)) (
  jm_gc (pu_getI _ _) (sn_getI (jm_dc dc_95_0 1 rfl) fl_8_13 (Or.inl rfl)) (
  jm_gc (pu_ic _ _) (sn_sipush (jm_dc dc_95_0 2 rfl) (by decide)) (
  jm_gc (pu_cge _) (sn_cge (jm_dc dc_95_0 3 rfl) (by decide)) (
  jm_gc (pu_aload _ _) (sn_aload_n (i := 0) (jm_dc dc_95_0 4 rfl)) (
  jm_gc (pu_getA _ _) (sn_getA (jm_dc dc_95_0 5 rfl) fl_8_9 rfl) (
  jm_gc (pu_aload _ _) (sn_aload_n (i := 0) (jm_dc dc_95_0 6 rfl)) (
  jm_gc (pu_getI _ _) (sn_getI (jm_dc dc_95_0 7 rfl) fl_8_13 (Or.inl rfl)) (
  jm_gc (pu_iload _ _) (sn_iload_n (i := 1) (jm_dc dc_95_0 8 rfl)) (
  jm_gc (pu_iun _) (sn_i2b (jm_dc dc_95_0 9 rfl)) (
  jm_gc (pu_bast) (sn_bast (jm_dc dc_95_0 10 rfl)) (
  jm_gc (pu_aload _ _) (sn_aload_n (i := 0) (jm_dc dc_95_0 11 rfl)) (
  jm_gc (pu_dup) (sn_dup (jm_dc dc_95_0 12 rfl)) (
  jm_gc (pu_getI _ _) (sn_getI (jm_dc dc_95_0 13 rfl) fl_8_13 (Or.inl rfl)) (
  jm_gc (pu_ic _ _) (sn_iconst (jm_dc dc_95_0 14 rfl) (by decide)) (
  jm_gc (pu_ibin _) (sn_iadd (jm_dc dc_95_0 15 rfl)) (
  jm_gc (pu_putI _ _) (sn_putI (jm_dc dc_95_0 16 rfl) flw_8_13 rfl) (
  jm_gc (pu_vret) (sn_vret (jm_dc dc_95_0 17 rfl) rfl) (
  jm_gn))))))))))))))))))
theorem dc_96_0 : ([(0, .iload_n 1, 1), (1, .ifCond .lt 24, 3), (4, .iload_n 1, 1), (5, .aload_n 0, 1), (6, .getfield 13, 3), (9, .if_icmp .ge 16, 3), (12, .aload_n 0, 1), (13, .getfield 9, 3), (16, .iload_n 1, 1), (17, .baload, 1), (18, .sipush 255, 3), (21, .iand, 1), (22, .goto 4, 3), (25, .iconst (-1), 1), (26, .ireturn, 1)] : List (Nat × Instr × Nat)).all (fun e => decide (decode prog_11_method_3_code e.1 = .ok e.2)) = true := by decide +kernel
abbrev cl_96_0 : List (Nat × jm_O) := [(0, op_iload 1 1), (1, op_iflt 25), (4, op_iload 1 1), (5, op_aload 0 1), (6, op_getI 8 0), (9, op_cge 25), (12, op_aload 0 1), (13, op_getA 8 1), (16, op_iload 1 1), (17, op_iald 12), (18, op_ic 255 3), (21, op_ibin (fun x y => x &&& y)), (22, op_goto 26), (25, op_ic (-1) 1), (26, op_iret)]
set_option maxRecDepth 100000 in
theorem gl_96_0 : jm_gl "FrescoWall$Tape" prog_11_method_3_code 2 (Option.some Jvm.ClassFile.FieldType.int) false cl_96_0 :=
  jm_gc (pu_iload _ _) (sn_iload_n (i := 1) (jm_dc dc_96_0 0 rfl)) (
  jm_gc (pu_iflt _) (sn_iflt (jm_dc dc_96_0 1 rfl) (by decide)) (
  jm_gc (pu_iload _ _) (sn_iload_n (i := 1) (jm_dc dc_96_0 2 rfl)) (
  jm_gc (pu_aload _ _) (sn_aload_n (i := 0) (jm_dc dc_96_0 3 rfl)) (
  jm_gc (pu_getI _ _) (sn_getI (jm_dc dc_96_0 4 rfl) fl_8_13 (Or.inl rfl)) (
  jm_gc (pu_cge _) (sn_cge (jm_dc dc_96_0 5 rfl) (by decide)) (
  jm_gc (pu_aload _ _) (sn_aload_n (i := 0) (jm_dc dc_96_0 6 rfl)) (
  jm_gc (pu_getA _ _) (sn_getA (jm_dc dc_96_0 7 rfl) fl_8_9 rfl) (
  jm_gc (pu_iload _ _) (sn_iload_n (i := 1) (jm_dc dc_96_0 8 rfl)) (
  jm_gc (pu_iald _) (sn_bald (jm_dc dc_96_0 9 rfl)) (
  jm_gc (pu_ic _ _) (sn_sipush (jm_dc dc_96_0 10 rfl) (by decide)) (
  jm_gc (pu_ibin _) (sn_iand (jm_dc dc_96_0 11 rfl)) (
  jm_gc (pu_goto _) (sn_goto (jm_dc dc_96_0 12 rfl) (by decide)) (
  jm_gc (pu_ic _ _) (sn_iconst (jm_dc dc_96_0 13 rfl) (by decide)) (
  jm_gc (pu_iret) (sn_iret (jm_dc dc_96_0 14 rfl) rfl) (
  jm_gn)))))))))))))))
theorem dc_97_0 : ([(0, .aload_n 0, 1), (1, .iload_n 1, 1), (2, .invokevirtual 17, 3), (5, .istore_n 2, 1), (6, .iload_n 2, 1), (7, .bipush 48, 2), (9, .if_icmp .lt 16, 3), (12, .iload_n 2, 1), (13, .bipush 57, 2), (15, .if_icmp .gt 10, 3), (18, .iload_n 2, 1), (19, .bipush 48, 2), (21, .isub, 1), (22, .goto 4, 3), (25, .iconst (-1), 1), (26, .ireturn, 1)] : List (Nat × Instr × Nat)).all (fun e => decide (decode prog_11_method_4_code e.1 = .ok e.2)) = true := by decide +kernel
abbrev cl_97_0 : List (Nat × jm_O) := [(0, op_aload 0 1), (1, op_iload 1 1), (2, op_callV 8 96 2), (5, op_istore 2 1), (6, op_iload 2 1), (7, op_ic 48 2), (9, op_clt 25), (12, op_iload 2 1), (13, op_ic 57 2), (15, op_cgt 25), (18, op_iload 2 1), (19, op_ic 48 2), (21, op_ibin (fun x y => x - y)), (22, op_goto 26), (25, op_ic (-1) 1), (26, op_iret)]
set_option maxRecDepth 100000 in
theorem gl_97_0 : jm_gl "FrescoWall$Tape" prog_11_method_4_code 3 (Option.some Jvm.ClassFile.FieldType.int) false cl_97_0 :=
  jm_gc (pu_aload _ _) (sn_aload_n (i := 0) (jm_dc dc_97_0 0 rfl)) (
  jm_gc (pu_iload _ _) (sn_iload_n (i := 1) (jm_dc dc_97_0 1 rfl)) (
  jm_gc (pu_callV _ _ _) (sn_callV (jm_dc dc_97_0 2 rfl) lk_8_17) (
  jm_gc (pu_istore _ _) (sn_istore_n (i := 2) (jm_dc dc_97_0 3 rfl)) (
  jm_gc (pu_iload _ _) (sn_iload_n (i := 2) (jm_dc dc_97_0 4 rfl)) (
  jm_gc (pu_ic _ _) (sn_bipush (jm_dc dc_97_0 5 rfl) (by decide)) (
  jm_gc (pu_clt _) (sn_clt (jm_dc dc_97_0 6 rfl) (by decide)) (
  jm_gc (pu_iload _ _) (sn_iload_n (i := 2) (jm_dc dc_97_0 7 rfl)) (
  jm_gc (pu_ic _ _) (sn_bipush (jm_dc dc_97_0 8 rfl) (by decide)) (
  jm_gc (pu_cgt _) (sn_cgt (jm_dc dc_97_0 9 rfl) (by decide)) (
  jm_gc (pu_iload _ _) (sn_iload_n (i := 2) (jm_dc dc_97_0 10 rfl)) (
  jm_gc (pu_ic _ _) (sn_bipush (jm_dc dc_97_0 11 rfl) (by decide)) (
  jm_gc (pu_ibin _) (sn_isub (jm_dc dc_97_0 12 rfl)) (
  jm_gc (pu_goto _) (sn_goto (jm_dc dc_97_0 13 rfl) (by decide)) (
  jm_gc (pu_ic _ _) (sn_iconst (jm_dc dc_97_0 14 rfl) (by decide)) (
  jm_gc (pu_iret) (sn_iret (jm_dc dc_97_0 15 rfl) rfl) (
  jm_gn))))))))))))))))
theorem dc_98_0 : ([(0, .iconst 0, 1), (1, .istore_n 2, 1), (2, .iload_n 2, 1), (3, .aload_n 0, 1), (4, .getfield 13, 3), (7, .if_icmp .ge 20, 3), (10, .aload_n 0, 1), (11, .iload_n 2, 1), (12, .invokevirtual 17, 3), (15, .iload_n 1, 1), (16, .if_icmp .ne 5, 3), (19, .iconst 1, 1), (20, .ireturn, 1), (21, .iinc 2 1, 3), (24, .goto (-22), 3), (27, .iconst 0, 1), (28, .ireturn, 1)] : List (Nat × Instr × Nat)).all (fun e => decide (decode prog_11_method_5_code e.1 = .ok e.2)) = true := by decide +kernel
abbrev cl_98_0 : List (Nat × jm_O) := [(0, op_ic 0 1), (1, op_istore 2 1), (2, op_iload 2 1), (3, op_aload 0 1), (4, op_getI 8 0), (7, op_cge 27), (10, op_aload 0 1), (11, op_iload 2 1), (12, op_callV 8 96 2), (15, op_iload 1 1), (16, op_cne 21), (19, op_ic 1 1), (20, op_zret), (21, op_iinc 2 1), (24, op_goto 2), (27, op_ic 0 1), (28, op_zret)]
set_option maxRecDepth 100000 in
theorem gl_98_0 : jm_gl "FrescoWall$Tape" prog_11_method_5_code 3 (Option.some Jvm.ClassFile.FieldType.boolean) false cl_98_0 :=
  jm_gc (pu_ic _ _) (sn_iconst (jm_dc dc_98_0 0 rfl) (by decide)) (
  jm_gc (pu_istore _ _) (sn_istore_n (i := 2) (jm_dc dc_98_0 1 rfl)) (
  jm_gc (pu_iload _ _) (sn_iload_n (i := 2) (jm_dc dc_98_0 2 rfl)) (
  jm_gc (pu_aload _ _) (sn_aload_n (i := 0) (jm_dc dc_98_0 3 rfl)) (
  jm_gc (pu_getI _ _) (sn_getI (jm_dc dc_98_0 4 rfl) fl_8_13 (Or.inl rfl)) (
  jm_gc (pu_cge _) (sn_cge (jm_dc dc_98_0 5 rfl) (by decide)) (
  jm_gc (pu_aload _ _) (sn_aload_n (i := 0) (jm_dc dc_98_0 6 rfl)) (
  jm_gc (pu_iload _ _) (sn_iload_n (i := 2) (jm_dc dc_98_0 7 rfl)) (
  jm_gc (pu_callV _ _ _) (sn_callV (jm_dc dc_98_0 8 rfl) lk_8_17) (
  jm_gc (pu_iload _ _) (sn_iload_n (i := 1) (jm_dc dc_98_0 9 rfl)) (
  jm_gc (pu_cne _) (sn_cne (jm_dc dc_98_0 10 rfl) (by decide)) (
  jm_gc (pu_ic _ _) (sn_iconst (jm_dc dc_98_0 11 rfl) (by decide)) (
  jm_gc (pu_zret) (sn_zret (jm_dc dc_98_0 12 rfl) rfl) (
  jm_gc (pu_iinc _ _) (sn_iinc (jm_dc dc_98_0 13 rfl) (by decide)) (
  jm_gc (pu_goto _) (sn_goto (jm_dc dc_98_0 14 rfl) (by decide)) (
  jm_gc (pu_ic _ _) (sn_iconst (jm_dc dc_98_0 15 rfl) (by decide)) (
  jm_gc (pu_zret) (sn_zret (jm_dc dc_98_0 16 rfl) rfl) (
  jm_gn)))))))))))))))))
theorem dc_305_0 : ([(0, .iload_n 0, 1), (1, .iconst 3, 1), (2, .iand, 1), (3, .i2l, 1), (4, .bipush 40, 2), (6, .lshl, 1), (7, .iload_n 1, 1), (8, .ldc 9, 2), (10, .iadd, 1), (11, .i2l, 1), (12, .ldc2_w 10, 3), (15, .land, 1), (16, .bipush 20, 2), (18, .lshl, 1), (19, .lor, 1), (20, .iload_n 2, 1), (21, .ldc 9, 2), (23, .iadd, 1), (24, .i2l, 1), (25, .ldc2_w 10, 3), (28, .land, 1), (29, .lor, 1), (30, .lreturn, 1)] : List (Nat × Instr × Nat)).all (fun e => decide (decode prog_8_method_2_code e.1 = .ok e.2)) = true := by decide +kernel
abbrev cl_305_0 : List (Nat × jm_O) := [(0, op_iload 0 1), (1, op_ic 3 1), (2, op_ibin (fun x y => x &&& y)), (3, op_i2l), (4, op_ic 40 2), (6, op_lsh (fun x y => x <<< (y.toInt64 &&& 63))), (7, op_iload 1 1), (8, op_ic 524288 2), (10, op_ibin (fun x y => x + y)), (11, op_i2l), (12, op_lc 1048575 3), (15, op_lbin (fun x y => x &&& y)), (16, op_ic 20 2), (18, op_lsh (fun x y => x <<< (y.toInt64 &&& 63))), (19, op_lbin (fun x y => x ||| y)), (20, op_iload 2 1), (21, op_ic 524288 2), (23, op_ibin (fun x y => x + y)), (24, op_i2l), (25, op_lc 1048575 3), (28, op_lbin (fun x y => x &&& y)), (29, op_lbin (fun x y => x ||| y)), (30, op_lret)]
set_option maxRecDepth 100000 in
theorem gl_305_0 : jm_gl "FrescoWall$Place" prog_8_method_2_code 3 (Option.some Jvm.ClassFile.FieldType.long) false cl_305_0 :=
  jm_gc (pu_iload _ _) (sn_iload_n (i := 0) (jm_dc dc_305_0 0 rfl)) (
  jm_gc (pu_ic _ _) (sn_iconst (jm_dc dc_305_0 1 rfl) (by decide)) (
  jm_gc (pu_ibin _) (sn_iand (jm_dc dc_305_0 2 rfl)) (
  jm_gc (pu_i2l) (sn_i2l (jm_dc dc_305_0 3 rfl)) (
  jm_gc (pu_ic _ _) (sn_bipush (jm_dc dc_305_0 4 rfl) (by decide)) (
  jm_gc (pu_lsh _) (sn_lshl (jm_dc dc_305_0 5 rfl)) (
  jm_gc (pu_iload _ _) (sn_iload_n (i := 1) (jm_dc dc_305_0 6 rfl)) (
  jm_gc (pu_ic _ _) (sn_ldc (jm_dc dc_305_0 7 rfl) (kc_tb 692 (by decide +kernel))) (
  jm_gc (pu_ibin _) (sn_iadd (jm_dc dc_305_0 8 rfl)) (
  jm_gc (pu_i2l) (sn_i2l (jm_dc dc_305_0 9 rfl)) (
  jm_gc (pu_lc _ _) (sn_ldc2 (jm_dc dc_305_0 10 rfl) (kc_tb 693 (by decide +kernel))) (
  jm_gc (pu_lbin _) (sn_land (jm_dc dc_305_0 11 rfl)) (
  jm_gc (pu_ic _ _) (sn_bipush (jm_dc dc_305_0 12 rfl) (by decide)) (
  jm_gc (pu_lsh _) (sn_lshl (jm_dc dc_305_0 13 rfl)) (
  jm_gc (pu_lbin _) (sn_lor (jm_dc dc_305_0 14 rfl)) (
  jm_gc (pu_iload _ _) (sn_iload_n (i := 2) (jm_dc dc_305_0 15 rfl)) (
  jm_gc (pu_ic _ _) (sn_ldc (jm_dc dc_305_0 16 rfl) (kc_tb 692 (by decide +kernel))) (
  jm_gc (pu_ibin _) (sn_iadd (jm_dc dc_305_0 17 rfl)) (
  jm_gc (pu_i2l) (sn_i2l (jm_dc dc_305_0 18 rfl)) (
  jm_gc (pu_lc _ _) (sn_ldc2 (jm_dc dc_305_0 19 rfl) (kc_tb 693 (by decide +kernel))) (
  jm_gc (pu_lbin _) (sn_land (jm_dc dc_305_0 20 rfl)) (
  jm_gc (pu_lbin _) (sn_lor (jm_dc dc_305_0 21 rfl)) (
  jm_gc (pu_lret) (sn_lret (jm_dc dc_305_0 22 rfl) rfl) (
  jm_gn)))))))))))))))))))))))
theorem dc_306_0 : ([(0, .lload_n 0, 1), (1, .bipush 40, 2), (3, .lshr, 1), (4, .l2i, 1), (5, .iconst 3, 1), (6, .iand, 1), (7, .ireturn, 1)] : List (Nat × Instr × Nat)).all (fun e => decide (decode prog_8_method_3_code e.1 = .ok e.2)) = true := by decide +kernel
abbrev cl_306_0 : List (Nat × jm_O) := [(0, op_lload 0 1), (1, op_ic 40 2), (3, op_lsh (fun x y => x >>> (y.toInt64 &&& 63))), (4, op_l2i), (5, op_ic 3 1), (6, op_ibin (fun x y => x &&& y)), (7, op_iret)]
set_option maxRecDepth 100000 in
theorem gl_306_0 : jm_gl "FrescoWall$Place" prog_8_method_3_code 2 (Option.some Jvm.ClassFile.FieldType.int) false cl_306_0 :=
  jm_gc (pu_lload _ _) (sn_lload_n (i := 0) (jm_dc dc_306_0 0 rfl)) (
  jm_gc (pu_ic _ _) (sn_bipush (jm_dc dc_306_0 1 rfl) (by decide)) (
  jm_gc (pu_lsh _) (sn_lshr (jm_dc dc_306_0 2 rfl)) (
  jm_gc (pu_l2i) (sn_l2i (jm_dc dc_306_0 3 rfl)) (
  jm_gc (pu_ic _ _) (sn_iconst (jm_dc dc_306_0 4 rfl) (by decide)) (
  jm_gc (pu_ibin _) (sn_iand (jm_dc dc_306_0 5 rfl)) (
  jm_gc (pu_iret) (sn_iret (jm_dc dc_306_0 6 rfl) rfl) (
  jm_gn)))))))
theorem dc_307_0 : ([(0, .lload_n 0, 1), (1, .bipush 20, 2), (3, .lshr, 1), (4, .ldc2_w 10, 3), (7, .land, 1), (8, .l2i, 1), (9, .ldc 9, 2), (11, .isub, 1), (12, .ireturn, 1)] : List (Nat × Instr × Nat)).all (fun e => decide (decode prog_8_method_4_code e.1 = .ok e.2)) = true := by decide +kernel
abbrev cl_307_0 : List (Nat × jm_O) := [(0, op_lload 0 1), (1, op_ic 20 2), (3, op_lsh (fun x y => x >>> (y.toInt64 &&& 63))), (4, op_lc 1048575 3), (7, op_lbin (fun x y => x &&& y)), (8, op_l2i), (9, op_ic 524288 2), (11, op_ibin (fun x y => x - y)), (12, op_iret)]
set_option maxRecDepth 100000 in
theorem gl_307_0 : jm_gl "FrescoWall$Place" prog_8_method_4_code 2 (Option.some Jvm.ClassFile.FieldType.int) false cl_307_0 :=
  jm_gc (pu_lload _ _) (sn_lload_n (i := 0) (jm_dc dc_307_0 0 rfl)) (
  jm_gc (pu_ic _ _) (sn_bipush (jm_dc dc_307_0 1 rfl) (by decide)) (
  jm_gc (pu_lsh _) (sn_lshr (jm_dc dc_307_0 2 rfl)) (
  jm_gc (pu_lc _ _) (sn_ldc2 (jm_dc dc_307_0 3 rfl) (kc_tb 693 (by decide +kernel))) (
  jm_gc (pu_lbin _) (sn_land (jm_dc dc_307_0 4 rfl)) (
  jm_gc (pu_l2i) (sn_l2i (jm_dc dc_307_0 5 rfl)) (
  jm_gc (pu_ic _ _) (sn_ldc (jm_dc dc_307_0 6 rfl) (kc_tb 692 (by decide +kernel))) (
  jm_gc (pu_ibin _) (sn_isub (jm_dc dc_307_0 7 rfl)) (
  jm_gc (pu_iret) (sn_iret (jm_dc dc_307_0 8 rfl) rfl) (
  jm_gn)))))))))
theorem dc_308_0 : ([(0, .lload_n 0, 1), (1, .ldc2_w 10, 3), (4, .land, 1), (5, .l2i, 1), (6, .ldc 9, 2), (8, .isub, 1), (9, .ireturn, 1)] : List (Nat × Instr × Nat)).all (fun e => decide (decode prog_8_method_5_code e.1 = .ok e.2)) = true := by decide +kernel
abbrev cl_308_0 : List (Nat × jm_O) := [(0, op_lload 0 1), (1, op_lc 1048575 3), (4, op_lbin (fun x y => x &&& y)), (5, op_l2i), (6, op_ic 524288 2), (8, op_ibin (fun x y => x - y)), (9, op_iret)]
set_option maxRecDepth 100000 in
theorem gl_308_0 : jm_gl "FrescoWall$Place" prog_8_method_5_code 2 (Option.some Jvm.ClassFile.FieldType.int) false cl_308_0 :=
  jm_gc (pu_lload _ _) (sn_lload_n (i := 0) (jm_dc dc_308_0 0 rfl)) (
  jm_gc (pu_lc _ _) (sn_ldc2 (jm_dc dc_308_0 1 rfl) (kc_tb 693 (by decide +kernel))) (
  jm_gc (pu_lbin _) (sn_land (jm_dc dc_308_0 2 rfl)) (
  jm_gc (pu_l2i) (sn_l2i (jm_dc dc_308_0 3 rfl)) (
  jm_gc (pu_ic _ _) (sn_ldc (jm_dc dc_308_0 4 rfl) (kc_tb 692 (by decide +kernel))) (
  jm_gc (pu_ibin _) (sn_isub (jm_dc dc_308_0 5 rfl)) (
  jm_gc (pu_iret) (sn_iret (jm_dc dc_308_0 6 rfl) rfl) (
  jm_gn)))))))
theorem dc_309_0 : ([(0, .iload_n 0, 1), (1, .iconst 3, 1), (2, .iand, 1), (3, .tableswitch 33 0 2 #[25, 27, 30], 25), (28, .iload_n 1, 1), (29, .ireturn, 1), (30, .iload_n 2, 1), (31, .ineg, 1), (32, .ireturn, 1), (33, .iload_n 1, 1), (34, .ineg, 1), (35, .ireturn, 1), (36, .iload_n 2, 1), (37, .ireturn, 1)] : List (Nat × Instr × Nat)).all (fun e => decide (decode prog_8_method_6_code e.1 = .ok e.2)) = true := by decide +kernel
abbrev cl_309_0 : List (Nat × jm_O) := [(0, op_iload 0 1), (1, op_ic 3 1), (2, op_ibin (fun x y => x &&& y)), (3, op_sw 36 [(0, 28), (1, 30), (2, 33)]), (28, op_iload 1 1), (29, op_iret), (30, op_iload 2 1), (31, op_iun (fun x => -x)), (32, op_iret), (33, op_iload 1 1), (34, op_iun (fun x => -x)), (35, op_iret), (36, op_iload 2 1), (37, op_iret)]
set_option maxRecDepth 100000 in
theorem gl_309_0 : jm_gl "FrescoWall$Place" prog_8_method_6_code 3 (Option.some Jvm.ClassFile.FieldType.int) false cl_309_0 :=
  jm_gc (pu_iload _ _) (sn_iload_n (i := 0) (jm_dc dc_309_0 0 rfl)) (
  jm_gc (pu_ic _ _) (sn_iconst (jm_dc dc_309_0 1 rfl) (by decide)) (
  jm_gc (pu_ibin _) (sn_iand (jm_dc dc_309_0 2 rfl)) (
  jm_gc (pu_sw _ _) (sn_tsw (jm_dc dc_309_0 3 rfl) (by decide) (by decide) (by decide)) (
  jm_gc (pu_iload _ _) (sn_iload_n (i := 1) (jm_dc dc_309_0 4 rfl)) (
  jm_gc (pu_iret) (sn_iret (jm_dc dc_309_0 5 rfl) rfl) (
  jm_gc (pu_iload _ _) (sn_iload_n (i := 2) (jm_dc dc_309_0 6 rfl)) (
  jm_gc (pu_iun _) (sn_ineg (jm_dc dc_309_0 7 rfl)) (
  jm_gc (pu_iret) (sn_iret (jm_dc dc_309_0 8 rfl) rfl) (
  jm_gc (pu_iload _ _) (sn_iload_n (i := 1) (jm_dc dc_309_0 9 rfl)) (
  jm_gc (pu_iun _) (sn_ineg (jm_dc dc_309_0 10 rfl)) (
  jm_gc (pu_iret) (sn_iret (jm_dc dc_309_0 11 rfl) rfl) (
  jm_gc (pu_iload _ _) (sn_iload_n (i := 2) (jm_dc dc_309_0 12 rfl)) (
  jm_gc (pu_iret) (sn_iret (jm_dc dc_309_0 13 rfl) rfl) (
  jm_gn))))))))))))))
theorem dc_310_0 : ([(0, .iload_n 0, 1), (1, .iconst 3, 1), (2, .iand, 1), (3, .tableswitch 32 0 2 #[25, 27, 29], 25), (28, .iload_n 2, 1), (29, .ireturn, 1), (30, .iload_n 1, 1), (31, .ireturn, 1), (32, .iload_n 2, 1), (33, .ineg, 1), (34, .ireturn, 1), (35, .iload_n 1, 1), (36, .ineg, 1), (37, .ireturn, 1)] : List (Nat × Instr × Nat)).all (fun e => decide (decode prog_8_method_7_code e.1 = .ok e.2)) = true := by decide +kernel
abbrev cl_310_0 : List (Nat × jm_O) := [(0, op_iload 0 1), (1, op_ic 3 1), (2, op_ibin (fun x y => x &&& y)), (3, op_sw 35 [(0, 28), (1, 30), (2, 32)]), (28, op_iload 2 1), (29, op_iret), (30, op_iload 1 1), (31, op_iret), (32, op_iload 2 1), (33, op_iun (fun x => -x)), (34, op_iret), (35, op_iload 1 1), (36, op_iun (fun x => -x)), (37, op_iret)]
set_option maxRecDepth 100000 in
theorem gl_310_0 : jm_gl "FrescoWall$Place" prog_8_method_7_code 3 (Option.some Jvm.ClassFile.FieldType.int) false cl_310_0 :=
  jm_gc (pu_iload _ _) (sn_iload_n (i := 0) (jm_dc dc_310_0 0 rfl)) (
  jm_gc (pu_ic _ _) (sn_iconst (jm_dc dc_310_0 1 rfl) (by decide)) (
  jm_gc (pu_ibin _) (sn_iand (jm_dc dc_310_0 2 rfl)) (
  jm_gc (pu_sw _ _) (sn_tsw (jm_dc dc_310_0 3 rfl) (by decide) (by decide) (by decide)) (
  jm_gc (pu_iload _ _) (sn_iload_n (i := 2) (jm_dc dc_310_0 4 rfl)) (
  jm_gc (pu_iret) (sn_iret (jm_dc dc_310_0 5 rfl) rfl) (
  jm_gc (pu_iload _ _) (sn_iload_n (i := 1) (jm_dc dc_310_0 6 rfl)) (
  jm_gc (pu_iret) (sn_iret (jm_dc dc_310_0 7 rfl) rfl) (
  jm_gc (pu_iload _ _) (sn_iload_n (i := 2) (jm_dc dc_310_0 8 rfl)) (
  jm_gc (pu_iun _) (sn_ineg (jm_dc dc_310_0 9 rfl)) (
  jm_gc (pu_iret) (sn_iret (jm_dc dc_310_0 10 rfl) rfl) (
  jm_gc (pu_iload _ _) (sn_iload_n (i := 1) (jm_dc dc_310_0 11 rfl)) (
  jm_gc (pu_iun _) (sn_ineg (jm_dc dc_310_0 12 rfl)) (
  jm_gc (pu_iret) (sn_iret (jm_dc dc_310_0 13 rfl) rfl) (
  jm_gn))))))))))))))
theorem dc_311_0 : ([(0, .iload_n 0, 1), (1, .iload_n 1, 1), (2, .iload_n 2, 1), (3, .invokestatic 12, 3), (6, .iload_n 0, 1), (7, .iconst 1, 1), (8, .if_icmp .eq 8, 3), (11, .iload_n 0, 1), (12, .iconst 2, 1), (13, .if_icmp .ne 7, 3), (16, .iconst 1, 1), (17, .goto 4, 3), (20, .iconst 0, 1), (21, .isub, 1), (22, .ireturn, 1)] : List (Nat × Instr × Nat)).all (fun e => decide (decode prog_8_method_8_code e.1 = .ok e.2)) = true := by decide +kernel
abbrev cl_311_0 : List (Nat × jm_O) := [(0, op_iload 0 1), (1, op_iload 1 1), (2, op_iload 2 1), (3, op_callS 309 3), (6, op_iload 0 1), (7, op_ic 1 1), (8, op_ceq 16), (11, op_iload 0 1), (12, op_ic 2 1), (13, op_cne 20), (16, op_ic 1 1), (17, op_goto 21), (20, op_ic 0 1), (21, op_ibin (fun x y => x - y)), (22, op_iret)]
set_option maxRecDepth 100000 in
theorem gl_311_0 : jm_gl "FrescoWall$Place" prog_8_method_8_code 3 (Option.some Jvm.ClassFile.FieldType.int) false cl_311_0 :=
  jm_gc (pu_iload _ _) (sn_iload_n (i := 0) (jm_dc dc_311_0 0 rfl)) (
  jm_gc (pu_iload _ _) (sn_iload_n (i := 1) (jm_dc dc_311_0 1 rfl)) (
  jm_gc (pu_iload _ _) (sn_iload_n (i := 2) (jm_dc dc_311_0 2 rfl)) (
  jm_gc (pu_callS _ _) (sn_callS (jm_dc dc_311_0 3 rfl) lk_12_12) (
  jm_gc (pu_iload _ _) (sn_iload_n (i := 0) (jm_dc dc_311_0 4 rfl)) (
  jm_gc (pu_ic _ _) (sn_iconst (jm_dc dc_311_0 5 rfl) (by decide)) (
  jm_gc (pu_ceq _) (sn_ceq (jm_dc dc_311_0 6 rfl) (by decide)) (
  jm_gc (pu_iload _ _) (sn_iload_n (i := 0) (jm_dc dc_311_0 7 rfl)) (
  jm_gc (pu_ic _ _) (sn_iconst (jm_dc dc_311_0 8 rfl) (by decide)) (
  jm_gc (pu_cne _) (sn_cne (jm_dc dc_311_0 9 rfl) (by decide)) (
  jm_gc (pu_ic _ _) (sn_iconst (jm_dc dc_311_0 10 rfl) (by decide)) (
  jm_gc (pu_goto _) (sn_goto (jm_dc dc_311_0 11 rfl) (by decide)) (
  jm_gc (pu_ic _ _) (sn_iconst (jm_dc dc_311_0 12 rfl) (by decide)) (
  jm_gc (pu_ibin _) (sn_isub (jm_dc dc_311_0 13 rfl)) (
  jm_gc (pu_iret) (sn_iret (jm_dc dc_311_0 14 rfl) rfl) (
  jm_gn)))))))))))))))
theorem dc_312_0 : ([(0, .iload_n 0, 1), (1, .iload_n 1, 1), (2, .iload_n 2, 1), (3, .invokestatic 16, 3), (6, .iload_n 0, 1), (7, .iconst 2, 1), (8, .if_icmp .eq 8, 3), (11, .iload_n 0, 1), (12, .iconst 3, 1), (13, .if_icmp .ne 7, 3), (16, .iconst 1, 1), (17, .goto 4, 3), (20, .iconst 0, 1), (21, .isub, 1), (22, .ireturn, 1)] : List (Nat × Instr × Nat)).all (fun e => decide (decode prog_8_method_9_code e.1 = .ok e.2)) = true := by decide +kernel
abbrev cl_312_0 : List (Nat × jm_O) := [(0, op_iload 0 1), (1, op_iload 1 1), (2, op_iload 2 1), (3, op_callS 310 3), (6, op_iload 0 1), (7, op_ic 2 1), (8, op_ceq 16), (11, op_iload 0 1), (12, op_ic 3 1), (13, op_cne 20), (16, op_ic 1 1), (17, op_goto 21), (20, op_ic 0 1), (21, op_ibin (fun x y => x - y)), (22, op_iret)]
set_option maxRecDepth 100000 in
theorem gl_312_0 : jm_gl "FrescoWall$Place" prog_8_method_9_code 3 (Option.some Jvm.ClassFile.FieldType.int) false cl_312_0 :=
  jm_gc (pu_iload _ _) (sn_iload_n (i := 0) (jm_dc dc_312_0 0 rfl)) (
  jm_gc (pu_iload _ _) (sn_iload_n (i := 1) (jm_dc dc_312_0 1 rfl)) (
  jm_gc (pu_iload _ _) (sn_iload_n (i := 2) (jm_dc dc_312_0 2 rfl)) (
  jm_gc (pu_callS _ _) (sn_callS (jm_dc dc_312_0 3 rfl) lk_12_16) (
  jm_gc (pu_iload _ _) (sn_iload_n (i := 0) (jm_dc dc_312_0 4 rfl)) (
  jm_gc (pu_ic _ _) (sn_iconst (jm_dc dc_312_0 5 rfl) (by decide)) (
  jm_gc (pu_ceq _) (sn_ceq (jm_dc dc_312_0 6 rfl) (by decide)) (
  jm_gc (pu_iload _ _) (sn_iload_n (i := 0) (jm_dc dc_312_0 7 rfl)) (
  jm_gc (pu_ic _ _) (sn_iconst (jm_dc dc_312_0 8 rfl) (by decide)) (
  jm_gc (pu_cne _) (sn_cne (jm_dc dc_312_0 9 rfl) (by decide)) (
  jm_gc (pu_ic _ _) (sn_iconst (jm_dc dc_312_0 10 rfl) (by decide)) (
  jm_gc (pu_goto _) (sn_goto (jm_dc dc_312_0 11 rfl) (by decide)) (
  jm_gc (pu_ic _ _) (sn_iconst (jm_dc dc_312_0 12 rfl) (by decide)) (
  jm_gc (pu_ibin _) (sn_isub (jm_dc dc_312_0 13 rfl)) (
  jm_gc (pu_iret) (sn_iret (jm_dc dc_312_0 14 rfl) rfl) (
  jm_gn)))))))))))))))
theorem dc_313_0 : ([(0, .lload_n 0, 1), (1, .invokestatic 19, 3), (4, .istore 4, 2), (6, .lload_n 2, 1), (7, .invokestatic 23, 3), (10, .istore 5, 2), (12, .lload_n 2, 1), (13, .invokestatic 26, 3), (16, .istore 6, 2), (18, .iload 4, 2), (20, .lload_n 2, 1), (21, .invokestatic 19, 3), (24, .iadd, 1), (25, .iload 4, 2), (27, .iload 5, 2), (29, .iload 6, 2), (31, .invokestatic 12, 3), (34, .lload_n 0, 1), (35, .invokestatic 23, 3), (38, .iadd, 1), (39, .iload 4, 2), (41, .iload 5, 2), (43, .iload 6, 2), (45, .invokestatic 16, 3), (48, .lload_n 0, 1)] : List (Nat × Instr × Nat)).all (fun e => decide (decode prog_8_method_10_code e.1 = .ok e.2)) = true := by decide +kernel
abbrev cl_313_0 : List (Nat × jm_O) := [(0, op_lload 0 1), (1, op_callS 306 1), (4, op_istore 4 2), (6, op_lload 2 1), (7, op_callS 307 1), (10, op_istore 5 2), (12, op_lload 2 1), (13, op_callS 308 1), (16, op_istore 6 2), (18, op_iload 4 2), (20, op_lload 2 1), (21, op_callS 306 1), (24, op_ibin (fun x y => x + y)), (25, op_iload 4 2), (27, op_iload 5 2), (29, op_iload 6 2), (31, op_callS 309 3), (34, op_lload 0 1), (35, op_callS 307 1), (38, op_ibin (fun x y => x + y)), (39, op_iload 4 2), (41, op_iload 5 2), (43, op_iload 6 2), (45, op_callS 310 3), (48, op_lload 0 1)]
set_option maxRecDepth 100000 in
theorem gl_313_0 : jm_gl "FrescoWall$Place" prog_8_method_10_code 7 (Option.some Jvm.ClassFile.FieldType.long) false cl_313_0 :=
  jm_gc (pu_lload _ _) (sn_lload_n (i := 0) (jm_dc dc_313_0 0 rfl)) (
  jm_gc (pu_callS _ _) (sn_callS (jm_dc dc_313_0 1 rfl) lk_12_19) (
  jm_gc (pu_istore _ _) (sn_istore (jm_dc dc_313_0 2 rfl)) (
  jm_gc (pu_lload _ _) (sn_lload_n (i := 2) (jm_dc dc_313_0 3 rfl)) (
  jm_gc (pu_callS _ _) (sn_callS (jm_dc dc_313_0 4 rfl) lk_12_23) (
  jm_gc (pu_istore _ _) (sn_istore (jm_dc dc_313_0 5 rfl)) (
  jm_gc (pu_lload _ _) (sn_lload_n (i := 2) (jm_dc dc_313_0 6 rfl)) (
  jm_gc (pu_callS _ _) (sn_callS (jm_dc dc_313_0 7 rfl) lk_12_26) (
  jm_gc (pu_istore _ _) (sn_istore (jm_dc dc_313_0 8 rfl)) (
  jm_gc (pu_iload _ _) (sn_iload (jm_dc dc_313_0 9 rfl)) (
  jm_gc (pu_lload _ _) (sn_lload_n (i := 2) (jm_dc dc_313_0 10 rfl)) (
  jm_gc (pu_callS _ _) (sn_callS (jm_dc dc_313_0 11 rfl) lk_12_19) (
  jm_gc (pu_ibin _) (sn_iadd (jm_dc dc_313_0 12 rfl)) (
  jm_gc (pu_iload _ _) (sn_iload (jm_dc dc_313_0 13 rfl)) (
  jm_gc (pu_iload _ _) (sn_iload (jm_dc dc_313_0 14 rfl)) (
  jm_gc (pu_iload _ _) (sn_iload (jm_dc dc_313_0 15 rfl)) (
  jm_gc (pu_callS _ _) (sn_callS (jm_dc dc_313_0 16 rfl) lk_12_12) (
  jm_gc (pu_lload _ _) (sn_lload_n (i := 0) (jm_dc dc_313_0 17 rfl)) (
  jm_gc (pu_callS _ _) (sn_callS (jm_dc dc_313_0 18 rfl) lk_12_23) (
  jm_gc (pu_ibin _) (sn_iadd (jm_dc dc_313_0 19 rfl)) (
  jm_gc (pu_iload _ _) (sn_iload (jm_dc dc_313_0 20 rfl)) (
  jm_gc (pu_iload _ _) (sn_iload (jm_dc dc_313_0 21 rfl)) (
  jm_gc (pu_iload _ _) (sn_iload (jm_dc dc_313_0 22 rfl)) (
  jm_gc (pu_callS _ _) (sn_callS (jm_dc dc_313_0 23 rfl) lk_12_16) (
  jm_gc (pu_lload _ _) (sn_lload_n (i := 0) (jm_dc dc_313_0 24 rfl)) (
  jm_gn)))))))))))))))))))))))))
theorem dc_313_1 : ([(49, .invokestatic 26, 3), (52, .iadd, 1), (53, .invokestatic 29, 3), (56, .lreturn, 1)] : List (Nat × Instr × Nat)).all (fun e => decide (decode prog_8_method_10_code e.1 = .ok e.2)) = true := by decide +kernel
abbrev cl_313_1 : List (Nat × jm_O) := [(49, op_callS 308 1), (52, op_ibin (fun x y => x + y)), (53, op_callS 305 3), (56, op_lret)]
set_option maxRecDepth 100000 in
theorem gl_313_1 : jm_gl "FrescoWall$Place" prog_8_method_10_code 7 (Option.some Jvm.ClassFile.FieldType.long) false cl_313_1 :=
  jm_gc (pu_callS _ _) (sn_callS (jm_dc dc_313_1 0 rfl) lk_12_26) (
  jm_gc (pu_ibin _) (sn_iadd (jm_dc dc_313_1 1 rfl)) (
  jm_gc (pu_callS _ _) (sn_callS (jm_dc dc_313_1 2 rfl) lk_12_29) (
  jm_gc (pu_lret) (sn_lret (jm_dc dc_313_1 3 rfl) rfl) (
  jm_gn))))
theorem dc_314_0 : ([(0, .iconst 4, 1), (1, .lload_n 0, 1), (2, .invokestatic 19, 3), (5, .isub, 1), (6, .istore_n 2, 1), (7, .lload_n 0, 1), (8, .invokestatic 23, 3), (11, .ineg, 1), (12, .istore_n 3, 1), (13, .lload_n 0, 1), (14, .invokestatic 26, 3), (17, .ineg, 1), (18, .istore 4, 2), (20, .iload_n 2, 1), (21, .iload_n 2, 1), (22, .iload_n 3, 1), (23, .iload 4, 2), (25, .invokestatic 12, 3), (28, .iload_n 2, 1), (29, .iload_n 3, 1), (30, .iload 4, 2), (32, .invokestatic 16, 3), (35, .invokestatic 29, 3), (38, .lreturn, 1)] : List (Nat × Instr × Nat)).all (fun e => decide (decode prog_8_method_11_code e.1 = .ok e.2)) = true := by decide +kernel
abbrev cl_314_0 : List (Nat × jm_O) := [(0, op_ic 4 1), (1, op_lload 0 1), (2, op_callS 306 1), (5, op_ibin (fun x y => x - y)), (6, op_istore 2 1), (7, op_lload 0 1), (8, op_callS 307 1), (11, op_iun (fun x => -x)), (12, op_istore 3 1), (13, op_lload 0 1), (14, op_callS 308 1), (17, op_iun (fun x => -x)), (18, op_istore 4 2), (20, op_iload 2 1), (21, op_iload 2 1), (22, op_iload 3 1), (23, op_iload 4 2), (25, op_callS 309 3), (28, op_iload 2 1), (29, op_iload 3 1), (30, op_iload 4 2), (32, op_callS 310 3), (35, op_callS 305 3), (38, op_lret)]
set_option maxRecDepth 100000 in
theorem gl_314_0 : jm_gl "FrescoWall$Place" prog_8_method_11_code 5 (Option.some Jvm.ClassFile.FieldType.long) false cl_314_0 :=
  jm_gc (pu_ic _ _) (sn_iconst (jm_dc dc_314_0 0 rfl) (by decide)) (
  jm_gc (pu_lload _ _) (sn_lload_n (i := 0) (jm_dc dc_314_0 1 rfl)) (
  jm_gc (pu_callS _ _) (sn_callS (jm_dc dc_314_0 2 rfl) lk_12_19) (
  jm_gc (pu_ibin _) (sn_isub (jm_dc dc_314_0 3 rfl)) (
  jm_gc (pu_istore _ _) (sn_istore_n (i := 2) (jm_dc dc_314_0 4 rfl)) (
  jm_gc (pu_lload _ _) (sn_lload_n (i := 0) (jm_dc dc_314_0 5 rfl)) (
  jm_gc (pu_callS _ _) (sn_callS (jm_dc dc_314_0 6 rfl) lk_12_23) (
  jm_gc (pu_iun _) (sn_ineg (jm_dc dc_314_0 7 rfl)) (
  jm_gc (pu_istore _ _) (sn_istore_n (i := 3) (jm_dc dc_314_0 8 rfl)) (
  jm_gc (pu_lload _ _) (sn_lload_n (i := 0) (jm_dc dc_314_0 9 rfl)) (
  jm_gc (pu_callS _ _) (sn_callS (jm_dc dc_314_0 10 rfl) lk_12_26) (
  jm_gc (pu_iun _) (sn_ineg (jm_dc dc_314_0 11 rfl)) (
  jm_gc (pu_istore _ _) (sn_istore (jm_dc dc_314_0 12 rfl)) (
  jm_gc (pu_iload _ _) (sn_iload_n (i := 2) (jm_dc dc_314_0 13 rfl)) (
  jm_gc (pu_iload _ _) (sn_iload_n (i := 2) (jm_dc dc_314_0 14 rfl)) (
  jm_gc (pu_iload _ _) (sn_iload_n (i := 3) (jm_dc dc_314_0 15 rfl)) (
  jm_gc (pu_iload _ _) (sn_iload (jm_dc dc_314_0 16 rfl)) (
  jm_gc (pu_callS _ _) (sn_callS (jm_dc dc_314_0 17 rfl) lk_12_12) (
  jm_gc (pu_iload _ _) (sn_iload_n (i := 2) (jm_dc dc_314_0 18 rfl)) (
  jm_gc (pu_iload _ _) (sn_iload_n (i := 3) (jm_dc dc_314_0 19 rfl)) (
  jm_gc (pu_iload _ _) (sn_iload (jm_dc dc_314_0 20 rfl)) (
  jm_gc (pu_callS _ _) (sn_callS (jm_dc dc_314_0 21 rfl) lk_12_16) (
  jm_gc (pu_callS _ _) (sn_callS (jm_dc dc_314_0 22 rfl) lk_12_29) (
  jm_gc (pu_lret) (sn_lret (jm_dc dc_314_0 23 rfl) rfl) (
  jm_gn))))))))))))))))))))))))
theorem dc_315_0 : ([(0, .lload_n 0, 1), (1, .invokestatic 33, 3), (4, .lload_n 2, 1), (5, .invokestatic 37, 3), (8, .lreturn, 1)] : List (Nat × Instr × Nat)).all (fun e => decide (decode prog_8_method_12_code e.1 = .ok e.2)) = true := by decide +kernel
abbrev cl_315_0 : List (Nat × jm_O) := [(0, op_lload 0 1), (1, op_callS 314 1), (4, op_lload 2 1), (5, op_callS 313 2), (8, op_lret)]
set_option maxRecDepth 100000 in
theorem gl_315_0 : jm_gl "FrescoWall$Place" prog_8_method_12_code 4 (Option.some Jvm.ClassFile.FieldType.long) false cl_315_0 :=
  jm_gc (pu_lload _ _) (sn_lload_n (i := 0) (jm_dc dc_315_0 0 rfl)) (
  jm_gc (pu_callS _ _) (sn_callS (jm_dc dc_315_0 1 rfl) lk_12_33) (
  jm_gc (pu_lload _ _) (sn_lload_n (i := 2) (jm_dc dc_315_0 2 rfl)) (
  jm_gc (pu_callS _ _) (sn_callS (jm_dc dc_315_0 3 rfl) lk_12_37) (
  jm_gc (pu_lret) (sn_lret (jm_dc dc_315_0 4 rfl) rfl) (
  jm_gn)))))
theorem dc_316_0 : ([(0, .lload_n 2, 1), (1, .lload_n 0, 1), (2, .invokestatic 33, 3), (5, .invokestatic 37, 3), (8, .lreturn, 1)] : List (Nat × Instr × Nat)).all (fun e => decide (decode prog_8_method_13_code e.1 = .ok e.2)) = true := by decide +kernel
abbrev cl_316_0 : List (Nat × jm_O) := [(0, op_lload 2 1), (1, op_lload 0 1), (2, op_callS 314 1), (5, op_callS 313 2), (8, op_lret)]
set_option maxRecDepth 100000 in
theorem gl_316_0 : jm_gl "FrescoWall$Place" prog_8_method_13_code 4 (Option.some Jvm.ClassFile.FieldType.long) false cl_316_0 :=
  jm_gc (pu_lload _ _) (sn_lload_n (i := 2) (jm_dc dc_316_0 0 rfl)) (
  jm_gc (pu_lload _ _) (sn_lload_n (i := 0) (jm_dc dc_316_0 1 rfl)) (
  jm_gc (pu_callS _ _) (sn_callS (jm_dc dc_316_0 2 rfl) lk_12_33) (
  jm_gc (pu_callS _ _) (sn_callS (jm_dc dc_316_0 3 rfl) lk_12_37) (
  jm_gc (pu_lret) (sn_lret (jm_dc dc_316_0 4 rfl) rfl) (
  jm_gn)))))
theorem dc_317_0 : ([(0, .iload_n 0, 1), (1, .iload_n 0, 1), (2, .iconst 1, 1), (3, .iushr, 1), (4, .ldc_w 265, 3), (7, .iand, 1), (8, .isub, 1), (9, .istore_n 0, 1), (10, .iload_n 0, 1), (11, .ldc_w 266, 3), (14, .iand, 1), (15, .iload_n 0, 1), (16, .iconst 2, 1), (17, .iushr, 1), (18, .ldc_w 266, 3), (21, .iand, 1), (22, .iadd, 1), (23, .istore_n 0, 1), (24, .iload_n 0, 1), (25, .iload_n 0, 1), (26, .iconst 4, 1), (27, .iushr, 1), (28, .iadd, 1), (29, .ldc_w 267, 3), (32, .iand, 1)] : List (Nat × Instr × Nat)).all (fun e => decide (decode prog_16_method_49_code e.1 = .ok e.2)) = true := by decide +kernel
abbrev cl_317_0 : List (Nat × jm_O) := [(0, op_iload 0 1), (1, op_iload 0 1), (2, op_ic 1 1), (3, op_ibin (fun x y => (x.toUInt32 >>> (y.toUInt32 &&& Int32.toUInt32 31)).toInt32)), (4, op_ic 1431655765 3), (7, op_ibin (fun x y => x &&& y)), (8, op_ibin (fun x y => x - y)), (9, op_istore 0 1), (10, op_iload 0 1), (11, op_ic 858993459 3), (14, op_ibin (fun x y => x &&& y)), (15, op_iload 0 1), (16, op_ic 2 1), (17, op_ibin (fun x y => (x.toUInt32 >>> (y.toUInt32 &&& Int32.toUInt32 31)).toInt32)), (18, op_ic 858993459 3), (21, op_ibin (fun x y => x &&& y)), (22, op_ibin (fun x y => x + y)), (23, op_istore 0 1), (24, op_iload 0 1), (25, op_iload 0 1), (26, op_ic 4 1), (27, op_ibin (fun x y => (x.toUInt32 >>> (y.toUInt32 &&& Int32.toUInt32 31)).toInt32)), (28, op_ibin (fun x y => x + y)), (29, op_ic 252645135 3), (32, op_ibin (fun x y => x &&& y))]
set_option maxRecDepth 100000 in
theorem gl_317_0 : jm_gl "java/lang/Integer" prog_16_method_49_code 1 (Option.some Jvm.ClassFile.FieldType.int) false cl_317_0 :=
  jm_gc (pu_iload _ _) (sn_iload_n (i := 0) (jm_dc dc_317_0 0 rfl)) (
  jm_gc (pu_iload _ _) (sn_iload_n (i := 0) (jm_dc dc_317_0 1 rfl)) (
  jm_gc (pu_ic _ _) (sn_iconst (jm_dc dc_317_0 2 rfl) (by decide)) (
  jm_gc (pu_ibin _) (sn_iushr (jm_dc dc_317_0 3 rfl)) (
  jm_gc (pu_ic _ _) (sn_ldcw (jm_dc dc_317_0 4 rfl) (kc_tb 875 (by decide +kernel))) (
  jm_gc (pu_ibin _) (sn_iand (jm_dc dc_317_0 5 rfl)) (
  jm_gc (pu_ibin _) (sn_isub (jm_dc dc_317_0 6 rfl)) (
  jm_gc (pu_istore _ _) (sn_istore_n (i := 0) (jm_dc dc_317_0 7 rfl)) (
  jm_gc (pu_iload _ _) (sn_iload_n (i := 0) (jm_dc dc_317_0 8 rfl)) (
  jm_gc (pu_ic _ _) (sn_ldcw (jm_dc dc_317_0 9 rfl) (kc_tb 876 (by decide +kernel))) (
  jm_gc (pu_ibin _) (sn_iand (jm_dc dc_317_0 10 rfl)) (
  jm_gc (pu_iload _ _) (sn_iload_n (i := 0) (jm_dc dc_317_0 11 rfl)) (
  jm_gc (pu_ic _ _) (sn_iconst (jm_dc dc_317_0 12 rfl) (by decide)) (
  jm_gc (pu_ibin _) (sn_iushr (jm_dc dc_317_0 13 rfl)) (
  jm_gc (pu_ic _ _) (sn_ldcw (jm_dc dc_317_0 14 rfl) (kc_tb 876 (by decide +kernel))) (
  jm_gc (pu_ibin _) (sn_iand (jm_dc dc_317_0 15 rfl)) (
  jm_gc (pu_ibin _) (sn_iadd (jm_dc dc_317_0 16 rfl)) (
  jm_gc (pu_istore _ _) (sn_istore_n (i := 0) (jm_dc dc_317_0 17 rfl)) (
  jm_gc (pu_iload _ _) (sn_iload_n (i := 0) (jm_dc dc_317_0 18 rfl)) (
  jm_gc (pu_iload _ _) (sn_iload_n (i := 0) (jm_dc dc_317_0 19 rfl)) (
  jm_gc (pu_ic _ _) (sn_iconst (jm_dc dc_317_0 20 rfl) (by decide)) (
  jm_gc (pu_ibin _) (sn_iushr (jm_dc dc_317_0 21 rfl)) (
  jm_gc (pu_ibin _) (sn_iadd (jm_dc dc_317_0 22 rfl)) (
  jm_gc (pu_ic _ _) (sn_ldcw (jm_dc dc_317_0 23 rfl) (kc_tb 877 (by decide +kernel))) (
  jm_gc (pu_ibin _) (sn_iand (jm_dc dc_317_0 24 rfl)) (
  jm_gn)))))))))))))))))))))))))
theorem dc_317_1 : ([(33, .istore_n 0, 1), (34, .iload_n 0, 1), (35, .iload_n 0, 1), (36, .bipush 8, 2), (38, .iushr, 1), (39, .iadd, 1), (40, .istore_n 0, 1), (41, .iload_n 0, 1), (42, .iload_n 0, 1), (43, .bipush 16, 2), (45, .iushr, 1), (46, .iadd, 1), (47, .istore_n 0, 1), (48, .iload_n 0, 1), (49, .bipush 63, 2), (51, .iand, 1), (52, .ireturn, 1)] : List (Nat × Instr × Nat)).all (fun e => decide (decode prog_16_method_49_code e.1 = .ok e.2)) = true := by decide +kernel
abbrev cl_317_1 : List (Nat × jm_O) := [(33, op_istore 0 1), (34, op_iload 0 1), (35, op_iload 0 1), (36, op_ic 8 2), (38, op_ibin (fun x y => (x.toUInt32 >>> (y.toUInt32 &&& Int32.toUInt32 31)).toInt32)), (39, op_ibin (fun x y => x + y)), (40, op_istore 0 1), (41, op_iload 0 1), (42, op_iload 0 1), (43, op_ic 16 2), (45, op_ibin (fun x y => (x.toUInt32 >>> (y.toUInt32 &&& Int32.toUInt32 31)).toInt32)), (46, op_ibin (fun x y => x + y)), (47, op_istore 0 1), (48, op_iload 0 1), (49, op_ic 63 2), (51, op_ibin (fun x y => x &&& y)), (52, op_iret)]
set_option maxRecDepth 100000 in
theorem gl_317_1 : jm_gl "java/lang/Integer" prog_16_method_49_code 1 (Option.some Jvm.ClassFile.FieldType.int) false cl_317_1 :=
  jm_gc (pu_istore _ _) (sn_istore_n (i := 0) (jm_dc dc_317_1 0 rfl)) (
  jm_gc (pu_iload _ _) (sn_iload_n (i := 0) (jm_dc dc_317_1 1 rfl)) (
  jm_gc (pu_iload _ _) (sn_iload_n (i := 0) (jm_dc dc_317_1 2 rfl)) (
  jm_gc (pu_ic _ _) (sn_bipush (jm_dc dc_317_1 3 rfl) (by decide)) (
  jm_gc (pu_ibin _) (sn_iushr (jm_dc dc_317_1 4 rfl)) (
  jm_gc (pu_ibin _) (sn_iadd (jm_dc dc_317_1 5 rfl)) (
  jm_gc (pu_istore _ _) (sn_istore_n (i := 0) (jm_dc dc_317_1 6 rfl)) (
  jm_gc (pu_iload _ _) (sn_iload_n (i := 0) (jm_dc dc_317_1 7 rfl)) (
  jm_gc (pu_iload _ _) (sn_iload_n (i := 0) (jm_dc dc_317_1 8 rfl)) (
  jm_gc (pu_ic _ _) (sn_bipush (jm_dc dc_317_1 9 rfl) (by decide)) (
  jm_gc (pu_ibin _) (sn_iushr (jm_dc dc_317_1 10 rfl)) (
  jm_gc (pu_ibin _) (sn_iadd (jm_dc dc_317_1 11 rfl)) (
  jm_gc (pu_istore _ _) (sn_istore_n (i := 0) (jm_dc dc_317_1 12 rfl)) (
  jm_gc (pu_iload _ _) (sn_iload_n (i := 0) (jm_dc dc_317_1 13 rfl)) (
  jm_gc (pu_ic _ _) (sn_bipush (jm_dc dc_317_1 14 rfl) (by decide)) (
  jm_gc (pu_ibin _) (sn_iand (jm_dc dc_317_1 15 rfl)) (
  jm_gc (pu_iret) (sn_iret (jm_dc dc_317_1 16 rfl) rfl) (
  jm_gn)))))))))))))))))
theorem dc_318_0 : ([(0, .iload_n 0, 1), (1, .iload_n 1, 1), (2, .if_icmp .ge 7, 3), (5, .iconst (-1), 1), (6, .goto 13, 3), (9, .iload_n 0, 1), (10, .iload_n 1, 1), (11, .if_icmp .ne 7, 3), (14, .iconst 0, 1), (15, .goto 4, 3), (18, .iconst 1, 1), (19, .ireturn, 1)] : List (Nat × Instr × Nat)).all (fun e => decide (decode prog_16_method_40_code e.1 = .ok e.2)) = true := by decide +kernel
abbrev cl_318_0 : List (Nat × jm_O) := [(0, op_iload 0 1), (1, op_iload 1 1), (2, op_cge 9), (5, op_ic (-1) 1), (6, op_goto 19), (9, op_iload 0 1), (10, op_iload 1 1), (11, op_cne 18), (14, op_ic 0 1), (15, op_goto 19), (18, op_ic 1 1), (19, op_iret)]
set_option maxRecDepth 100000 in
theorem gl_318_0 : jm_gl "java/lang/Integer" prog_16_method_40_code 2 (Option.some Jvm.ClassFile.FieldType.int) false cl_318_0 :=
  jm_gc (pu_iload _ _) (sn_iload_n (i := 0) (jm_dc dc_318_0 0 rfl)) (
  jm_gc (pu_iload _ _) (sn_iload_n (i := 1) (jm_dc dc_318_0 1 rfl)) (
  jm_gc (pu_cge _) (sn_cge (jm_dc dc_318_0 2 rfl) (by decide)) (
  jm_gc (pu_ic _ _) (sn_iconst (jm_dc dc_318_0 3 rfl) (by decide)) (
  jm_gc (pu_goto _) (sn_goto (jm_dc dc_318_0 4 rfl) (by decide)) (
  jm_gc (pu_iload _ _) (sn_iload_n (i := 0) (jm_dc dc_318_0 5 rfl)) (
  jm_gc (pu_iload _ _) (sn_iload_n (i := 1) (jm_dc dc_318_0 6 rfl)) (
  jm_gc (pu_cne _) (sn_cne (jm_dc dc_318_0 7 rfl) (by decide)) (
  jm_gc (pu_ic _ _) (sn_iconst (jm_dc dc_318_0 8 rfl) (by decide)) (
  jm_gc (pu_goto _) (sn_goto (jm_dc dc_318_0 9 rfl) (by decide)) (
  jm_gc (pu_ic _ _) (sn_iconst (jm_dc dc_318_0 10 rfl) (by decide)) (
  jm_gc (pu_iret) (sn_iret (jm_dc dc_318_0 11 rfl) rfl) (
  jm_gn))))))))))))
theorem dc_319_0 : ([(0, .iload_n 0, 1), (1, .iconst (-1), 1), (2, .ixor, 1), (3, .iload_n 0, 1), (4, .iconst 1, 1), (5, .isub, 1), (6, .iand, 1), (7, .istore_n 0, 1), (8, .iload_n 0, 1), (9, .ifCond .gt 8, 3), (12, .iload_n 0, 1), (13, .bipush 32, 2), (15, .iand, 1), (16, .ireturn, 1), (17, .iconst 1, 1), (18, .istore_n 1, 1), (19, .iload_n 0, 1), (20, .ldc_w 264, 3), (23, .if_icmp .le 11, 3), (26, .iinc 1 16, 3), (29, .iload_n 0, 1), (30, .bipush 16, 2), (32, .iushr, 1), (33, .istore_n 0, 1), (34, .iload_n 0, 1)] : List (Nat × Instr × Nat)).all (fun e => decide (decode prog_16_method_48_code e.1 = .ok e.2)) = true := by decide +kernel
abbrev cl_319_0 : List (Nat × jm_O) := [(0, op_iload 0 1), (1, op_ic (-1) 1), (2, op_ibin (fun x y => x ^^^ y)), (3, op_iload 0 1), (4, op_ic 1 1), (5, op_ibin (fun x y => x - y)), (6, op_ibin (fun x y => x &&& y)), (7, op_istore 0 1), (8, op_iload 0 1), (9, op_ifgt 17), (12, op_iload 0 1), (13, op_ic 32 2), (15, op_ibin (fun x y => x &&& y)), (16, op_iret), (17, op_ic 1 1), (18, op_istore 1 1), (19, op_iload 0 1), (20, op_ic 65536 3), (23, op_cle 34), (26, op_iinc 1 16), (29, op_iload 0 1), (30, op_ic 16 2), (32, op_ibin (fun x y => (x.toUInt32 >>> (y.toUInt32 &&& Int32.toUInt32 31)).toInt32)), (33, op_istore 0 1), (34, op_iload 0 1)]
set_option maxRecDepth 100000 in
theorem gl_319_0 : jm_gl "java/lang/Integer" prog_16_method_48_code 2 (Option.some Jvm.ClassFile.FieldType.int) false cl_319_0 :=
  jm_gc (pu_iload _ _) (sn_iload_n (i := 0) (jm_dc dc_319_0 0 rfl)) (
  jm_gc (pu_ic _ _) (sn_iconst (jm_dc dc_319_0 1 rfl) (by decide)) (
  jm_gc (pu_ibin _) (sn_ixor (jm_dc dc_319_0 2 rfl)) (
  jm_gc (pu_iload _ _) (sn_iload_n (i := 0) (jm_dc dc_319_0 3 rfl)) (
  jm_gc (pu_ic _ _) (sn_iconst (jm_dc dc_319_0 4 rfl) (by decide)) (
  jm_gc (pu_ibin _) (sn_isub (jm_dc dc_319_0 5 rfl)) (
  jm_gc (pu_ibin _) (sn_iand (jm_dc dc_319_0 6 rfl)) (
  jm_gc (pu_istore _ _) (sn_istore_n (i := 0) (jm_dc dc_319_0 7 rfl)) (
  jm_gc (pu_iload _ _) (sn_iload_n (i := 0) (jm_dc dc_319_0 8 rfl)) (
  jm_gc (pu_ifgt _) (sn_ifgt (jm_dc dc_319_0 9 rfl) (by decide)) (
  jm_gc (pu_iload _ _) (sn_iload_n (i := 0) (jm_dc dc_319_0 10 rfl)) (
  jm_gc (pu_ic _ _) (sn_bipush (jm_dc dc_319_0 11 rfl) (by decide)) (
  jm_gc (pu_ibin _) (sn_iand (jm_dc dc_319_0 12 rfl)) (
  jm_gc (pu_iret) (sn_iret (jm_dc dc_319_0 13 rfl) rfl) (
  jm_gc (pu_ic _ _) (sn_iconst (jm_dc dc_319_0 14 rfl) (by decide)) (
  jm_gc (pu_istore _ _) (sn_istore_n (i := 1) (jm_dc dc_319_0 15 rfl)) (
  jm_gc (pu_iload _ _) (sn_iload_n (i := 0) (jm_dc dc_319_0 16 rfl)) (
  jm_gc (pu_ic _ _) (sn_ldcw (jm_dc dc_319_0 17 rfl) (kc_tb 834 (by decide +kernel))) (
  jm_gc (pu_cle _) (sn_cle (jm_dc dc_319_0 18 rfl) (by decide)) (
  jm_gc (pu_iinc _ _) (sn_iinc (jm_dc dc_319_0 19 rfl) (by decide)) (
  jm_gc (pu_iload _ _) (sn_iload_n (i := 0) (jm_dc dc_319_0 20 rfl)) (
  jm_gc (pu_ic _ _) (sn_bipush (jm_dc dc_319_0 21 rfl) (by decide)) (
  jm_gc (pu_ibin _) (sn_iushr (jm_dc dc_319_0 22 rfl)) (
  jm_gc (pu_istore _ _) (sn_istore_n (i := 0) (jm_dc dc_319_0 23 rfl)) (
  jm_gc (pu_iload _ _) (sn_iload_n (i := 0) (jm_dc dc_319_0 24 rfl)) (
  jm_gn)))))))))))))))))))))))))
theorem dc_319_1 : ([(35, .sipush 256, 3), (38, .if_icmp .le 11, 3), (41, .iinc 1 8, 3), (44, .iload_n 0, 1), (45, .bipush 8, 2), (47, .iushr, 1), (48, .istore_n 0, 1), (49, .iload_n 0, 1), (50, .bipush 16, 2), (52, .if_icmp .le 10, 3), (55, .iinc 1 4, 3), (58, .iload_n 0, 1), (59, .iconst 4, 1), (60, .iushr, 1), (61, .istore_n 0, 1), (62, .iload_n 0, 1), (63, .iconst 4, 1), (64, .if_icmp .le 10, 3), (67, .iinc 1 2, 3), (70, .iload_n 0, 1), (71, .iconst 2, 1), (72, .iushr, 1), (73, .istore_n 0, 1), (74, .iload_n 1, 1), (75, .iload_n 0, 1)] : List (Nat × Instr × Nat)).all (fun e => decide (decode prog_16_method_48_code e.1 = .ok e.2)) = true := by decide +kernel
abbrev cl_319_1 : List (Nat × jm_O) := [(35, op_ic 256 3), (38, op_cle 49), (41, op_iinc 1 8), (44, op_iload 0 1), (45, op_ic 8 2), (47, op_ibin (fun x y => (x.toUInt32 >>> (y.toUInt32 &&& Int32.toUInt32 31)).toInt32)), (48, op_istore 0 1), (49, op_iload 0 1), (50, op_ic 16 2), (52, op_cle 62), (55, op_iinc 1 4), (58, op_iload 0 1), (59, op_ic 4 1), (60, op_ibin (fun x y => (x.toUInt32 >>> (y.toUInt32 &&& Int32.toUInt32 31)).toInt32)), (61, op_istore 0 1), (62, op_iload 0 1), (63, op_ic 4 1), (64, op_cle 74), (67, op_iinc 1 2), (70, op_iload 0 1), (71, op_ic 2 1), (72, op_ibin (fun x y => (x.toUInt32 >>> (y.toUInt32 &&& Int32.toUInt32 31)).toInt32)), (73, op_istore 0 1), (74, op_iload 1 1), (75, op_iload 0 1)]
set_option maxRecDepth 100000 in
theorem gl_319_1 : jm_gl "java/lang/Integer" prog_16_method_48_code 2 (Option.some Jvm.ClassFile.FieldType.int) false cl_319_1 :=
  jm_gc (pu_ic _ _) (sn_sipush (jm_dc dc_319_1 0 rfl) (by decide)) (
  jm_gc (pu_cle _) (sn_cle (jm_dc dc_319_1 1 rfl) (by decide)) (
  jm_gc (pu_iinc _ _) (sn_iinc (jm_dc dc_319_1 2 rfl) (by decide)) (
  jm_gc (pu_iload _ _) (sn_iload_n (i := 0) (jm_dc dc_319_1 3 rfl)) (
  jm_gc (pu_ic _ _) (sn_bipush (jm_dc dc_319_1 4 rfl) (by decide)) (
  jm_gc (pu_ibin _) (sn_iushr (jm_dc dc_319_1 5 rfl)) (
  jm_gc (pu_istore _ _) (sn_istore_n (i := 0) (jm_dc dc_319_1 6 rfl)) (
  jm_gc (pu_iload _ _) (sn_iload_n (i := 0) (jm_dc dc_319_1 7 rfl)) (
  jm_gc (pu_ic _ _) (sn_bipush (jm_dc dc_319_1 8 rfl) (by decide)) (
  jm_gc (pu_cle _) (sn_cle (jm_dc dc_319_1 9 rfl) (by decide)) (
  jm_gc (pu_iinc _ _) (sn_iinc (jm_dc dc_319_1 10 rfl) (by decide)) (
  jm_gc (pu_iload _ _) (sn_iload_n (i := 0) (jm_dc dc_319_1 11 rfl)) (
  jm_gc (pu_ic _ _) (sn_iconst (jm_dc dc_319_1 12 rfl) (by decide)) (
  jm_gc (pu_ibin _) (sn_iushr (jm_dc dc_319_1 13 rfl)) (
  jm_gc (pu_istore _ _) (sn_istore_n (i := 0) (jm_dc dc_319_1 14 rfl)) (
  jm_gc (pu_iload _ _) (sn_iload_n (i := 0) (jm_dc dc_319_1 15 rfl)) (
  jm_gc (pu_ic _ _) (sn_iconst (jm_dc dc_319_1 16 rfl) (by decide)) (
  jm_gc (pu_cle _) (sn_cle (jm_dc dc_319_1 17 rfl) (by decide)) (
  jm_gc (pu_iinc _ _) (sn_iinc (jm_dc dc_319_1 18 rfl) (by decide)) (
  jm_gc (pu_iload _ _) (sn_iload_n (i := 0) (jm_dc dc_319_1 19 rfl)) (
  jm_gc (pu_ic _ _) (sn_iconst (jm_dc dc_319_1 20 rfl) (by decide)) (
  jm_gc (pu_ibin _) (sn_iushr (jm_dc dc_319_1 21 rfl)) (
  jm_gc (pu_istore _ _) (sn_istore_n (i := 0) (jm_dc dc_319_1 22 rfl)) (
  jm_gc (pu_iload _ _) (sn_iload_n (i := 1) (jm_dc dc_319_1 23 rfl)) (
  jm_gc (pu_iload _ _) (sn_iload_n (i := 0) (jm_dc dc_319_1 24 rfl)) (
  jm_gn)))))))))))))))))))))))))
theorem dc_319_2 : ([(76, .iconst 1, 1), (77, .iushr, 1), (78, .iadd, 1), (79, .ireturn, 1)] : List (Nat × Instr × Nat)).all (fun e => decide (decode prog_16_method_48_code e.1 = .ok e.2)) = true := by decide +kernel
abbrev cl_319_2 : List (Nat × jm_O) := [(76, op_ic 1 1), (77, op_ibin (fun x y => (x.toUInt32 >>> (y.toUInt32 &&& Int32.toUInt32 31)).toInt32)), (78, op_ibin (fun x y => x + y)), (79, op_iret)]
set_option maxRecDepth 100000 in
theorem gl_319_2 : jm_gl "java/lang/Integer" prog_16_method_48_code 2 (Option.some Jvm.ClassFile.FieldType.int) false cl_319_2 :=
  jm_gc (pu_ic _ _) (sn_iconst (jm_dc dc_319_2 0 rfl) (by decide)) (
  jm_gc (pu_ibin _) (sn_iushr (jm_dc dc_319_2 1 rfl)) (
  jm_gc (pu_ibin _) (sn_iadd (jm_dc dc_319_2 2 rfl)) (
  jm_gc (pu_iret) (sn_iret (jm_dc dc_319_2 3 rfl) rfl) (
  jm_gn))))
theorem dc_320_0 : ([(0, .lload_n 0, 1), (1, .lload_n 0, 1), (2, .iconst 1, 1), (3, .lushr, 1), (4, .ldc2_w 314, 3), (7, .land, 1), (8, .lsub, 1), (9, .lstore_n 0, 1), (10, .lload_n 0, 1), (11, .ldc2_w 316, 3), (14, .land, 1), (15, .lload_n 0, 1), (16, .iconst 2, 1), (17, .lushr, 1), (18, .ldc2_w 316, 3), (21, .land, 1), (22, .ladd, 1), (23, .lstore_n 0, 1), (24, .lload_n 0, 1), (25, .lload_n 0, 1), (26, .iconst 4, 1), (27, .lushr, 1), (28, .ladd, 1), (29, .ldc2_w 318, 3), (32, .land, 1)] : List (Nat × Instr × Nat)).all (fun e => decide (decode prog_17_method_50_code e.1 = .ok e.2)) = true := by decide +kernel
abbrev cl_320_0 : List (Nat × jm_O) := [(0, op_lload 0 1), (1, op_lload 0 1), (2, op_ic 1 1), (3, op_lsh (fun x y => (x.toUInt64 >>> (y.toInt64.toUInt64 &&& Int64.toUInt64 63)).toInt64)), (4, op_lc 6148914691236517205 3), (7, op_lbin (fun x y => x &&& y)), (8, op_lbin (fun x y => x - y)), (9, op_lstore 0 1), (10, op_lload 0 1), (11, op_lc 3689348814741910323 3), (14, op_lbin (fun x y => x &&& y)), (15, op_lload 0 1), (16, op_ic 2 1), (17, op_lsh (fun x y => (x.toUInt64 >>> (y.toInt64.toUInt64 &&& Int64.toUInt64 63)).toInt64)), (18, op_lc 3689348814741910323 3), (21, op_lbin (fun x y => x &&& y)), (22, op_lbin (fun x y => x + y)), (23, op_lstore 0 1), (24, op_lload 0 1), (25, op_lload 0 1), (26, op_ic 4 1), (27, op_lsh (fun x y => (x.toUInt64 >>> (y.toInt64.toUInt64 &&& Int64.toUInt64 63)).toInt64)), (28, op_lbin (fun x y => x + y)), (29, op_lc 1085102592571150095 3), (32, op_lbin (fun x y => x &&& y))]
set_option maxRecDepth 100000 in
theorem gl_320_0 : jm_gl "java/lang/Long" prog_17_method_50_code 2 (Option.some Jvm.ClassFile.FieldType.int) false cl_320_0 :=
  jm_gc (pu_lload _ _) (sn_lload_n (i := 0) (jm_dc dc_320_0 0 rfl)) (
  jm_gc (pu_lload _ _) (sn_lload_n (i := 0) (jm_dc dc_320_0 1 rfl)) (
  jm_gc (pu_ic _ _) (sn_iconst (jm_dc dc_320_0 2 rfl) (by decide)) (
  jm_gc (pu_lsh _) (sn_lushr (jm_dc dc_320_0 3 rfl)) (
  jm_gc (pu_lc _ _) (sn_ldc2 (jm_dc dc_320_0 4 rfl) (kc_tb 650 (by decide +kernel))) (
  jm_gc (pu_lbin _) (sn_land (jm_dc dc_320_0 5 rfl)) (
  jm_gc (pu_lbin _) (sn_lsub (jm_dc dc_320_0 6 rfl)) (
  jm_gc (pu_lstore _ _) (sn_lstore_n (i := 0) (jm_dc dc_320_0 7 rfl)) (
  jm_gc (pu_lload _ _) (sn_lload_n (i := 0) (jm_dc dc_320_0 8 rfl)) (
  jm_gc (pu_lc _ _) (sn_ldc2 (jm_dc dc_320_0 9 rfl) (kc_tb 651 (by decide +kernel))) (
  jm_gc (pu_lbin _) (sn_land (jm_dc dc_320_0 10 rfl)) (
  jm_gc (pu_lload _ _) (sn_lload_n (i := 0) (jm_dc dc_320_0 11 rfl)) (
  jm_gc (pu_ic _ _) (sn_iconst (jm_dc dc_320_0 12 rfl) (by decide)) (
  jm_gc (pu_lsh _) (sn_lushr (jm_dc dc_320_0 13 rfl)) (
  jm_gc (pu_lc _ _) (sn_ldc2 (jm_dc dc_320_0 14 rfl) (kc_tb 651 (by decide +kernel))) (
  jm_gc (pu_lbin _) (sn_land (jm_dc dc_320_0 15 rfl)) (
  jm_gc (pu_lbin _) (sn_ladd (jm_dc dc_320_0 16 rfl)) (
  jm_gc (pu_lstore _ _) (sn_lstore_n (i := 0) (jm_dc dc_320_0 17 rfl)) (
  jm_gc (pu_lload _ _) (sn_lload_n (i := 0) (jm_dc dc_320_0 18 rfl)) (
  jm_gc (pu_lload _ _) (sn_lload_n (i := 0) (jm_dc dc_320_0 19 rfl)) (
  jm_gc (pu_ic _ _) (sn_iconst (jm_dc dc_320_0 20 rfl) (by decide)) (
  jm_gc (pu_lsh _) (sn_lushr (jm_dc dc_320_0 21 rfl)) (
  jm_gc (pu_lbin _) (sn_ladd (jm_dc dc_320_0 22 rfl)) (
  jm_gc (pu_lc _ _) (sn_ldc2 (jm_dc dc_320_0 23 rfl) (kc_tb 652 (by decide +kernel))) (
  jm_gc (pu_lbin _) (sn_land (jm_dc dc_320_0 24 rfl)) (
  jm_gn)))))))))))))))))))))))))
theorem dc_320_1 : ([(33, .lstore_n 0, 1), (34, .lload_n 0, 1), (35, .lload_n 0, 1), (36, .bipush 8, 2), (38, .lushr, 1), (39, .ladd, 1), (40, .lstore_n 0, 1), (41, .lload_n 0, 1), (42, .lload_n 0, 1), (43, .bipush 16, 2), (45, .lushr, 1), (46, .ladd, 1), (47, .lstore_n 0, 1), (48, .lload_n 0, 1), (49, .lload_n 0, 1), (50, .bipush 32, 2), (52, .lushr, 1), (53, .ladd, 1), (54, .lstore_n 0, 1), (55, .lload_n 0, 1), (56, .l2i, 1), (57, .bipush 127, 2), (59, .iand, 1), (60, .ireturn, 1)] : List (Nat × Instr × Nat)).all (fun e => decide (decode prog_17_method_50_code e.1 = .ok e.2)) = true := by decide +kernel
abbrev cl_320_1 : List (Nat × jm_O) := [(33, op_lstore 0 1), (34, op_lload 0 1), (35, op_lload 0 1), (36, op_ic 8 2), (38, op_lsh (fun x y => (x.toUInt64 >>> (y.toInt64.toUInt64 &&& Int64.toUInt64 63)).toInt64)), (39, op_lbin (fun x y => x + y)), (40, op_lstore 0 1), (41, op_lload 0 1), (42, op_lload 0 1), (43, op_ic 16 2), (45, op_lsh (fun x y => (x.toUInt64 >>> (y.toInt64.toUInt64 &&& Int64.toUInt64 63)).toInt64)), (46, op_lbin (fun x y => x + y)), (47, op_lstore 0 1), (48, op_lload 0 1), (49, op_lload 0 1), (50, op_ic 32 2), (52, op_lsh (fun x y => (x.toUInt64 >>> (y.toInt64.toUInt64 &&& Int64.toUInt64 63)).toInt64)), (53, op_lbin (fun x y => x + y)), (54, op_lstore 0 1), (55, op_lload 0 1), (56, op_l2i), (57, op_ic 127 2), (59, op_ibin (fun x y => x &&& y)), (60, op_iret)]
set_option maxRecDepth 100000 in
theorem gl_320_1 : jm_gl "java/lang/Long" prog_17_method_50_code 2 (Option.some Jvm.ClassFile.FieldType.int) false cl_320_1 :=
  jm_gc (pu_lstore _ _) (sn_lstore_n (i := 0) (jm_dc dc_320_1 0 rfl)) (
  jm_gc (pu_lload _ _) (sn_lload_n (i := 0) (jm_dc dc_320_1 1 rfl)) (
  jm_gc (pu_lload _ _) (sn_lload_n (i := 0) (jm_dc dc_320_1 2 rfl)) (
  jm_gc (pu_ic _ _) (sn_bipush (jm_dc dc_320_1 3 rfl) (by decide)) (
  jm_gc (pu_lsh _) (sn_lushr (jm_dc dc_320_1 4 rfl)) (
  jm_gc (pu_lbin _) (sn_ladd (jm_dc dc_320_1 5 rfl)) (
  jm_gc (pu_lstore _ _) (sn_lstore_n (i := 0) (jm_dc dc_320_1 6 rfl)) (
  jm_gc (pu_lload _ _) (sn_lload_n (i := 0) (jm_dc dc_320_1 7 rfl)) (
  jm_gc (pu_lload _ _) (sn_lload_n (i := 0) (jm_dc dc_320_1 8 rfl)) (
  jm_gc (pu_ic _ _) (sn_bipush (jm_dc dc_320_1 9 rfl) (by decide)) (
  jm_gc (pu_lsh _) (sn_lushr (jm_dc dc_320_1 10 rfl)) (
  jm_gc (pu_lbin _) (sn_ladd (jm_dc dc_320_1 11 rfl)) (
  jm_gc (pu_lstore _ _) (sn_lstore_n (i := 0) (jm_dc dc_320_1 12 rfl)) (
  jm_gc (pu_lload _ _) (sn_lload_n (i := 0) (jm_dc dc_320_1 13 rfl)) (
  jm_gc (pu_lload _ _) (sn_lload_n (i := 0) (jm_dc dc_320_1 14 rfl)) (
  jm_gc (pu_ic _ _) (sn_bipush (jm_dc dc_320_1 15 rfl) (by decide)) (
  jm_gc (pu_lsh _) (sn_lushr (jm_dc dc_320_1 16 rfl)) (
  jm_gc (pu_lbin _) (sn_ladd (jm_dc dc_320_1 17 rfl)) (
  jm_gc (pu_lstore _ _) (sn_lstore_n (i := 0) (jm_dc dc_320_1 18 rfl)) (
  jm_gc (pu_lload _ _) (sn_lload_n (i := 0) (jm_dc dc_320_1 19 rfl)) (
  jm_gc (pu_l2i) (sn_l2i (jm_dc dc_320_1 20 rfl)) (
  jm_gc (pu_ic _ _) (sn_bipush (jm_dc dc_320_1 21 rfl) (by decide)) (
  jm_gc (pu_ibin _) (sn_iand (jm_dc dc_320_1 22 rfl)) (
  jm_gc (pu_iret) (sn_iret (jm_dc dc_320_1 23 rfl) rfl) (
  jm_gn))))))))))))))))))))))))
def cd_19 (pc : Nat) : jm_O := if pc < 50 then jm_lu cl_19_0 pc else jm_lu cl_19_1 pc
theorem ok_19 (pc : Nat) : jm_pu (cd_19 pc) ∧ jm_snd "FrescoWall$Boxes" prog_4_method_1_code 1 (Option.none : Option Jvm.ClassFile.FieldType) true pc (cd_19 pc) := jm_if2 (jm_lu_ok _ gl_19_0 pc) (jm_lu_ok _ gl_19_1 pc)
def cd_20 (pc : Nat) : jm_O := jm_lu cl_20_0 pc
theorem ok_20 (pc : Nat) : jm_pu (cd_20 pc) ∧ jm_snd "FrescoWall$Boxes" prog_4_method_2_code 1 (Option.some Jvm.ClassFile.FieldType.boolean) false pc (cd_20 pc) := jm_lu_ok _ gl_20_0 pc
def cd_21 (pc : Nat) : jm_O := if pc < 43 then jm_lu cl_21_0 pc else jm_lu cl_21_1 pc
theorem ok_21 (pc : Nat) : jm_pu (cd_21 pc) ∧ jm_snd "FrescoWall$Boxes" prog_4_method_3_code 4 (Option.some Jvm.ClassFile.FieldType.int) false pc (cd_21 pc) := jm_if2 (jm_lu_ok _ gl_21_0 pc) (jm_lu_ok _ gl_21_1 pc)
def cd_22 (pc : Nat) : jm_O := if pc < 46 then jm_lu cl_22_0 pc else jm_lu cl_22_1 pc
theorem ok_22 (pc : Nat) : jm_pu (cd_22 pc) ∧ jm_snd "FrescoWall$Boxes" prog_4_method_4_code 7 (Option.some Jvm.ClassFile.FieldType.int) false pc (cd_22 pc) := jm_if2 (jm_lu_ok _ gl_22_0 pc) (jm_lu_ok _ gl_22_1 pc)
def cd_23 (pc : Nat) : jm_O := jm_lu cl_23_0 pc
theorem ok_23 (pc : Nat) : jm_pu (cd_23 pc) ∧ jm_snd "FrescoWall$Boxes" prog_4_method_5_code 2 (Option.some Jvm.ClassFile.FieldType.int) false pc (cd_23 pc) := jm_lu_ok _ gl_23_0 pc
def cd_24 (pc : Nat) : jm_O := if pc < 41 then jm_lu cl_24_0 pc else if pc < 85 then jm_lu cl_24_1 pc else jm_lu cl_24_2 pc
theorem ok_24 (pc : Nat) : jm_pu (cd_24 pc) ∧ jm_snd "FrescoWall$Boxes" prog_4_method_6_code 5 (Option.some Jvm.ClassFile.FieldType.int) false pc (cd_24 pc) := jm_if2 (jm_lu_ok _ gl_24_0 pc) (jm_if2 (jm_lu_ok _ gl_24_1 pc) (jm_lu_ok _ gl_24_2 pc))
def cd_25 (pc : Nat) : jm_O := if pc < 41 then jm_lu cl_25_0 pc else if pc < 84 then jm_lu cl_25_1 pc else jm_lu cl_25_2 pc
theorem ok_25 (pc : Nat) : jm_pu (cd_25 pc) ∧ jm_snd "FrescoWall$Boxes" prog_4_method_7_code 5 (Option.none : Option Jvm.ClassFile.FieldType) false pc (cd_25 pc) := jm_if2 (jm_lu_ok _ gl_25_0 pc) (jm_if2 (jm_lu_ok _ gl_25_1 pc) (jm_lu_ok _ gl_25_2 pc))
def cd_26 (pc : Nat) : jm_O := if pc < 37 then jm_lu cl_26_0 pc else jm_lu cl_26_1 pc
theorem ok_26 (pc : Nat) : jm_pu (cd_26 pc) ∧ jm_snd "FrescoWall$Boxes" prog_4_method_8_code 5 (Option.some Jvm.ClassFile.FieldType.int) false pc (cd_26 pc) := jm_if2 (jm_lu_ok _ gl_26_0 pc) (jm_lu_ok _ gl_26_1 pc)
def cd_27 (pc : Nat) : jm_O := jm_lu cl_27_0 pc
theorem ok_27 (pc : Nat) : jm_pu (cd_27 pc) ∧ jm_snd "FrescoWall$Boxes" prog_4_method_9_code 4 (Option.some Jvm.ClassFile.FieldType.int) false pc (cd_27 pc) := jm_lu_ok _ gl_27_0 pc
def cd_28 (pc : Nat) : jm_O := if pc < 38 then jm_lu cl_28_0 pc else jm_lu cl_28_1 pc
theorem ok_28 (pc : Nat) : jm_pu (cd_28 pc) ∧ jm_snd "FrescoWall$Boxes" prog_4_method_10_code 4 (Option.some Jvm.ClassFile.FieldType.int) false pc (cd_28 pc) := jm_if2 (jm_lu_ok _ gl_28_0 pc) (jm_lu_ok _ gl_28_1 pc)
def cd_40 (pc : Nat) : jm_O := if pc < 49 then jm_lu cl_40_0 pc else jm_lu cl_40_1 pc
theorem ok_40 (pc : Nat) : jm_pu (cd_40 pc) ∧ jm_snd "FrescoWall$Joins" prog_6_method_1_code 1 (Option.none : Option Jvm.ClassFile.FieldType) true pc (cd_40 pc) := jm_if2 (jm_lu_ok _ gl_40_0 pc) (jm_lu_ok _ gl_40_1 pc)
def cd_41 (pc : Nat) : jm_O := jm_lu cl_41_0 pc
theorem ok_41 (pc : Nat) : jm_pu (cd_41 pc) ∧ jm_snd "FrescoWall$Joins" prog_6_method_2_code 2 (Option.none : Option Jvm.ClassFile.FieldType) false pc (cd_41 pc) := jm_lu_ok _ gl_41_0 pc
def cd_42 (pc : Nat) : jm_O := jm_lu cl_42_0 pc
theorem ok_42 (pc : Nat) : jm_pu (cd_42 pc) ∧ jm_snd "FrescoWall$Joins" prog_6_method_3_code 2 (Option.some Jvm.ClassFile.FieldType.boolean) false pc (cd_42 pc) := jm_lu_ok _ gl_42_0 pc
def cd_43 (pc : Nat) : jm_O := jm_lu cl_43_0 pc
theorem ok_43 (pc : Nat) : jm_pu (cd_43 pc) ∧ jm_snd "FrescoWall$Joins" prog_6_method_4_code 3 (Option.some Jvm.ClassFile.FieldType.boolean) false pc (cd_43 pc) := jm_lu_ok _ gl_43_0 pc
def cd_44 (pc : Nat) : jm_O := if pc < 42 then jm_lu cl_44_0 pc else if pc < 90 then jm_lu cl_44_1 pc else jm_lu cl_44_2 pc
theorem ok_44 (pc : Nat) : jm_pu (cd_44 pc) ∧ jm_snd "FrescoWall$Joins" prog_6_method_5_code 6 (Option.some Jvm.ClassFile.FieldType.boolean) false pc (cd_44 pc) := jm_if2 (jm_lu_ok _ gl_44_0 pc) (jm_if2 (jm_lu_ok _ gl_44_1 pc) (jm_lu_ok _ gl_44_2 pc))
def cd_45 (pc : Nat) : jm_O := if pc < 41 then jm_lu cl_45_0 pc else jm_lu cl_45_1 pc
theorem ok_45 (pc : Nat) : jm_pu (cd_45 pc) ∧ jm_snd "FrescoWall$Joins" prog_6_method_6_code 6 (Option.some Jvm.ClassFile.FieldType.int) false pc (cd_45 pc) := jm_if2 (jm_lu_ok _ gl_45_0 pc) (jm_lu_ok _ gl_45_1 pc)
def cd_46 (pc : Nat) : jm_O := jm_lu cl_46_0 pc
theorem ok_46 (pc : Nat) : jm_pu (cd_46 pc) ∧ jm_snd "FrescoWall$Joins" prog_6_method_7_code 2 (Option.none : Option Jvm.ClassFile.FieldType) false pc (cd_46 pc) := jm_lu_ok _ gl_46_0 pc
def cd_47 (pc : Nat) : jm_O := jm_lu cl_47_0 pc
theorem ok_47 (pc : Nat) : jm_pu (cd_47 pc) ∧ jm_snd "FrescoWall$Joins" prog_6_method_8_code 3 (Option.none : Option Jvm.ClassFile.FieldType) false pc (cd_47 pc) := jm_lu_ok _ gl_47_0 pc
def cd_48 (pc : Nat) : jm_O := if pc < 45 then jm_lu cl_48_0 pc else if pc < 96 then jm_lu cl_48_1 pc else jm_lu cl_48_2 pc
theorem ok_48 (pc : Nat) : jm_pu (cd_48 pc) ∧ jm_snd "FrescoWall$Joins" prog_6_method_9_code 9 (Option.some Jvm.ClassFile.FieldType.int) false pc (cd_48 pc) := jm_if2 (jm_lu_ok _ gl_48_0 pc) (jm_if2 (jm_lu_ok _ gl_48_1 pc) (jm_lu_ok _ gl_48_2 pc))
def cd_49 (pc : Nat) : jm_O := if pc < 43 then jm_lu cl_49_0 pc else jm_lu cl_49_1 pc
theorem ok_49 (pc : Nat) : jm_pu (cd_49 pc) ∧ jm_snd "FrescoWall$Joins" prog_6_method_10_code 4 (Option.some Jvm.ClassFile.FieldType.int) false pc (cd_49 pc) := jm_if2 (jm_lu_ok _ gl_49_0 pc) (jm_lu_ok _ gl_49_1 pc)
def cd_50 (pc : Nat) : jm_O := if pc < 45 then jm_lu cl_50_0 pc else jm_lu cl_50_1 pc
theorem ok_50 (pc : Nat) : jm_pu (cd_50 pc) ∧ jm_snd "FrescoWall$Joins" prog_6_method_11_code 4 (Option.some Jvm.ClassFile.FieldType.int) false pc (cd_50 pc) := jm_if2 (jm_lu_ok _ gl_50_0 pc) (jm_lu_ok _ gl_50_1 pc)
def cd_51 (pc : Nat) : jm_O := jm_lu cl_51_0 pc
theorem ok_51 (pc : Nat) : jm_pu (cd_51 pc) ∧ jm_snd "FrescoWall$Joins" prog_6_method_12_code 4 (Option.some Jvm.ClassFile.FieldType.int) false pc (cd_51 pc) := jm_lu_ok _ gl_51_0 pc
def cd_52 (pc : Nat) : jm_O := if pc < 46 then jm_lu cl_52_0 pc else if pc < 94 then jm_lu cl_52_1 pc else jm_lu cl_52_2 pc
theorem ok_52 (pc : Nat) : jm_pu (cd_52 pc) ∧ jm_snd "FrescoWall$Joins" prog_6_method_13_code 6 (Option.none : Option Jvm.ClassFile.FieldType) false pc (cd_52 pc) := jm_if2 (jm_lu_ok _ gl_52_0 pc) (jm_if2 (jm_lu_ok _ gl_52_1 pc) (jm_lu_ok _ gl_52_2 pc))
def cd_53 (pc : Nat) : jm_O := jm_lu cl_53_0 pc
theorem ok_53 (pc : Nat) : jm_pu (cd_53 pc) ∧ jm_snd "FrescoWall$Joins" prog_6_method_14_code 4 (Option.none : Option Jvm.ClassFile.FieldType) false pc (cd_53 pc) := jm_lu_ok _ gl_53_0 pc
def cd_54 (pc : Nat) : jm_O := if pc < 45 then jm_lu cl_54_0 pc else if pc < 101 then jm_lu cl_54_1 pc else jm_lu cl_54_2 pc
theorem ok_54 (pc : Nat) : jm_pu (cd_54 pc) ∧ jm_snd "FrescoWall$Joins" prog_6_method_15_code 9 (Option.some Jvm.ClassFile.FieldType.int) false pc (cd_54 pc) := jm_if2 (jm_lu_ok _ gl_54_0 pc) (jm_if2 (jm_lu_ok _ gl_54_1 pc) (jm_lu_ok _ gl_54_2 pc))
def cd_55 (pc : Nat) : jm_O := jm_lu cl_55_0 pc
theorem ok_55 (pc : Nat) : jm_pu (cd_55 pc) ∧ jm_snd "FrescoWall$Joins" prog_6_method_16_code 3 (Option.some Jvm.ClassFile.FieldType.int) false pc (cd_55 pc) := jm_lu_ok _ gl_55_0 pc
def cd_56 (pc : Nat) : jm_O := jm_lu cl_56_0 pc
theorem ok_56 (pc : Nat) : jm_pu (cd_56 pc) ∧ jm_snd "FrescoWall$Photo" prog_7_method_1_code 1 (Option.none : Option Jvm.ClassFile.FieldType) true pc (cd_56 pc) := jm_lu_ok _ gl_56_0 pc
def cd_57 (pc : Nat) : jm_O := jm_lu cl_57_0 pc
theorem ok_57 (pc : Nat) : jm_pu (cd_57 pc) ∧ jm_snd "FrescoWall$Photo" prog_7_method_2_code 1 (Option.some Jvm.ClassFile.FieldType.boolean) false pc (cd_57 pc) := jm_lu_ok _ gl_57_0 pc
def cd_58 (pc : Nat) : jm_O := jm_lu cl_58_0 pc
theorem ok_58 (pc : Nat) : jm_pu (cd_58 pc) ∧ jm_snd "FrescoWall$Photo" prog_7_method_3_code 1 (Option.some Jvm.ClassFile.FieldType.int) false pc (cd_58 pc) := jm_lu_ok _ gl_58_0 pc
def cd_59 (pc : Nat) : jm_O := if pc < 47 then jm_lu cl_59_0 pc else if pc < 97 then jm_lu cl_59_1 pc else jm_lu cl_59_2 pc
theorem ok_59 (pc : Nat) : jm_pu (cd_59 pc) ∧ jm_snd "FrescoWall$Photo" prog_7_method_4_code 7 (Option.some Jvm.ClassFile.FieldType.int) false pc (cd_59 pc) := jm_if2 (jm_lu_ok _ gl_59_0 pc) (jm_if2 (jm_lu_ok _ gl_59_1 pc) (jm_lu_ok _ gl_59_2 pc))
def cd_60 (pc : Nat) : jm_O := jm_lu cl_60_0 pc
theorem ok_60 (pc : Nat) : jm_pu (cd_60 pc) ∧ jm_snd "FrescoWall$Photo" prog_7_method_5_code 3 (Option.some Jvm.ClassFile.FieldType.boolean) false pc (cd_60 pc) := jm_lu_ok _ gl_60_0 pc
def cd_61 (pc : Nat) : jm_O := if pc < 48 then jm_lu cl_61_0 pc else if pc < 92 then jm_lu cl_61_1 pc else if pc < 139 then jm_lu cl_61_2 pc else if pc < 183 then jm_lu cl_61_3 pc else jm_lu cl_61_4 pc
theorem ok_61 (pc : Nat) : jm_pu (cd_61 pc) ∧ jm_snd "FrescoWall$Photo" prog_7_method_6_code 8 (Option.none : Option Jvm.ClassFile.FieldType) false pc (cd_61 pc) := jm_if2 (jm_lu_ok _ gl_61_0 pc) (jm_if2 (jm_lu_ok _ gl_61_1 pc) (jm_if2 (jm_lu_ok _ gl_61_2 pc) (jm_if2 (jm_lu_ok _ gl_61_3 pc) (jm_lu_ok _ gl_61_4 pc))))
def cd_62 (pc : Nat) : jm_O := if pc < 41 then jm_lu cl_62_0 pc else jm_lu cl_62_1 pc
theorem ok_62 (pc : Nat) : jm_pu (cd_62 pc) ∧ jm_snd "FrescoWall$Photo" prog_7_method_7_code 7 (Option.none : Option Jvm.ClassFile.FieldType) false pc (cd_62 pc) := jm_if2 (jm_lu_ok _ gl_62_0 pc) (jm_lu_ok _ gl_62_1 pc)
def cd_63 (pc : Nat) : jm_O := if pc < 42 then jm_lu cl_63_0 pc else if pc < 88 then jm_lu cl_63_1 pc else if pc < 133 then jm_lu cl_63_2 pc else jm_lu cl_63_3 pc
theorem ok_63 (pc : Nat) : jm_pu (cd_63 pc) ∧ jm_snd "FrescoWall$Photo" prog_7_method_8_code 10 (Option.some Jvm.ClassFile.FieldType.int) false pc (cd_63 pc) := jm_if2 (jm_lu_ok _ gl_63_0 pc) (jm_if2 (jm_lu_ok _ gl_63_1 pc) (jm_if2 (jm_lu_ok _ gl_63_2 pc) (jm_lu_ok _ gl_63_3 pc)))
def cd_64 (pc : Nat) : jm_O := if pc < 45 then jm_lu cl_64_0 pc else jm_lu cl_64_1 pc
theorem ok_64 (pc : Nat) : jm_pu (cd_64 pc) ∧ jm_snd "FrescoWall$Photo" prog_7_method_9_code 3 (Option.some Jvm.ClassFile.FieldType.boolean) false pc (cd_64 pc) := jm_if2 (jm_lu_ok _ gl_64_0 pc) (jm_lu_ok _ gl_64_1 pc)
def cd_65 (pc : Nat) : jm_O := if pc < 40 then jm_lu cl_65_0 pc else if pc < 86 then jm_lu cl_65_1 pc else if pc < 140 then jm_lu cl_65_2 pc else if pc < 185 then jm_lu cl_65_3 pc else jm_lu cl_65_4 pc
theorem ok_65 (pc : Nat) : jm_pu (cd_65 pc) ∧ jm_snd "FrescoWall$Photo" prog_7_method_10_code 10 (Option.none : Option Jvm.ClassFile.FieldType) false pc (cd_65 pc) := jm_if2 (jm_lu_ok _ gl_65_0 pc) (jm_if2 (jm_lu_ok _ gl_65_1 pc) (jm_if2 (jm_lu_ok _ gl_65_2 pc) (jm_if2 (jm_lu_ok _ gl_65_3 pc) (jm_lu_ok _ gl_65_4 pc))))
def cd_66 (pc : Nat) : jm_O := jm_lu cl_66_0 pc
theorem ok_66 (pc : Nat) : jm_pu (cd_66 pc) ∧ jm_snd "FrescoWall$Photo" prog_7_method_11_code 4 (Option.none : Option Jvm.ClassFile.FieldType) false pc (cd_66 pc) := jm_lu_ok _ gl_66_0 pc
def cd_67 (pc : Nat) : jm_O := jm_lu cl_67_0 pc
theorem ok_67 (pc : Nat) : jm_pu (cd_67 pc) ∧ jm_snd "FrescoWall$Question" prog_9_method_1_code 4 (Option.none : Option Jvm.ClassFile.FieldType) true pc (cd_67 pc) := jm_lu_ok _ gl_67_0 pc
def cd_68 (pc : Nat) : jm_O := if pc < 47 then jm_lu cl_68_0 pc else if pc < 100 then jm_lu cl_68_1 pc else if pc < 153 then jm_lu cl_68_2 pc else jm_lu cl_68_3 pc
theorem ok_68 (pc : Nat) : jm_pu (cd_68 pc) ∧ jm_snd "FrescoWall$Question" prog_9_method_2_code 9 (Option.some Jvm.ClassFile.FieldType.int) false pc (cd_68 pc) := jm_if2 (jm_lu_ok _ gl_68_0 pc) (jm_if2 (jm_lu_ok _ gl_68_1 pc) (jm_if2 (jm_lu_ok _ gl_68_2 pc) (jm_lu_ok _ gl_68_3 pc)))
def cd_69 (pc : Nat) : jm_O := if pc < 43 then jm_lu cl_69_0 pc else jm_lu cl_69_1 pc
theorem ok_69 (pc : Nat) : jm_pu (cd_69 pc) ∧ jm_snd "FrescoWall$Question" prog_9_method_3_code 1 (Option.none : Option Jvm.ClassFile.FieldType) false pc (cd_69 pc) := jm_if2 (jm_lu_ok _ gl_69_0 pc) (jm_lu_ok _ gl_69_1 pc)
def cd_70 (pc : Nat) : jm_O := if pc < 39 then jm_lu cl_70_0 pc else jm_lu cl_70_1 pc
theorem ok_70 (pc : Nat) : jm_pu (cd_70 pc) ∧ jm_snd "FrescoWall$Question" prog_9_method_4_code 3 (Option.none : Option Jvm.ClassFile.FieldType) false pc (cd_70 pc) := jm_if2 (jm_lu_ok _ gl_70_0 pc) (jm_lu_ok _ gl_70_1 pc)
def cd_71 (pc : Nat) : jm_O := if pc < 43 then jm_lu cl_71_0 pc else jm_lu cl_71_1 pc
theorem ok_71 (pc : Nat) : jm_pu (cd_71 pc) ∧ jm_snd "FrescoWall$Question" prog_9_method_5_code 4 (Option.some Jvm.ClassFile.FieldType.int) false pc (cd_71 pc) := jm_if2 (jm_lu_ok _ gl_71_0 pc) (jm_lu_ok _ gl_71_1 pc)
def cd_72 (pc : Nat) : jm_O := if pc < 42 then jm_lu cl_72_0 pc else if pc < 84 then jm_lu cl_72_1 pc else jm_lu cl_72_2 pc
theorem ok_72 (pc : Nat) : jm_pu (cd_72 pc) ∧ jm_snd "FrescoWall$Question" prog_9_method_6_code 3 (Option.some Jvm.ClassFile.FieldType.int) false pc (cd_72 pc) := jm_if2 (jm_lu_ok _ gl_72_0 pc) (jm_if2 (jm_lu_ok _ gl_72_1 pc) (jm_lu_ok _ gl_72_2 pc))
def cd_73 (pc : Nat) : jm_O := if pc < 44 then jm_lu cl_73_0 pc else if pc < 82 then jm_lu cl_73_1 pc else jm_lu cl_73_2 pc
theorem ok_73 (pc : Nat) : jm_pu (cd_73 pc) ∧ jm_snd "FrescoWall$Question" prog_9_method_7_code 7 (Option.some Jvm.ClassFile.FieldType.int) false pc (cd_73 pc) := jm_if2 (jm_lu_ok _ gl_73_0 pc) (jm_if2 (jm_lu_ok _ gl_73_1 pc) (jm_lu_ok _ gl_73_2 pc))
def cd_74 (pc : Nat) : jm_O := jm_lu cl_74_0 pc
theorem ok_74 (pc : Nat) : jm_pu (cd_74 pc) ∧ jm_snd "FrescoWall$Question" prog_9_method_8_code 1 (Option.some Jvm.ClassFile.FieldType.boolean) false pc (cd_74 pc) := jm_lu_ok _ gl_74_0 pc
def cd_75 (pc : Nat) : jm_O := if pc < 47 then jm_lu cl_75_0 pc else jm_lu cl_75_1 pc
theorem ok_75 (pc : Nat) : jm_pu (cd_75 pc) ∧ jm_snd "FrescoWall$Question" prog_9_method_9_code 8 (Option.some Jvm.ClassFile.FieldType.int) false pc (cd_75 pc) := jm_if2 (jm_lu_ok _ gl_75_0 pc) (jm_lu_ok _ gl_75_1 pc)
def cd_76 (pc : Nat) : jm_O := if pc < 140 then jm_lu cl_76_0 pc else if pc < 181 then jm_lu cl_76_1 pc else jm_lu cl_76_2 pc
theorem ok_76 (pc : Nat) : jm_pu (cd_76 pc) ∧ jm_snd "FrescoWall$Question" prog_9_method_10_code 5 (Option.some Jvm.ClassFile.FieldType.int) false pc (cd_76 pc) := jm_if2 (jm_lu_ok _ gl_76_0 pc) (jm_if2 (jm_lu_ok _ gl_76_1 pc) (jm_lu_ok _ gl_76_2 pc))
def cd_94 (pc : Nat) : jm_O := jm_lu cl_94_0 pc
theorem ok_94 (pc : Nat) : jm_pu (cd_94 pc) ∧ jm_snd "FrescoWall$Tape" prog_11_method_1_code 1 (Option.none : Option Jvm.ClassFile.FieldType) true pc (cd_94 pc) := jm_lu_ok _ gl_94_0 pc
def cd_95 (pc : Nat) : jm_O := jm_lu cl_95_0 pc
theorem ok_95 (pc : Nat) : jm_pu (cd_95 pc) ∧ jm_snd "FrescoWall$Tape" prog_11_method_2_code 2 (Option.none : Option Jvm.ClassFile.FieldType) false pc (cd_95 pc) := jm_lu_ok _ gl_95_0 pc
def cd_96 (pc : Nat) : jm_O := jm_lu cl_96_0 pc
theorem ok_96 (pc : Nat) : jm_pu (cd_96 pc) ∧ jm_snd "FrescoWall$Tape" prog_11_method_3_code 2 (Option.some Jvm.ClassFile.FieldType.int) false pc (cd_96 pc) := jm_lu_ok _ gl_96_0 pc
def cd_97 (pc : Nat) : jm_O := jm_lu cl_97_0 pc
theorem ok_97 (pc : Nat) : jm_pu (cd_97 pc) ∧ jm_snd "FrescoWall$Tape" prog_11_method_4_code 3 (Option.some Jvm.ClassFile.FieldType.int) false pc (cd_97 pc) := jm_lu_ok _ gl_97_0 pc
def cd_98 (pc : Nat) : jm_O := jm_lu cl_98_0 pc
theorem ok_98 (pc : Nat) : jm_pu (cd_98 pc) ∧ jm_snd "FrescoWall$Tape" prog_11_method_5_code 3 (Option.some Jvm.ClassFile.FieldType.boolean) false pc (cd_98 pc) := jm_lu_ok _ gl_98_0 pc
def cd_305 (pc : Nat) : jm_O := jm_lu cl_305_0 pc
theorem ok_305 (pc : Nat) : jm_pu (cd_305 pc) ∧ jm_snd "FrescoWall$Place" prog_8_method_2_code 3 (Option.some Jvm.ClassFile.FieldType.long) false pc (cd_305 pc) := jm_lu_ok _ gl_305_0 pc
def cd_306 (pc : Nat) : jm_O := jm_lu cl_306_0 pc
theorem ok_306 (pc : Nat) : jm_pu (cd_306 pc) ∧ jm_snd "FrescoWall$Place" prog_8_method_3_code 2 (Option.some Jvm.ClassFile.FieldType.int) false pc (cd_306 pc) := jm_lu_ok _ gl_306_0 pc
def cd_307 (pc : Nat) : jm_O := jm_lu cl_307_0 pc
theorem ok_307 (pc : Nat) : jm_pu (cd_307 pc) ∧ jm_snd "FrescoWall$Place" prog_8_method_4_code 2 (Option.some Jvm.ClassFile.FieldType.int) false pc (cd_307 pc) := jm_lu_ok _ gl_307_0 pc
def cd_308 (pc : Nat) : jm_O := jm_lu cl_308_0 pc
theorem ok_308 (pc : Nat) : jm_pu (cd_308 pc) ∧ jm_snd "FrescoWall$Place" prog_8_method_5_code 2 (Option.some Jvm.ClassFile.FieldType.int) false pc (cd_308 pc) := jm_lu_ok _ gl_308_0 pc
def cd_309 (pc : Nat) : jm_O := jm_lu cl_309_0 pc
theorem ok_309 (pc : Nat) : jm_pu (cd_309 pc) ∧ jm_snd "FrescoWall$Place" prog_8_method_6_code 3 (Option.some Jvm.ClassFile.FieldType.int) false pc (cd_309 pc) := jm_lu_ok _ gl_309_0 pc
def cd_310 (pc : Nat) : jm_O := jm_lu cl_310_0 pc
theorem ok_310 (pc : Nat) : jm_pu (cd_310 pc) ∧ jm_snd "FrescoWall$Place" prog_8_method_7_code 3 (Option.some Jvm.ClassFile.FieldType.int) false pc (cd_310 pc) := jm_lu_ok _ gl_310_0 pc
def cd_311 (pc : Nat) : jm_O := jm_lu cl_311_0 pc
theorem ok_311 (pc : Nat) : jm_pu (cd_311 pc) ∧ jm_snd "FrescoWall$Place" prog_8_method_8_code 3 (Option.some Jvm.ClassFile.FieldType.int) false pc (cd_311 pc) := jm_lu_ok _ gl_311_0 pc
def cd_312 (pc : Nat) : jm_O := jm_lu cl_312_0 pc
theorem ok_312 (pc : Nat) : jm_pu (cd_312 pc) ∧ jm_snd "FrescoWall$Place" prog_8_method_9_code 3 (Option.some Jvm.ClassFile.FieldType.int) false pc (cd_312 pc) := jm_lu_ok _ gl_312_0 pc
def cd_313 (pc : Nat) : jm_O := if pc < 49 then jm_lu cl_313_0 pc else jm_lu cl_313_1 pc
theorem ok_313 (pc : Nat) : jm_pu (cd_313 pc) ∧ jm_snd "FrescoWall$Place" prog_8_method_10_code 7 (Option.some Jvm.ClassFile.FieldType.long) false pc (cd_313 pc) := jm_if2 (jm_lu_ok _ gl_313_0 pc) (jm_lu_ok _ gl_313_1 pc)
def cd_314 (pc : Nat) : jm_O := jm_lu cl_314_0 pc
theorem ok_314 (pc : Nat) : jm_pu (cd_314 pc) ∧ jm_snd "FrescoWall$Place" prog_8_method_11_code 5 (Option.some Jvm.ClassFile.FieldType.long) false pc (cd_314 pc) := jm_lu_ok _ gl_314_0 pc
def cd_315 (pc : Nat) : jm_O := jm_lu cl_315_0 pc
theorem ok_315 (pc : Nat) : jm_pu (cd_315 pc) ∧ jm_snd "FrescoWall$Place" prog_8_method_12_code 4 (Option.some Jvm.ClassFile.FieldType.long) false pc (cd_315 pc) := jm_lu_ok _ gl_315_0 pc
def cd_316 (pc : Nat) : jm_O := jm_lu cl_316_0 pc
theorem ok_316 (pc : Nat) : jm_pu (cd_316 pc) ∧ jm_snd "FrescoWall$Place" prog_8_method_13_code 4 (Option.some Jvm.ClassFile.FieldType.long) false pc (cd_316 pc) := jm_lu_ok _ gl_316_0 pc
def cd_317 (pc : Nat) : jm_O := if pc < 33 then jm_lu cl_317_0 pc else jm_lu cl_317_1 pc
theorem ok_317 (pc : Nat) : jm_pu (cd_317 pc) ∧ jm_snd "java/lang/Integer" prog_16_method_49_code 1 (Option.some Jvm.ClassFile.FieldType.int) false pc (cd_317 pc) := jm_if2 (jm_lu_ok _ gl_317_0 pc) (jm_lu_ok _ gl_317_1 pc)
def cd_318 (pc : Nat) : jm_O := jm_lu cl_318_0 pc
theorem ok_318 (pc : Nat) : jm_pu (cd_318 pc) ∧ jm_snd "java/lang/Integer" prog_16_method_40_code 2 (Option.some Jvm.ClassFile.FieldType.int) false pc (cd_318 pc) := jm_lu_ok _ gl_318_0 pc
def cd_319 (pc : Nat) : jm_O := if pc < 35 then jm_lu cl_319_0 pc else if pc < 76 then jm_lu cl_319_1 pc else jm_lu cl_319_2 pc
theorem ok_319 (pc : Nat) : jm_pu (cd_319 pc) ∧ jm_snd "java/lang/Integer" prog_16_method_48_code 2 (Option.some Jvm.ClassFile.FieldType.int) false pc (cd_319 pc) := jm_if2 (jm_lu_ok _ gl_319_0 pc) (jm_if2 (jm_lu_ok _ gl_319_1 pc) (jm_lu_ok _ gl_319_2 pc))
def cd_320 (pc : Nat) : jm_O := if pc < 33 then jm_lu cl_320_0 pc else jm_lu cl_320_1 pc
theorem ok_320 (pc : Nat) : jm_pu (cd_320 pc) ∧ jm_snd "java/lang/Long" prog_17_method_50_code 2 (Option.some Jvm.ClassFile.FieldType.int) false pc (cd_320 pc) := jm_if2 (jm_lu_ok _ gl_320_0 pc) (jm_lu_ok _ gl_320_1 pc)
