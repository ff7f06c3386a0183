theorem ic_m100001 : (-100001 : Int32) = Int32.ofInt (-100001) := by decide +kernel
theorem ic_m100000 : (-100000 : Int32) = Int32.ofInt (-100000) := by decide +kernel
theorem ic_m500 : (-500 : Int32) = Int32.ofInt (-500) := by decide +kernel
theorem ic_m40 : (-40 : Int32) = Int32.ofInt (-40) := by decide +kernel
theorem ic_m10 : (-10 : Int32) = Int32.ofInt (-10) := by decide +kernel
theorem ic_m5 : (-5 : Int32) = Int32.ofInt (-5) := by decide +kernel
theorem ic_m4 : (-4 : Int32) = Int32.ofInt (-4) := by decide +kernel
theorem ic_m3 : (-3 : Int32) = Int32.ofInt (-3) := by decide +kernel
theorem ic_m2 : (-2 : Int32) = Int32.ofInt (-2) := by decide +kernel
theorem ic_m1 : (-1 : Int32) = Int32.ofInt (-1) := by decide +kernel
theorem ic_0 : (0 : Int32) = Int32.ofInt (0) := by decide +kernel
theorem ic_1 : (1 : Int32) = Int32.ofInt (1) := by decide +kernel
theorem ic_2 : (2 : Int32) = Int32.ofInt (2) := by decide +kernel
theorem ic_3 : (3 : Int32) = Int32.ofInt (3) := by decide +kernel
theorem ic_4 : (4 : Int32) = Int32.ofInt (4) := by decide +kernel
theorem ic_5 : (5 : Int32) = Int32.ofInt (5) := by decide +kernel
theorem ic_6 : (6 : Int32) = Int32.ofInt (6) := by decide +kernel
theorem ic_7 : (7 : Int32) = Int32.ofInt (7) := by decide +kernel
theorem ic_8 : (8 : Int32) = Int32.ofInt (8) := by decide +kernel
theorem ic_9 : (9 : Int32) = Int32.ofInt (9) := by decide +kernel
theorem ic_10 : (10 : Int32) = Int32.ofInt (10) := by decide +kernel
theorem ic_16 : (16 : Int32) = Int32.ofInt (16) := by decide +kernel
theorem ic_20 : (20 : Int32) = Int32.ofInt (20) := by decide +kernel
theorem ic_22 : (22 : Int32) = Int32.ofInt (22) := by decide +kernel
theorem ic_30 : (30 : Int32) = Int32.ofInt (30) := by decide +kernel
theorem ic_32 : (32 : Int32) = Int32.ofInt (32) := by decide +kernel
theorem ic_33 : (33 : Int32) = Int32.ofInt (33) := by decide +kernel
theorem ic_38 : (38 : Int32) = Int32.ofInt (38) := by decide +kernel
theorem ic_40 : (40 : Int32) = Int32.ofInt (40) := by decide +kernel
theorem ic_41 : (41 : Int32) = Int32.ofInt (41) := by decide +kernel
theorem ic_44 : (44 : Int32) = Int32.ofInt (44) := by decide +kernel
theorem ic_45 : (45 : Int32) = Int32.ofInt (45) := by decide +kernel
theorem ic_46 : (46 : Int32) = Int32.ofInt (46) := by decide +kernel
theorem ic_47 : (47 : Int32) = Int32.ofInt (47) := by decide +kernel
theorem ic_48 : (48 : Int32) = Int32.ofInt (48) := by decide +kernel
theorem ic_57 : (57 : Int32) = Int32.ofInt (57) := by decide +kernel
theorem ic_58 : (58 : Int32) = Int32.ofInt (58) := by decide +kernel
theorem ic_59 : (59 : Int32) = Int32.ofInt (59) := by decide +kernel
theorem ic_60 : (60 : Int32) = Int32.ofInt (60) := by decide +kernel
theorem ic_61 : (61 : Int32) = Int32.ofInt (61) := by decide +kernel
theorem ic_62 : (62 : Int32) = Int32.ofInt (62) := by decide +kernel
theorem ic_63 : (63 : Int32) = Int32.ofInt (63) := by decide +kernel
theorem ic_64 : (64 : Int32) = Int32.ofInt (64) := by decide +kernel
theorem ic_98 : (98 : Int32) = Int32.ofInt (98) := by decide +kernel
theorem ic_99 : (99 : Int32) = Int32.ofInt (99) := by decide +kernel
theorem ic_100 : (100 : Int32) = Int32.ofInt (100) := by decide +kernel
theorem ic_101 : (101 : Int32) = Int32.ofInt (101) := by decide +kernel
theorem ic_102 : (102 : Int32) = Int32.ofInt (102) := by decide +kernel
theorem ic_103 : (103 : Int32) = Int32.ofInt (103) := by decide +kernel
theorem ic_104 : (104 : Int32) = Int32.ofInt (104) := by decide +kernel
theorem ic_105 : (105 : Int32) = Int32.ofInt (105) := by decide +kernel
theorem ic_106 : (106 : Int32) = Int32.ofInt (106) := by decide +kernel
theorem ic_107 : (107 : Int32) = Int32.ofInt (107) := by decide +kernel
theorem ic_108 : (108 : Int32) = Int32.ofInt (108) := by decide +kernel
theorem ic_109 : (109 : Int32) = Int32.ofInt (109) := by decide +kernel
theorem ic_110 : (110 : Int32) = Int32.ofInt (110) := by decide +kernel
theorem ic_111 : (111 : Int32) = Int32.ofInt (111) := by decide +kernel
theorem ic_112 : (112 : Int32) = Int32.ofInt (112) := by decide +kernel
theorem ic_113 : (113 : Int32) = Int32.ofInt (113) := by decide +kernel
theorem ic_114 : (114 : Int32) = Int32.ofInt (114) := by decide +kernel
theorem ic_115 : (115 : Int32) = Int32.ofInt (115) := by decide +kernel
theorem ic_116 : (116 : Int32) = Int32.ofInt (116) := by decide +kernel
theorem ic_117 : (117 : Int32) = Int32.ofInt (117) := by decide +kernel
theorem ic_118 : (118 : Int32) = Int32.ofInt (118) := by decide +kernel
theorem ic_119 : (119 : Int32) = Int32.ofInt (119) := by decide +kernel
theorem ic_124 : (124 : Int32) = Int32.ofInt (124) := by decide +kernel
theorem ic_127 : (127 : Int32) = Int32.ofInt (127) := by decide +kernel
theorem ic_128 : (128 : Int32) = Int32.ofInt (128) := by decide +kernel
theorem ic_240 : (240 : Int32) = Int32.ofInt (240) := by decide +kernel
theorem ic_255 : (255 : Int32) = Int32.ofInt (255) := by decide +kernel
theorem ic_256 : (256 : Int32) = Int32.ofInt (256) := by decide +kernel
theorem ic_484 : (484 : Int32) = Int32.ofInt (484) := by decide +kernel
theorem ic_500 : (500 : Int32) = Int32.ofInt (500) := by decide +kernel
theorem ic_999 : (999 : Int32) = Int32.ofInt (999) := by decide +kernel
theorem ic_1000 : (1000 : Int32) = Int32.ofInt (1000) := by decide +kernel
theorem ic_1024 : (1024 : Int32) = Int32.ofInt (1024) := by decide +kernel
theorem ic_65536 : (65536 : Int32) = Int32.ofInt (65536) := by decide +kernel
theorem ic_524288 : (524288 : Int32) = Int32.ofInt (524288) := by decide +kernel
theorem ic_252645135 : (252645135 : Int32) = Int32.ofInt (252645135) := by decide +kernel
theorem ic_858993459 : (858993459 : Int32) = Int32.ofInt (858993459) := by decide +kernel
theorem ic_1431655765 : (1431655765 : Int32) = Int32.ofInt (1431655765) := by decide +kernel
noncomputable def ca_holds (g : gm_T) (a1 : Int) : Option (Int) :=
    if (zA (zSr (gm_I g 27 8) a1) 1) = 0 then
    (some 0)
    else
    (some 1)
noncomputable def jd_bitCount (g : gm_T) (a0 : Int) : Option (Int) :=
    jl ((a0 - (zA (zSu a0 1) 1431655765))) fun (v1 : Int) =>
    jl (((zA v1 858993459) + (zA (zSu v1 2) 858993459))) fun (v2 : Int) =>
    jl ((zA (v2 + (zSu v2 4)) 252645135)) fun (v3 : Int) =>
    jl ((v3 + (zSu v3 8))) fun (v4 : Int) =>
    jl ((v4 + (zSu v4 16))) fun (v5 : Int) =>
    some (zA v5 63)
noncomputable def ca_placeOf (g : gm_T) (a1 : Int) : Option (Int64) :=
    jb1 (jd_bitCount g (zA (gm_I g 27 8) ((zSl 1 a1) - 1))) fun (v1 : Int) =>
    jg (rg v1)
    (if v1 = 0 then
    (some 549756338176)
    else
    (if v1 = 1 then
    (some (gm_J g 27 9))
    else
    (some (gm_J g 27 10))))
noncomputable def jd_numberOfTrailingZeros (g : gm_T) (a0 : Int) : Option (Int) :=
    jl ((zA (zX a0 (-1)) (a0 - 1))) fun (v1 : Int) =>
    jg (rg v1)
    (if v1 ≤ 0 then
    (some (zA v1 32))
    else
    (jb2 (
    if v1 ≤ 65536 then
    (some (v1, 1))
    else
    (jl ((zSu v1 16)) fun (v6 : Int) =>
    some (v6, (1 + 16)))) fun (v3 : Int) (v4 : Int) =>
    jb2 (
    jg (rg v3)
    (if v3 ≤ 256 then
    (some (v3, v4))
    else
    (jl ((zSu v3 8)) fun (v11 : Int) =>
    some (v11, (v4 + 8))))) fun (v7 : Int) (v8 : Int) =>
    jb2 (
    jg (rg v7)
    (if v7 ≤ 16 then
    (some (v7, v8))
    else
    (jl ((zSu v7 4)) fun (v16 : Int) =>
    some (v16, (v8 + 4))))) fun (v12 : Int) (v13 : Int) =>
    jg (rg v12)
    (if v12 ≤ 4 then
    (some (v13 + (zSu v12 1)))
    else
    (jl ((zSu v12 2)) fun (v19 : Int) =>
    some ((v13 + 2) + (zSu v19 1))))))
noncomputable def cb_next (g : gm_T) (i0 : Nat) (a1 : Int) : Option (Int) :=
    jg (rg (a1 + 1) ∧ rg (gm_I g (bA i0) 3))
    (if (a1 + 1) < (gm_I g (bA i0) 3) then
    (some (a1 + 1))
    else
    (some 0))
noncomputable def cb_turnFor (g : gm_T) (i0 : Nat) (a1 : Int) (i2 : Nat) (a3 : Int) : Option (Int) :=
    jb1 (cb_next g i0 a1) fun (v1 : Int) =>
    jb1 (cb_next g i2 a3) fun (v2 : Int) =>
    jg (0 ≤ a1 ∧ a1 < 8)
    (jg (0 ≤ v1 ∧ v1 < 8)
    (jl (((gm_I g (bA i0 + 2) a1.toNat) - (gm_I g (bA i0 + 2) v1.toNat))) fun (v5 : Int) =>
    jl (((gm_I g (bA i0 + 3) a1.toNat) - (gm_I g (bA i0 + 3) v1.toNat))) fun (v6 : Int) =>
    jg (0 ≤ v2 ∧ v2 < 8)
    (jg (0 ≤ a3 ∧ a3 < 8)
    (jl (((gm_I g (bA i2 + 2) v2.toNat) - (gm_I g (bA i2 + 2) a3.toNat))) fun (v9 : Int) =>
    jl (((gm_I g (bA i2 + 3) v2.toNat) - (gm_I g (bA i2 + 3) a3.toNat))) fun (v10 : Int) =>
    jg (rg v9 ∧ rg v5)
    (if v9 = v5 then
    (jg (rg v10 ∧ rg v6)
    (if v10 = v6 then
    (some 0)
    else
    (jg (rg (-v10))
    (if (-v10) = v5 then
    (if v9 = v6 then
    (some 1)
    else
    (jg (rg (-v9))
    (if (-v9) = v5 then
    (if (-v10) = v6 then
    (some 2)
    else
    (if v10 = v5 then
    (if (-v9) = v6 then
    (some 3)
    else
    (some (-1)))
    else
    (some (-1))))
    else
    (if v10 = v5 then
    (if (-v9) = v6 then
    (some 3)
    else
    (some (-1)))
    else
    (some (-1))))))
    else
    (jg (rg (-v9))
    (if (-v9) = v5 then
    (if (-v10) = v6 then
    (some 2)
    else
    (if v10 = v5 then
    (if (-v9) = v6 then
    (some 3)
    else
    (some (-1)))
    else
    (some (-1))))
    else
    (if v10 = v5 then
    (if (-v9) = v6 then
    (some 3)
    else
    (some (-1)))
    else
    (some (-1)))))))))
    else
    (jg (rg (-v10))
    (if (-v10) = v5 then
    (jg (rg v6)
    (if v9 = v6 then
    (some 1)
    else
    (jg (rg (-v9))
    (if (-v9) = v5 then
    (if (-v10) = v6 then
    (some 2)
    else
    (jg (rg v10)
    (if v10 = v5 then
    (if (-v9) = v6 then
    (some 3)
    else
    (some (-1)))
    else
    (some (-1)))))
    else
    (jg (rg v10)
    (if v10 = v5 then
    (if (-v9) = v6 then
    (some 3)
    else
    (some (-1)))
    else
    (some (-1))))))))
    else
    (jg (rg (-v9))
    (if (-v9) = v5 then
    (jg (rg v6)
    (if (-v10) = v6 then
    (some 2)
    else
    (jg (rg v10)
    (if v10 = v5 then
    (if (-v9) = v6 then
    (some 3)
    else
    (some (-1)))
    else
    (some (-1))))))
    else
    (jg (rg v10)
    (if v10 = v5 then
    (jg (rg v6)
    (if (-v9) = v6 then
    (some 3)
    else
    (some (-1))))
    else
    (some (-1)))))))))))))
noncomputable def cc_turnedX (g : gm_T) (a0 : Int) (a1 : Int) (a2 : Int) : Option (Int) :=
    if (zA a0 3) = 0 then
    (some a1)
    else
    (if (zA a0 3) = 1 then
    (some (-a2))
    else
    (if (zA a0 3) = 2 then
    (some (-a1))
    else
    (some a2)))
noncomputable def cc_turnedY (g : gm_T) (a0 : Int) (a1 : Int) (a2 : Int) : Option (Int) :=
    if (zA a0 3) = 0 then
    (some a2)
    else
    (if (zA a0 3) = 1 then
    (some a1)
    else
    (if (zA a0 3) = 2 then
    (some (-a2))
    else
    (some (-a1))))
noncomputable def je_bitCount (g : gm_T) (a0 : Int64) : Option (Int) :=
    jl ((a0 - ((lSu a0 1) &&& 6148914691236517205))) fun (v1 : Int64) =>
    jl (((v1 &&& 3689348814741910323) + ((lSu v1 2) &&& 3689348814741910323))) fun (v2 : Int64) =>
    jl (((v2 + (lSu v2 4)) &&& 1085102592571150095)) fun (v3 : Int64) =>
    jl ((v3 + (lSu v3 8))) fun (v4 : Int64) =>
    jl ((v4 + (lSu v4 16))) fun (v5 : Int64) =>
    jl ((v5 + (lSu v5 32))) fun (v6 : Int64) =>
    some (zA (lI v6) 127)
noncomputable def cb_common_l53 (g : gm_T) (i6 : Nat) (c8 : Int) (i9 : Nat) (c11 : Int) (c12 : Int) (c13 : Int) (c15 : Int) : Nat → Int → Int → Option (Int)
  | 0, _, _ => none
  | fuel + 1, v14, v16 =>
    jg (rg v16 ∧ rg c15)
    (if v16 < c15 then
    (jg (0 ≤ (((c11 * 40) + v16) - c13) ∧ (((c11 * 40) + v16) - c13) < 160)
    (jl ((gm_J g (bA i9 + 1) ((((c11 * 40) + v16) - c13)).toNat)) fun (v25 : Int64) =>
    jb1 (
    jg (rg c12)
    (if c12 < 0 then
    (some (lSu v25 (-c12)))
    else
    (some (lSl v25 c12)))) fun (v26 : Int64) =>
    jg (0 ≤ ((c8 * 40) + v16) ∧ ((c8 * 40) + v16) < 160)
    (jb1 (je_bitCount g ((gm_J g (bA i6 + 1) (((c8 * 40) + v16)).toNat) &&& v26)) fun (v29 : Int) =>
    jl ((v14 + v29)) fun (v30 : Int) =>
    cb_common_l53 g i6 c8 i9 c11 c12 c13 c15 fuel v30 (v16 + 1))))
    else
    (some v14))
noncomputable def cb_common (g : gm_T) (i0 : Nat) (a1 : Int) (i2 : Nat) (a3 : Int) (a4 : Int) (a5 : Int) : Option (Int) :=
    jg (rg a4)
    (if a4 ≤ (-40) then
    (some 0)
    else
    (if a4 < 40 then
    (jg (rg a5)
    (if a5 ≤ (-40) then
    (some 0)
    else
    (if a5 < 40 then
    (jg (rg (40 + a5))
    (jl ((zmin 40 (40 + a5))) fun (v4 : Int) =>
    jl ((zmax 0 a5)) fun (v5 : Int) =>
    jb1 (cb_common_l53 g i0 a1 i2 a3 a4 a5 v4 fz 0 v5) fun (v32 : Int) =>
    some v32))
    else
    (some 0))))
    else
    (some 0)))
noncomputable def cc_of (g : gm_T) (a0 : Int) (a1 : Int) (a2 : Int) : Option (Int64) :=
    some (((lSl (iL (zA a0 3)) 40) ||| (lSl ((iL (a1 + 524288)) &&& 1048575) 20)) ||| ((iL (a2 + 524288)) &&& 1048575))
noncomputable def cf_fitting (n : Nat) (g : gm_T) (a1 : Int) (a2 : Int) (a3 : Int) (a4 : Int) : Option (Int64) :=
    jg (0 ≤ a1 ∧ a1 < (n : Int))
    (jg (0 ≤ a3 ∧ a3 < (n : Int))
    (jb1 (
    jg (rg a1 ∧ rg a3)
    (if a1 = a3 then
    (some (-1))
    else
    (jg (rg (gm_I g (bA a1.toNat) 2) ∧ rg (gm_I g (bA a3.toNat) 2))
    (if (gm_I g (bA a1.toNat) 2) = (gm_I g (bA a3.toNat) 2) then
    (jb1 (cb_turnFor g a1.toNat a2 a3.toNat a4) fun (v6 : Int) =>
    some v6)
    else
    (some (-1)))))) fun (v3 : Int) =>
    jg (rg v3)
    (if v3 < 0 then
    (some (-1))
    else
    (jb1 (cb_next g a1.toNat a2) fun (v8 : Int) =>
    jg (0 ≤ v8 ∧ v8 < 8)
    (jg (0 ≤ a4 ∧ a4 < 8)
    (jb1 (cc_turnedX g v3 (gm_I g (bA a3.toNat + 2) a4.toNat) (gm_I g (bA a3.toNat + 3) a4.toNat)) fun (v11 : Int) =>
    jl (((gm_I g (bA a1.toNat + 2) v8.toNat) - v11)) fun (v12 : Int) =>
    jb1 (cc_turnedY g v3 (gm_I g (bA a3.toNat + 2) a4.toNat) (gm_I g (bA a3.toNat + 3) a4.toNat)) fun (v13 : Int) =>
    jl (((gm_I g (bA a1.toNat + 3) v8.toNat) - v13)) fun (v14 : Int) =>
    jb1 (cb_common g a1.toNat 0 a3.toNat v3 v12 v14) fun (v15 : Int) =>
    jg (rg v15 ∧ rg (gm_I g 10 2))
    (if v15 ≤ (gm_I g 10 2) then
    (jb1 (cc_of g v3 v12 v14) fun (v17 : Int64) =>
    some v17)
    else
    (some (-1)))))))))
noncomputable def cc_turn (g : gm_T) (a0 : Int64) : Option (Int) :=
    some (zA (lI (lSr a0 40)) 3)
noncomputable def cf_scoreOf (n : Nat) (g : gm_T) (a1 : Int) (a2 : Int) (a3 : Int) (a4 : Int) (a5 : Int) : Option (Int) :=
    jg (0 ≤ a1 ∧ a1 < (n : Int))
    (jg (0 ≤ a3 ∧ a3 < (n : Int))
    (jg (0 ≤ a2 ∧ a2 < 8)
    (jg (0 ≤ a4 ∧ a4 < 8)
    (jg (0 ≤ ((10 * (gm_I g (bA a1.toNat + 4) a2.toNat)) + (gm_I g (bA a3.toNat + 4) a4.toNat)) ∧ ((10 * (gm_I g (bA a1.toNat + 4) a2.toNat)) + (gm_I g (bA a3.toNat + 4) a4.toNat)) < 100)
    (jl ((2 * (gm_I g 12 (((10 * (gm_I g (bA a1.toNat + 4) a2.toNat)) + (gm_I g (bA a3.toNat + 4) a4.toNat))).toNat))) fun (v6 : Int) =>
    jg (rg ((gm_I g (bA a1.toNat) 0) - (gm_I g (bA a3.toNat) 0)))
    (jg (rg (9 - (zabs ((gm_I g (bA a1.toNat) 0) - (gm_I g (bA a3.toNat) 0)))))
    (jl ((v6 + (zmax 0 (9 - (zabs ((gm_I g (bA a1.toNat) 0) - (gm_I g (bA a3.toNat) 0))))))) fun (v9 : Int) =>
    jg (rg (gm_I g (bA a1.toNat) 1))
    (if (gm_I g (bA a1.toNat) 1) < 0 then
    (some v9)
    else
    (jg (rg (gm_I g (bA a3.toNat) 1))
    (if (gm_I g (bA a3.toNat) 1) < 0 then
    (some v9)
    else
    (if (gm_I g (bA a1.toNat) 1) = (zA ((gm_I g (bA a3.toNat) 1) + (2 * a5)) 3) then
    (some (v9 + 5))
    else
    (some v9))))))))))))
noncomputable def ca_indexOf_l10 (g : gm_T) (c2 : Int) (c3 : Int64) (c4 : Int) : Nat → Int → Option (Int)
  | 0, _ => none
  | fuel + 1, v5 =>
    jg (0 ≤ c2 ∧ c2 < 3)
    (jg (rg v5 ∧ rg (c4 + (gm_I g 30 c2.toNat)))
    (if v5 < (c4 + (gm_I g 30 c2.toNat)) then
    (jg (0 ≤ v5 ∧ v5 < 192)
    (if (lC (gm_J g 28 v5.toNat) c3) = 0 then
    (some v5)
    else
    (ca_indexOf_l10 g c2 c3 c4 fuel (v5 + 1))))
    else
    (some (-1))))
noncomputable def ca_indexOf (g : gm_T) (a1 : Int) (a2 : Int64) : Option (Int) :=
    jl ((a1 * 64)) fun (v1 : Int) =>
    ca_indexOf_l10 g a1 a2 v1 fz v1
noncomputable def ca_enlist (g : gm_T) (a1 : Int) (a2 : Int64) (a4 : Int) : Option (gm_T) :=
    jb1 (ca_indexOf g a1 a2) fun (v1 : Int) =>
    jb2 (
    jg (rg v1)
    (if v1 < 0 then
    (jg (0 ≤ a1 ∧ a1 < 3)
    (jl (((a1 * 64) + (gm_I g 30 a1.toNat))) fun (v6 : Int) =>
    jg (0 ≤ v6 ∧ v6 < 192)
    (jl (gm_wJ g 28 v6.toNat a2) fun (g7 : gm_T) =>
    jl (gm_wI g7 29 v6.toNat 0) fun (g9 : gm_T) =>
    jl (gm_wI g9 30 a1.toNat ((gm_I g9 30 a1.toNat) + 1)) fun (g10 : gm_T) =>
    some (v6, g10))))
    else
    (some (v1, g)))) fun (v2 : Int) (g3 : gm_T) =>
    jg (0 ≤ v2 ∧ v2 < 192)
    (jl (gm_wI g3 29 v2.toNat ((gm_I g3 29 v2.toNat) + a4)) fun (g12 : gm_T) =>
    some g12)
noncomputable def ca_list_l30 (n : Nat) (c16 : Int) (c17 : Int) (c18 : Int) (c19 : Int) : Nat → Int → gm_T → Option (gm_T)
  | 0, _, _ => none
  | fuel + 1, v20, g22 =>
    jg (0 ≤ c18 ∧ c18 < (n : Int))
    (jg (rg v20 ∧ rg (gm_I g22 (bA c18.toNat) 3))
    (if v20 < (gm_I g22 (bA c18.toNat) 3) then
    (jb1 (cf_fitting n g22 c17 c19 c18 v20) fun (v28 : Int64) =>
    if (lC v28 0) < 0 then
    (ca_list_l30 n c16 c17 c18 c19 fuel (v20 + 1) g22)
    else
    (jb1 (cc_turn g22 v28) fun (v30 : Int) =>
    jb1 (cf_scoreOf n g22 c17 c19 c18 v20 v30) fun (v31 : Int) =>
    jb1 (ca_enlist g22 c16 v28 v31) fun (g32 : gm_T) =>
    ca_list_l30 n c16 c17 c18 c19 fuel (v20 + 1) g32))
    else
    (some g22)))
noncomputable def ca_list_l10 (n : Nat) (c3 : Int) (c4 : Int) (c5 : Int) : Nat → Int → gm_T → Option (gm_T)
  | 0, _, _ => none
  | fuel + 1, v6, g9 =>
    jg (0 ≤ c4 ∧ c4 < (n : Int))
    (jg (rg v6 ∧ rg (gm_I g9 (bA c4.toNat) 3))
    (if v6 < (gm_I g9 (bA c4.toNat) 3) then
    (jb1 (ca_list_l30 n c3 c4 c5 v6 fz 0 g9) fun (g36 : gm_T) =>
    ca_list_l10 n c3 c4 c5 fuel (v6 + 1) g36)
    else
    (some g9)))
noncomputable def ca_list (n : Nat) (g : gm_T) (a1 : Int) (a2 : Int) (a3 : Int) : Option (gm_T) :=
    jg (0 ≤ a1 ∧ a1 < 3)
    (jl (gm_wI g 30 a1.toNat 0) fun (g1 : gm_T) =>
    jb1 (ca_list_l10 n a1 a2 a3 fz 0 g1) fun (g41 : gm_T) =>
    some g41)
noncomputable def ca_isBetter (g : gm_T) (a1 : Int) (a2 : Int64) (a4 : Int64) : Option (Int) :=
    jg (rg a1 ∧ rg (gm_I g 27 7))
    (if a1 = (gm_I g 27 7) then
    (if (lC a2 (gm_J g 27 5)) < 0 then
    (some 1)
    else
    (if (lC a2 (gm_J g 27 5)) = 0 then
    (if (lC a4 (gm_J g 27 6)) < 0 then
    (some 1)
    else
    (some 0))
    else
    (some 0)))
    else
    (if a1 ≤ (gm_I g 27 7) then
    (some 0)
    else
    (some 1)))
noncomputable def ca_offer (g : gm_T) (a1 : Int) (a2 : Int64) (a4 : Int64) : Option (gm_T) :=
    jb1 (ca_isBetter g a1 a2 a4) fun (v1 : Int) =>
    jg (rg v1)
    (if v1 = 0 then
    (some g)
    else
    (jl (gm_wI g 27 7 a1) fun (g3 : gm_T) =>
    jl (gm_wJ g3 27 5 a2) fun (g4 : gm_T) =>
    jl (gm_wJ g4 27 6 a4) fun (g5 : gm_T) =>
    some g5))
noncomputable def ca_solveTwo_l2  : Nat → Int → gm_T → Option (gm_T)
  | 0, _, _ => none
  | fuel + 1, v1, g2 =>
    jg (rg v1 ∧ rg (gm_I g2 30 0))
    (if v1 < (gm_I g2 30 0) then
    (jg (0 ≤ v1 ∧ v1 < 192)
    (jb1 (ca_offer g2 (gm_I g2 29 v1.toNat) (gm_J g2 28 v1.toNat) 549756338176) fun (g7 : gm_T) =>
    ca_solveTwo_l2  fuel (v1 + 1) g7))
    else
    (some g2))
noncomputable def ca_solveTwo (g : gm_T)  : Option (gm_T) :=
    jb1 (ca_solveTwo_l2  fz 0 g) fun (g10 : gm_T) =>
    some g10
noncomputable def cc_x (g : gm_T) (a0 : Int64) : Option (Int) :=
    some ((lI ((lSr a0 20) &&& 1048575)) - 524288)
noncomputable def cc_y (g : gm_T) (a0 : Int64) : Option (Int) :=
    some ((lI (a0 &&& 1048575)) - 524288)
noncomputable def cc_inverse (g : gm_T) (a0 : Int64) : Option (Int64) :=
    jb1 (cc_turn g a0) fun (v1 : Int) =>
    jl ((4 - v1)) fun (v2 : Int) =>
    jb1 (cc_x g a0) fun (v3 : Int) =>
    jl ((-v3)) fun (v4 : Int) =>
    jb1 (cc_y g a0) fun (v5 : Int) =>
    jl ((-v5)) fun (v6 : Int) =>
    jb1 (cc_turnedX g v2 v4 v6) fun (v7 : Int) =>
    jb1 (cc_turnedY g v2 v4 v6) fun (v8 : Int) =>
    jb1 (cc_of g v2 v7 v8) fun (v9 : Int64) =>
    some v9
noncomputable def cc_onto (g : gm_T) (a0 : Int64) (a2 : Int64) : Option (Int64) :=
    jb1 (cc_turn g a0) fun (v1 : Int) =>
    jb1 (cc_x g a2) fun (v2 : Int) =>
    jb1 (cc_y g a2) fun (v3 : Int) =>
    jb1 (cc_turn g a2) fun (v4 : Int) =>
    jb1 (cc_turnedX g v1 v2 v3) fun (v5 : Int) =>
    jb1 (cc_x g a0) fun (v6 : Int) =>
    jb1 (cc_turnedY g v1 v2 v3) fun (v7 : Int) =>
    jb1 (cc_y g a0) fun (v8 : Int) =>
    jb1 (cc_of g (v1 + v4) (v5 + v6) (v7 + v8)) fun (v9 : Int64) =>
    some v9
noncomputable def cc_against (g : gm_T) (a0 : Int64) (a2 : Int64) : Option (Int64) :=
    jb1 (cc_inverse g a0) fun (v1 : Int64) =>
    jb1 (cc_onto g v1 a2) fun (v2 : Int64) =>
    some v2
noncomputable def ca_worthAt (g : gm_T) (a1 : Int) : Option (Int) :=
    jg (rg a1)
    (if a1 < 0 then
    (some 0)
    else
    (jg (0 ≤ a1 ∧ a1 < 192)
    (some (gm_I g 29 a1.toNat))))
noncomputable def cf_collide (n : Nat) (g : gm_T) (a1 : Int) (a2 : Int64) (a4 : Int) (a5 : Int64) : Option (Int) :=
    jb1 (cc_x g a5) fun (v1 : Int) =>
    jb1 (cc_x g a2) fun (v2 : Int) =>
    jl ((v1 - v2)) fun (v3 : Int) =>
    jb1 (cc_y g a5) fun (v4 : Int) =>
    jb1 (cc_y g a2) fun (v5 : Int) =>
    jl ((v4 - v5)) fun (v6 : Int) =>
    jg (0 ≤ a1 ∧ a1 < (n : Int))
    (jb1 (cc_turn g a2) fun (v8 : Int) =>
    jg (0 ≤ a4 ∧ a4 < (n : Int))
    (jb1 (cc_turn g a5) fun (v10 : Int) =>
    jb1 (cb_common g a1.toNat v8 a4.toNat v10 v3 v6) fun (v11 : Int) =>
    jg (rg v11 ∧ rg (gm_I g 10 2))
    (if v11 ≤ (gm_I g 10 2) then
    (some 0)
    else
    (some 1))))
noncomputable def ca_consider (n : Nat) (g : gm_T) (a1 : Int64) (a3 : Int64) : Option (gm_T) :=
    jb1 (ca_indexOf g 0 a1) fun (v1 : Int) =>
    jb1 (ca_indexOf g 1 a3) fun (v2 : Int) =>
    jb1 (cc_against g a1 a3) fun (v3 : Int64) =>
    jb1 (ca_indexOf g 2 v3) fun (v4 : Int) =>
    jb1 (ca_worthAt g v1) fun (v5 : Int) =>
    jb1 (ca_worthAt g v2) fun (v6 : Int) =>
    jb1 (ca_worthAt g v4) fun (v7 : Int) =>
    jl (((v5 + v6) + v7)) fun (v8 : Int) =>
    jb1 (ca_isBetter g v8 a1 a3) fun (v9 : Int) =>
    jg (rg v9)
    (if v9 = 0 then
    (some g)
    else
    (jb1 (
    jg (rg v1)
    (if v1 < 0 then
    (jb1 (cf_collide n g (gm_I g 31 0) 549756338176 (gm_I g 31 1) a1) fun (v13 : Int) =>
    jg (rg v13)
    (if v13 = 0 then
    (jg (rg v2)
    (if v2 < 0 then
    (jb1 (cf_collide n g (gm_I g 31 0) 549756338176 (gm_I g 31 2) a3) fun (v16 : Int) =>
    jg (rg v16)
    (if v16 = 0 then
    (jg (rg v4)
    (if v4 < 0 then
    (jb1 (cf_collide n g (gm_I g 31 1) a1 (gm_I g 31 2) a3) fun (v19 : Int) =>
    jg (rg v19)
    (if v19 = 0 then
    (some 0)
    else
    (some 1)))
    else
    (some 0)))
    else
    (some 1)))
    else
    (jg (rg v4)
    (if v4 < 0 then
    (jb1 (cf_collide n g (gm_I g 31 1) a1 (gm_I g 31 2) a3) fun (v22 : Int) =>
    jg (rg v22)
    (if v22 = 0 then
    (some 0)
    else
    (some 1)))
    else
    (some 0)))))
    else
    (some 1)))
    else
    (jg (rg v2)
    (if v2 < 0 then
    (jb1 (cf_collide n g (gm_I g 31 0) 549756338176 (gm_I g 31 2) a3) fun (v25 : Int) =>
    jg (rg v25)
    (if v25 = 0 then
    (jg (rg v4)
    (if v4 < 0 then
    (jb1 (cf_collide n g (gm_I g 31 1) a1 (gm_I g 31 2) a3) fun (v28 : Int) =>
    jg (rg v28)
    (if v28 = 0 then
    (some 0)
    else
    (some 1)))
    else
    (some 0)))
    else
    (some 1)))
    else
    (jg (rg v4)
    (if v4 < 0 then
    (jb1 (cf_collide n g (gm_I g 31 1) a1 (gm_I g 31 2) a3) fun (v31 : Int) =>
    jg (rg v31)
    (if v31 = 0 then
    (some 0)
    else
    (some 1)))
    else
    (some 0))))))) fun (v11 : Int) =>
    jg (rg v11)
    (if v11 = 0 then
    (jb1 (ca_offer g v8 a1 a3) fun (g34 : gm_T) =>
    some g34)
    else
    (some g))))
noncomputable def ca_solveThree_l14 (n : Nat) (c8 : Int) : Nat → Int → gm_T → Option (gm_T)
  | 0, _, _ => none
  | fuel + 1, v9, g10 =>
    jg (rg v9 ∧ rg (gm_I g10 30 1))
    (if v9 < (gm_I g10 30 1) then
    (jg (0 ≤ c8 ∧ c8 < 192)
    (jg (0 ≤ (64 + v9) ∧ (64 + v9) < 192)
    (jb1 (ca_consider n g10 (gm_J g10 28 c8.toNat) (gm_J g10 28 ((64 + v9)).toNat)) fun (g16 : gm_T) =>
    ca_solveThree_l14 n c8 fuel (v9 + 1) g16)))
    else
    (some g10))
noncomputable def ca_solveThree_l2 (n : Nat)  : Nat → Int → gm_T → Option (gm_T)
  | 0, _, _ => none
  | fuel + 1, v1, g3 =>
    jg (rg v1 ∧ rg (gm_I g3 30 0))
    (if v1 < (gm_I g3 30 0) then
    (jb1 (ca_solveThree_l14 n v1 fz 0 g3) fun (g19 : gm_T) =>
    ca_solveThree_l2 n  fuel (v1 + 1) g19)
    else
    (some g3))
noncomputable def ca_solveThree_l87 (n : Nat) (c40 : Int) (c41 : Int64) (c42 : Int64) : Nat → Int → gm_T → Option (gm_T)
  | 0, _, _ => none
  | fuel + 1, v43, g45 =>
    jg (rg v43 ∧ rg (gm_I g45 30 0))
    (if v43 < (gm_I g45 30 0) then
    (jg (0 ≤ v43 ∧ v43 < 192)
    (jb1 (cc_onto g45 (gm_J g45 28 v43.toNat) c41) fun (v50 : Int64) =>
    jb1 (ca_consider n g45 (gm_J g45 28 v43.toNat) v50) fun (g51 : gm_T) =>
    ca_solveThree_l87 n c40 c41 c42 fuel (v43 + 1) g51))
    else
    (some g45))
noncomputable def ca_solveThree_l129 (n : Nat) (c56 : Int) (c58 : Int64) : Nat → Int → gm_T → Option (gm_T)
  | 0, _, _ => none
  | fuel + 1, v59, g61 =>
    jg (rg v59 ∧ rg (gm_I g61 30 1))
    (if v59 < (gm_I g61 30 1) then
    (jg (0 ≤ (64 + v59) ∧ (64 + v59) < 192)
    (jl ((gm_J g61 28 ((64 + v59)).toNat)) fun (v67 : Int64) =>
    jb1 (cc_onto g61 v67 c58) fun (v68 : Int64) =>
    jb1 (ca_consider n g61 v68 v67) fun (g69 : gm_T) =>
    ca_solveThree_l129 n c56 c58 fuel (v59 + 1) g69))
    else
    (some g61))
noncomputable def ca_solveThree_l57 (n : Nat)  : Nat → Int → gm_T → Option (gm_T)
  | 0, _, _ => none
  | fuel + 1, v24, g29 =>
    jg (rg v24 ∧ rg (gm_I g29 30 2))
    (if v24 < (gm_I g29 30 2) then
    (jg (0 ≤ (128 + v24) ∧ (128 + v24) < 192)
    (jl ((gm_J g29 28 ((128 + v24)).toNat)) fun (v38 : Int64) =>
    jb1 (cc_inverse g29 v38) fun (v39 : Int64) =>
    jb1 (ca_solveThree_l87 n v24 v38 v39 fz 0 g29) fun (g55 : gm_T) =>
    jb1 (ca_solveThree_l129 n v24 v39 fz 0 g55) fun (g74 : gm_T) =>
    ca_solveThree_l57 n  fuel (v24 + 1) g74))
    else
    (some g29))
noncomputable def ca_solveThree (n : Nat) (g : gm_T)  : Option (gm_T) :=
    jb1 (ca_solveThree_l2 n  fz 0 g) fun (g23 : gm_T) =>
    jb1 (ca_solveThree_l57 n  fz 0 g23) fun (g81 : gm_T) =>
    some g81
noncomputable def ca_solve_l4 (n : Nat) (c1 : Int) : Nat → Int → Int → gm_T → Option (gm_T)
  | 0, _, _, _ => none
  | fuel + 1, v2, v3, g4 =>
    jg (rg v3)
    (if v3 < 3 then
    (jb1 (
    jg (rg v2)
    (if v2 = 0 then
    (some (-1))
    else
    (jb1 (jd_numberOfTrailingZeros g4 v2) fun (v11 : Int) =>
    some v11))) fun (v9 : Int) =>
    jg (0 ≤ v3 ∧ v3 < 3)
    (jl (gm_wI g4 31 v3.toNat v9) fun (g12 : gm_T) =>
    jl ((zA v2 (v2 - 1))) fun (v14 : Int) =>
    ca_solve_l4 n c1 fuel v14 (v3 + 1) g12))
    else
    (some g4))
noncomputable def ca_solve (n : Nat) (g : gm_T) (a1 : Int) : Option (Int × gm_T) :=
    jb1 (ca_solve_l4 n a1 fz a1 0 g) fun (g18 : gm_T) =>
    jl (gm_wI g18 27 7 (-1)) fun (g19 : gm_T) =>
    jb1 (ca_list n g19 0 (gm_I g19 31 0) (gm_I g19 31 1)) fun (g20 : gm_T) =>
    jb1 (
    jg (rg (gm_I g20 31 2))
    (if (gm_I g20 31 2) < 0 then
    (jb1 (ca_solveTwo g20) fun (g23 : gm_T) =>
    some g23)
    else
    (jb1 (ca_list n g20 1 (gm_I g20 31 0) (gm_I g20 31 2)) fun (g24 : gm_T) =>
    jb1 (ca_list n g24 2 (gm_I g24 31 1) (gm_I g24 31 2)) fun (g25 : gm_T) =>
    jb1 (ca_solveThree n g25) fun (g26 : gm_T) =>
    some g26))) fun (g21 : gm_T) =>
    jg (rg (gm_I g21 27 7))
    (if (gm_I g21 27 7) < 0 then
    (some (0, g21))
    else
    (jl (gm_wI g21 27 8 a1) fun (g28 : gm_T) =>
    jl (gm_wJ g28 27 9 (gm_J g28 27 5)) fun (g29 : gm_T) =>
    jl (gm_wJ g29 27 10 (gm_J g29 27 6)) fun (g30 : gm_T) =>
    some (1, g30)))
noncomputable def cc_cellY (g : gm_T) (a0 : Int) (a1 : Int) (a2 : Int) : Option (Int) :=
    jb1 (cc_turnedY g a0 a1 a2) fun (v1 : Int) =>
    jg (rg a0)
    (if a0 = 2 then
    (some (v1 - 1))
    else
    (if a0 = 3 then
    (some (v1 - 1))
    else
    (some (v1 - 0))))
noncomputable def cc_cellX (g : gm_T) (a0 : Int) (a1 : Int) (a2 : Int) : Option (Int) :=
    jb1 (cc_turnedX g a0 a1 a2) fun (v1 : Int) =>
    jg (rg a0)
    (if a0 = 1 then
    (some (v1 - 1))
    else
    (if a0 = 2 then
    (some (v1 - 1))
    else
    (some (v1 - 0))))
noncomputable def cb_markCell_l2 (i1 : Nat) (c3 : Int) (c4 : Int) : Nat → Int → gm_T → Option (gm_T)
  | 0, _, _ => none
  | fuel + 1, v5, g7 =>
    jg (rg v5)
    (if v5 < 4 then
    (jb1 (cc_cellY g7 v5 c3 c4) fun (v12 : Int) =>
    jl ((((v5 * 40) + 20) + v12)) fun (v13 : Int) =>
    jg (0 ≤ v13 ∧ v13 < 160)
    (jb1 (cc_cellX g7 v5 c3 c4) fun (v15 : Int) =>
    jl (gm_wJ g7 (bA i1 + 1) v13.toNat ((gm_J g7 (bA i1 + 1) v13.toNat) ||| (lSl 1 (20 + v15)))) fun (g16 : gm_T) =>
    cb_markCell_l2 i1 c3 c4 fuel (v5 + 1) g16))
    else
    (some g7))
noncomputable def cb_markCell (g : gm_T) (i0 : Nat) (a1 : Int) (a2 : Int) : Option (gm_T) :=
    jb1 (cb_markCell_l2 i0 a1 a2 fz 0 g) fun (g20 : gm_T) =>
    some g20
noncomputable def cb_hasCell (g : gm_T) (i0 : Nat) (a1 : Int) (a2 : Int64) (a4 : Int64) : Option (Int) :=
    if (lC a2 (-20)) < 0 then
    (some 0)
    else
    (if (lC a2 20) < 0 then
    (if (lC a4 (-20)) < 0 then
    (some 0)
    else
    (if (lC a4 20) < 0 then
    (jg (0 ≤ (((a1 * 40) + 20) + (lI a4)) ∧ (((a1 * 40) + 20) + (lI a4)) < 160)
    (if (lC ((lSr (gm_J g (bA i0 + 1) ((((a1 * 40) + 20) + (lI a4))).toNat) (20 + (lI a2))) &&& 1) 0) = 0 then
    (some 0)
    else
    (some 1)))
    else
    (some 0)))
    else
    (some 0))
noncomputable def cx_isFull (g : gm_T)  : Option (Int) :=
    jg (rg (gm_I g 32 0))
    (if (gm_I g 32 0) < 100 then
    (some 0)
    else
    (some 1))
noncomputable def cx_addEntry (g : gm_T) (a1 : Int) (a2 : Int) (a3 : Int) : Option (Int × gm_T) :=
    jb1 (cx_isFull g) fun (v1 : Int) =>
    jg (rg v1)
    (if v1 = 0 then
    (jg (0 ≤ (gm_I g 32 0) ∧ (gm_I g 32 0) < 100)
    (jl (gm_wI g 33 ((gm_I g 32 0)).toNat a1) fun (g3 : gm_T) =>
    jg (0 ≤ (gm_I g3 32 0) ∧ (gm_I g3 32 0) < 100)
    (jl (gm_wI g3 34 ((gm_I g3 32 0)).toNat a2) fun (g5 : gm_T) =>
    jg (0 ≤ (gm_I g5 32 0) ∧ (gm_I g5 32 0) < 100)
    (jl (gm_wI g5 35 ((gm_I g5 32 0)).toNat a3) fun (g7 : gm_T) =>
    jl (gm_wI g7 32 0 ((gm_I g7 32 0) + 1)) fun (g9 : gm_T) =>
    some ((gm_I g9 32 0), g9)))))
    else
    (some ((gm_I g 32 0), g)))
noncomputable def cx_boxOf_l9 (g : gm_T) (c1 : Int) (c2 : Int) (c3 : Int) : Nat → Int → Int → Int → Option (Int)
  | 0, _, _, _ => none
  | fuel + 1, v4, v5, v6 =>
    jg (rg v6 ∧ rg c3)
    (if v6 < c3 then
    (jg (rg (gm_I g 32 0))
    (if v6 < (gm_I g 32 0) then
    (jg (0 ≤ v6 ∧ v6 < 100)
    (jg (rg (gm_I g 33 v6.toNat) ∧ rg c1)
    (if (gm_I g 33 v6.toNat) = c1 then
    (jg (rg (gm_I g 35 v6.toNat) ∧ rg c2)
    (if (gm_I g 35 v6.toNat) ≤ c2 then
    (jg (rg v5)
    (if (gm_I g 35 v6.toNat) < v5 then
    (cx_boxOf_l9 g c1 c2 c3 fuel v4 v5 (v6 + 1))
    else
    (jl ((gm_I g 35 v6.toNat)) fun (v17 : Int) =>
    jl ((gm_I g 34 v6.toNat)) fun (v18 : Int) =>
    cx_boxOf_l9 g c1 c2 c3 fuel v18 v17 (v6 + 1))))
    else
    (cx_boxOf_l9 g c1 c2 c3 fuel v4 v5 (v6 + 1))))
    else
    (cx_boxOf_l9 g c1 c2 c3 fuel v4 v5 (v6 + 1)))))
    else
    (some v4)))
    else
    (some v4))
noncomputable def cx_boxOf (g : gm_T) (a1 : Int) (a2 : Int) (a3 : Int) : Option (Int) :=
    jb1 (cx_boxOf_l9 g a1 a2 a3 fz (-1) (-1) 0) fun (v22 : Int) =>
    some v22
noncomputable def cx_boxNow (g : gm_T) (a1 : Int) : Option (Int) :=
    jb1 (cx_boxOf g a1 999 (gm_I g 32 0)) fun (v1 : Int) =>
    some v1
noncomputable def cx_weigh_l2 (n : Nat)  : Nat → Int → gm_T → Option (gm_T)
  | 0, _, _ => none
  | fuel + 1, v1, g2 =>
    jg (rg v1)
    (if v1 < 60 then
    (jg (0 ≤ v1 ∧ v1 < 60)
    (jl (gm_wI g2 37 v1.toNat 0) fun (g6 : gm_T) =>
    cx_weigh_l2 n  fuel (v1 + 1) g6))
    else
    (some g2))
noncomputable def cx_weigh_l40 (n : Nat) (c21 : Int) (c22 : Int) : Nat → Int → gm_T → Option (gm_T)
  | 0, _, _ => none
  | fuel + 1, v23, g24 =>
    jg (rg c22)
    (if c22 < 0 then
    (some g24)
    else
    (jg (rg v23)
    (if v23 < 6 then
    (jg (0 ≤ ((v23 * 10) + c22) ∧ ((v23 * 10) + c22) < 60)
    (jg (0 ≤ c21 ∧ c21 < (n : Int))
    (jg (0 ≤ ((10 * v23) + (gm_I g24 (bA c21.toNat) 2)) ∧ ((10 * v23) + (gm_I g24 (bA c21.toNat) 2)) < 60)
    (jl (gm_wI g24 37 (((v23 * 10) + c22)).toNat ((gm_I g24 37 (((v23 * 10) + c22)).toNat) + (gm_I g24 36 (((10 * v23) + (gm_I g24 (bA c21.toNat) 2))).toNat))) fun (g32 : gm_T) =>
    cx_weigh_l40 n c21 c22 fuel (v23 + 1) g32))))
    else
    (some g24))))
noncomputable def cx_weigh_l23 (n : Nat)  : Nat → Int → gm_T → Option (gm_T)
  | 0, _, _ => none
  | fuel + 1, v11, g14 =>
    jg (rg v11 ∧ rg (gm_I g14 10 1))
    (if v11 < (gm_I g14 10 1) then
    (jb1 (cx_boxNow g14 v11) fun (v20 : Int) =>
    jb1 (cx_weigh_l40 n v11 v20 fz 0 g14) fun (g35 : gm_T) =>
    cx_weigh_l23 n  fuel (v11 + 1) g35)
    else
    (some g14))
noncomputable def cx_weigh (n : Nat) (g : gm_T)  : Option (gm_T) :=
    jb1 (cx_weigh_l2 n  fz 0 g) fun (g10 : gm_T) =>
    jb1 (cx_weigh_l23 n  fz 0 g10) fun (g40 : gm_T) =>
    some g40
noncomputable def cx_worthWith (g : gm_T) (a1 : Int) (a2 : Int) (a3 : Int) : Option (Int) :=
    jg (0 ≤ ((a1 * 10) + a2) ∧ ((a1 * 10) + a2) < 60)
    (jg (0 ≤ (((a1 + 1) * 1024) + (zO a3 (zSl 1 a2))) ∧ (((a1 + 1) * 1024) + (zO a3 (zSl 1 a2))) < 7168)
    (some ((gm_I g 37 (((a1 * 10) + a2)).toNat) + (gm_I g 38 ((((a1 + 1) * 1024) + (zO a3 (zSl 1 a2)))).toNat))))
noncomputable def cx_mostFor_l18 (g : gm_T) (c3 : Int) (c4 : Int) : Nat → Int → Int → Option (Int)
  | 0, _, _ => none
  | fuel + 1, v5, v6 =>
    jg (rg v6)
    (if v6 < 10 then
    (if (zA (zSr c4 v6) 1) = 0 then
    (jb1 (cx_worthWith g c3 v6 c4) fun (v10 : Int) =>
    jg (rg v5 ∧ rg v10)
    (jl ((zmax v5 v10)) fun (v12 : Int) =>
    cx_mostFor_l18 g c3 c4 fuel v12 (v6 + 1)))
    else
    (cx_mostFor_l18 g c3 c4 fuel v5 (v6 + 1)))
    else
    (some v5))
noncomputable def cx_mostFor (g : gm_T) (a1 : Int) (a2 : Int) : Option (Int) :=
    jg (0 ≤ (((a1 + 1) * 1024) + a2) ∧ (((a1 + 1) * 1024) + a2) < 7168)
    (jl ((gm_I g 38 ((((a1 + 1) * 1024) + a2)).toNat)) fun (v2 : Int) =>
    jb1 (cx_mostFor_l18 g a1 a2 fz v2 0) fun (v15 : Int) =>
    some v15)
noncomputable def cx_choose_l2 (g : gm_T) (c1 : Int) (c2 : Int) : Nat → Int → Option (Int)
  | 0, _ => none
  | fuel + 1, v3 =>
    jg (rg v3)
    (if v3 < 10 then
    (if (zA (zSr c2 v3) 1) = 0 then
    (jb1 (cx_worthWith g c1 v3 c2) fun (v5 : Int) =>
    jg (0 ≤ ((c1 * 1024) + c2) ∧ ((c1 * 1024) + c2) < 7168)
    (jg (rg v5 ∧ rg (gm_I g 38 (((c1 * 1024) + c2)).toNat))
    (if v5 = (gm_I g 38 (((c1 * 1024) + c2)).toNat) then
    (some v3)
    else
    (cx_choose_l2 g c1 c2 fuel (v3 + 1)))))
    else
    (cx_choose_l2 g c1 c2 fuel (v3 + 1)))
    else
    (some (-1)))
noncomputable def cx_choose (g : gm_T) (a1 : Int) (a2 : Int) : Option (Int) :=
    cx_choose_l2 g a1 a2 fz 0
noncomputable def cx_shareOut_l13 (n : Nat) (c9 : Int) : Nat → Int → gm_T → Option (gm_T)
  | 0, _, _ => none
  | fuel + 1, v10, g11 =>
    jg (rg v10)
    (if v10 < 1024 then
    (jb1 (jd_bitCount g11 v10) fun (v15 : Int) =>
    jg (rg v15 ∧ rg c9)
    (if v15 ≤ c9 then
    (jb1 (cx_mostFor g11 c9 v10) fun (v17 : Int) =>
    jg (0 ≤ ((c9 * 1024) + v10) ∧ ((c9 * 1024) + v10) < 7168)
    (jl (gm_wI g11 38 (((c9 * 1024) + v10)).toNat v17) fun (g18 : gm_T) =>
    cx_shareOut_l13 n c9 fuel (v10 + 1) g18))
    else
    (cx_shareOut_l13 n c9 fuel (v10 + 1) g11)))
    else
    (some g11))
noncomputable def cx_shareOut_l7 (n : Nat)  : Nat → Int → gm_T → Option (gm_T)
  | 0, _, _ => none
  | fuel + 1, v2, g4 =>
    jg (rg v2)
    (if v2 < 0 then
    (some g4)
    else
    (jb1 (cx_shareOut_l13 n v2 fz 0 g4) fun (g23 : gm_T) =>
    cx_shareOut_l7 n  fuel (v2 + (-1)) g23))
noncomputable def cx_shareOut_l62 (n : Nat)  : Nat → Int → Int → gm_T → Option (gm_T)
  | 0, _, _, _ => none
  | fuel + 1, v28, v29, g31 =>
    jg (rg v29)
    (if v29 < 6 then
    (jb1 (cx_choose g31 v29 v28) fun (v37 : Int) =>
    jg (0 ≤ v29 ∧ v29 < 6)
    (jl (gm_wI g31 39 v29.toNat v37) fun (g38 : gm_T) =>
    jg (rg v37)
    (if v37 < 0 then
    (jl ((zO v28 0)) fun (v41 : Int) =>
    cx_shareOut_l62 n  fuel v41 (v29 + 1) g38)
    else
    (jl ((zO v28 (zSl 1 v37))) fun (v43 : Int) =>
    cx_shareOut_l62 n  fuel v43 (v29 + 1) g38))))
    else
    (some g31))
noncomputable def cx_shareOut (n : Nat) (g : gm_T)  : Option (Int × gm_T) :=
    jb1 (cx_weigh n g) fun (g1 : gm_T) =>
    jb1 (cx_shareOut_l7 n  fz 5 g1) fun (g27 : gm_T) =>
    jb1 (cx_shareOut_l62 n  fz 0 0 g27) fun (g48 : gm_T) =>
    some ((gm_I g48 38 0), g48)
noncomputable def cf_allBits (g : gm_T)  : Option (Int) :=
    some ((zSl 1 (gm_I g 10 1)) - 1)
noncomputable def cf_keyOf (g : gm_T) (a0 : Int) (a1 : Int) (a2 : Int) : Option (Int) :=
    some ((((40 - a0) * 1000) + (10 * a1)) + a2)
noncomputable def cf_insert_l2 (c2 : Int) : Nat → Int → gm_T → Option (Int × gm_T)
  | 0, _, _ => none
  | fuel + 1, v3, g4 =>
    jg (rg v3)
    (if v3 ≤ 0 then
    (some (v3, g4))
    else
    (jg (0 ≤ (v3 - 1) ∧ (v3 - 1) < 240)
    (jg (rg (gm_I g4 13 ((v3 - 1)).toNat) ∧ rg c2)
    (if (gm_I g4 13 ((v3 - 1)).toNat) ≤ c2 then
    (some (v3, g4))
    else
    (jg (0 ≤ v3 ∧ v3 < 240)
    (jl (gm_wI g4 13 v3.toNat (gm_I g4 13 ((v3 - 1)).toNat)) fun (g10 : gm_T) =>
    cf_insert_l2 c2 fuel (v3 + (-1)) g10))))))
noncomputable def cf_insert (g : gm_T) (a1 : Int) (a2 : Int) : Option (gm_T) :=
    jb2 (cf_insert_l2 a2 fz a1 g) fun (v14 : Int) (g15 : gm_T) =>
    jg (0 ≤ v14 ∧ v14 < 240)
    (jl (gm_wI g15 13 v14.toNat a2) fun (g16 : gm_T) =>
    some g16)
noncomputable def cf_collect_l17 (n : Nat) (c14 : Int) (c15 : Int) (c17 : Int) : Nat → Int → Int → gm_T → Option (Int × gm_T)
  | 0, _, _, _ => none
  | fuel + 1, v16, v18, g20 =>
    jg (0 ≤ c17 ∧ c17 < (n : Int))
    (jg (rg v18 ∧ rg (gm_I g20 (bA c17.toNat) 3))
    (if v18 < (gm_I g20 (bA c17.toNat) 3) then
    (jb1 (cf_fitting n g20 c14 c15 c17 v18) fun (v27 : Int64) =>
    if (lC v27 0) < 0 then
    (cf_collect_l17 n c14 c15 c17 fuel v16 (v18 + 1) g20)
    else
    (jb1 (cc_turn g20 v27) fun (v29 : Int) =>
    jb1 (cf_scoreOf n g20 c14 c15 c17 v18 v29) fun (v30 : Int) =>
    jb1 (cf_keyOf g20 v30 c17 v18) fun (v31 : Int) =>
    jb1 (cf_insert g20 v16 v31) fun (g32 : gm_T) =>
    cf_collect_l17 n c14 c15 c17 fuel (v16 + 1) (v18 + 1) g32))
    else
    (some (v16, g20))))
noncomputable def cf_collect_l5 (n : Nat) (c1 : Int) (c2 : Int) : Nat → Int → Int → gm_T → Option (Int × gm_T)
  | 0, _, _, _ => none
  | fuel + 1, v3, v4, g7 =>
    jg (rg v4 ∧ rg (gm_I g7 10 1))
    (if v4 < (gm_I g7 10 1) then
    (jb2 (cf_collect_l17 n c1 c2 v4 fz v3 0 g7) fun (v35 : Int) (g38 : gm_T) =>
    cf_collect_l5 n c1 c2 fuel v35 (v4 + 1) g38)
    else
    (some (v3, g7)))
noncomputable def cf_collect (n : Nat) (g : gm_T) (a1 : Int) (a2 : Int) : Option (Int × gm_T) :=
    jb2 (cf_collect_l5 n a1 a2 fz 0 0 g) fun (v40 : Int) (g44 : gm_T) =>
    some (v40, g44)
noncomputable def cf_rivalOf_l78 (n : Nat) (g : gm_T) (c26 : Int) (c27 : Int) (c31 : Int) (c32 : Int) (c34 : Int) : Nat → Int → Int → Option (Int)
  | 0, _, _ => none
  | fuel + 1, v33, v35 =>
    jg (0 ≤ c34 ∧ c34 < (n : Int))
    (jg (rg v35 ∧ rg (gm_I g (bA c34.toNat) 3))
    (if v35 < (gm_I g (bA c34.toNat) 3) then
    (jg (0 ≤ c26 ∧ c26 < (n : Int))
    (jg (0 ≤ c34 ∧ c34 < (n : Int))
    (jb1 (cb_turnFor g c26.toNat c27 c34.toNat v35) fun (v46 : Int) =>
    jb1 (cf_scoreOf n g c26 c27 c34 v35 v46) fun (v47 : Int) =>
    jb1 (cf_keyOf g v47 c34 v35) fun (v48 : Int) =>
    jg (rg v48 ∧ rg c31)
    (if v48 = c31 then
    (cf_rivalOf_l78 n g c26 c27 c31 c32 c34 fuel v33 (v35 + 1))
    else
    (jg (rg v33)
    (if v48 < v33 then
    (jb1 (cf_fitting n g c26 c27 c34 v35) fun (v52 : Int64) =>
    if (lC v52 0) < 0 then
    (cf_rivalOf_l78 n g c26 c27 c31 c32 c34 fuel v33 (v35 + 1))
    else
    (cf_rivalOf_l78 n g c26 c27 c31 c32 c34 fuel v48 (v35 + 1)))
    else
    (cf_rivalOf_l78 n g c26 c27 c31 c32 c34 fuel v33 (v35 + 1))))))))
    else
    (some v33)))
noncomputable def cf_rivalOf_l66 (n : Nat) (g : gm_T) (c8 : Int) (c9 : Int) (c13 : Int) (c14 : Int) : Nat → Int → Int → Option (Int)
  | 0, _, _ => none
  | fuel + 1, v15, v16 =>
    jg (rg v16 ∧ rg (gm_I g 10 1))
    (if v16 < (gm_I g 10 1) then
    (jb1 (cf_rivalOf_l78 n g c8 c9 c13 c14 v16 fz v15 0) fun (v59 : Int) =>
    cf_rivalOf_l66 n g c8 c9 c13 c14 fuel v59 (v16 + 1))
    else
    (some v15))
noncomputable def cf_rivalOf (n : Nat) (g : gm_T) (a1 : Int) (a2 : Int) (a3 : Int) (a4 : Int) : Option (Int) :=
    jg (0 ≤ a1 ∧ a1 < (n : Int))
    (jg (0 ≤ a3 ∧ a3 < (n : Int))
    (jb1 (cb_turnFor g a1.toNat a2 a3.toNat a4) fun (v3 : Int) =>
    jb1 (cf_scoreOf n g a1 a2 a3 a4 v3) fun (v4 : Int) =>
    jb1 (cf_keyOf g v4 a3 a4) fun (v5 : Int) =>
    jg (0 ≤ v5 ∧ v5 ≤ 2147483647)
    (jl (((((v5 / 1000) * 1000) + 1000) - 1)) fun (v6 : Int) =>
    jl ((v6 + 1)) fun (v7 : Int) =>
    jb1 (cf_rivalOf_l66 n g a1 a2 v5 v6 fz v7 0) fun (v67 : Int) =>
    jg (rg v67 ∧ rg v6)
    (if v67 ≤ v6 then
    (jg (0 ≤ v67 ∧ v67 ≤ 2147483647)
    (some (v67 % 1000)))
    else
    (some (-1))))))
noncomputable def cf_isBestBothWays (n : Nat) (g : gm_T) (a1 : Int) (a2 : Int) (a3 : Int) (a4 : Int) : Option (Int) :=
    jb1 (cf_fitting n g a1 a2 a3 a4) fun (v1 : Int64) =>
    if (lC v1 0) < 0 then
    (some 0)
    else
    (jb1 (cf_rivalOf n g a1 a2 a3 a4) fun (v2 : Int) =>
    jg (rg v2)
    (if v2 < 0 then
    (jb1 (cf_rivalOf n g a3 a4 a1 a2) fun (v4 : Int) =>
    jg (rg v4)
    (if v4 < 0 then
    (some 1)
    else
    (some 0)))
    else
    (some 0)))
noncomputable def cj_addBit (g : gm_T) (a1 : Int) : Option (gm_T) :=
    jg (0 ≤ a1 ∧ a1 < 30)
    (jl (gm_wI g 19 a1.toNat (zSl 1 a1)) fun (g1 : gm_T) =>
    some g1)
noncomputable def cj_isIn (g : gm_T) (a0 : Int64) (a2 : Int) : Option (Int) :=
    if (lC ((lSr a0 a2) &&& 1) 0) = 0 then
    (some 0)
    else
    (some 1)
noncomputable def cj_isThere (g : gm_T) (a1 : Int) : Option (Int) :=
    jg (rg a1)
    (if a1 < 0 then
    (some 0)
    else
    (jg (rg (gm_I g 14 4))
    (if a1 < (gm_I g 14 4) then
    (jb1 (cj_isIn g (gm_J g 14 5) a1) fun (v3 : Int) =>
    jg (rg v3)
    (if v3 = 0 then
    (some 0)
    else
    (some 1)))
    else
    (some 0))))
noncomputable def cj_isTaken_l2 (g : gm_T) (c1 : Int) (c2 : Int) : Nat → Int → Option (Int)
  | 0, _ => none
  | fuel + 1, v3 =>
    jg (rg v3 ∧ rg (gm_I g 14 4))
    (if v3 < (gm_I g 14 4) then
    (jg (0 ≤ v3 ∧ v3 < 60)
    (jb1 (
    jg (rg (gm_I g 15 v3.toNat) ∧ rg c1)
    (if (gm_I g 15 v3.toNat) = c1 then
    (jg (rg (gm_I g 16 v3.toNat) ∧ rg c2)
    (if (gm_I g 16 v3.toNat) = c2 then
    (some 1)
    else
    (some 0)))
    else
    (some 0))) fun (v8 : Int) =>
    jb1 (
    jg (rg (gm_I g 17 v3.toNat) ∧ rg c1)
    (if (gm_I g 17 v3.toNat) = c1 then
    (jg (rg (gm_I g 18 v3.toNat) ∧ rg c2)
    (if (gm_I g 18 v3.toNat) = c2 then
    (some 1)
    else
    (some 0)))
    else
    (some 0))) fun (v11 : Int) =>
    jb1 (cj_isIn g (gm_J g 14 5) v3) fun (v14 : Int) =>
    jg (rg v14)
    (if v14 = 0 then
    (cj_isTaken_l2 g c1 c2 fuel (v3 + 1))
    else
    (jg (rg v8)
    (if v8 = 0 then
    (jg (rg v11)
    (if v11 = 0 then
    (cj_isTaken_l2 g c1 c2 fuel (v3 + 1))
    else
    (some 1)))
    else
    (some 1))))))
    else
    (some 0))
noncomputable def cj_isTaken (g : gm_T) (a1 : Int) (a2 : Int) : Option (Int) :=
    cj_isTaken_l2 g a1 a2 fz 0
noncomputable def cj_reach_l20 (g : gm_T) (c10 : Int64) (c12 : Int) (c13 : Int) : Nat → Int → Int → Option (Int)
  | 0, _, _ => none
  | fuel + 1, v11, v14 =>
    jg (rg v14 ∧ rg (gm_I g 14 4))
    (if v14 < (gm_I g 14 4) then
    (jg (0 ≤ v14 ∧ v14 < 60)
    (jl ((zO (zSl 1 (gm_I g 15 v14.toNat)) (zSl 1 (gm_I g 17 v14.toNat)))) fun (v21 : Int) =>
    jb1 (cj_isIn g c10 v14) fun (v22 : Int) =>
    jg (rg v22)
    (if v22 = 0 then
    (cj_reach_l20 g c10 c12 c13 fuel v11 (v14 + 1))
    else
    (if (zA v11 v21) = 0 then
    (cj_reach_l20 g c10 c12 c13 fuel v11 (v14 + 1))
    else
    (jl ((zO v11 v21)) fun (v26 : Int) =>
    cj_reach_l20 g c10 c12 c13 fuel v26 (v14 + 1))))))
    else
    (some v11))
noncomputable def cj_reach_l6 (g : gm_T) (c2 : Int64) : Nat → Int → Int → Option (Int)
  | 0, _, _ => none
  | fuel + 1, v3, v4 =>
    jg (rg v4)
    (if v4 < 30 then
    (jb1 (cj_reach_l20 g c2 v4 v3 fz v3 0) fun (v29 : Int) =>
    jg (rg v29 ∧ rg v3)
    (if v29 = v3 then
    (some v29)
    else
    (cj_reach_l6 g c2 fuel v29 (v4 + 1))))
    else
    (some v3))
noncomputable def cj_reach (g : gm_T) (a1 : Int) (a2 : Int64) : Option (Int) :=
    cj_reach_l6 g a2 fz a1 0
noncomputable def cj_regroup_l2 (c1 : Int) : Nat → Int → gm_T → Option (gm_T)
  | 0, _, _ => none
  | fuel + 1, v2, g3 =>
    jg (rg v2)
    (if v2 < 30 then
    (if (zA (zSr c1 v2) 1) = 0 then
    (cj_regroup_l2 c1 fuel (v2 + 1) g3)
    else
    (jb1 (cj_reach g3 (zSl 1 v2) (gm_J g3 14 5)) fun (v8 : Int) =>
    jg (0 ≤ v2 ∧ v2 < 30)
    (jl (gm_wI g3 19 v2.toNat v8) fun (g9 : gm_T) =>
    cj_regroup_l2 c1 fuel (v2 + 1) g9)))
    else
    (some g3))
noncomputable def cj_regroup (g : gm_T) (a1 : Int) : Option (gm_T) :=
    jb1 (cj_regroup_l2 a1 fz 0 g) fun (g13 : gm_T) =>
    some g13
noncomputable def cj_add (g : gm_T) (a1 : Int) (a2 : Int) (a3 : Int) (a4 : Int) : Option (Int × gm_T) :=
    jl ((gm_I g 14 4)) fun (v1 : Int) =>
    jg (0 ≤ v1 ∧ v1 < 60)
    (jl (gm_wI g 15 v1.toNat a1) fun (g2 : gm_T) =>
    jl (gm_wI g2 16 v1.toNat a2) fun (g4 : gm_T) =>
    jl (gm_wI g4 17 v1.toNat a3) fun (g5 : gm_T) =>
    jl (gm_wI g5 18 v1.toNat a4) fun (g6 : gm_T) =>
    jl (gm_wI g6 14 4 ((gm_I g6 14 4) + 1)) fun (g7 : gm_T) =>
    jl (gm_wJ g7 14 5 ((gm_J g7 14 5) ||| (lSl 1 v1))) fun (g8 : gm_T) =>
    jg (0 ≤ a1 ∧ a1 < 30)
    (jg (0 ≤ a3 ∧ a3 < 30)
    (jb1 (cj_regroup g8 (zO (gm_I g8 19 a1.toNat) (gm_I g8 19 a3.toNat))) fun (g11 : gm_T) =>
    some (v1, g11))))
noncomputable def cj_remove (g : gm_T) (a1 : Int) : Option (gm_T) :=
    jl (gm_wJ g 14 5 ((gm_J g 14 5) &&& ((lSl 1 a1) ^^^ (-1)))) fun (g1 : gm_T) =>
    jg (0 ≤ a1 ∧ a1 < 60)
    (jg (0 ≤ (gm_I g1 15 a1.toNat) ∧ (gm_I g1 15 a1.toNat) < 30)
    (jb1 (cj_regroup g1 (gm_I g1 19 ((gm_I g1 15 a1.toNat)).toNat)) fun (g4 : gm_T) =>
    some g4))
noncomputable def cj_countAt_l4 (g : gm_T) (c1 : Int) : Nat → Int → Int → Option (Int)
  | 0, _, _ => none
  | fuel + 1, v2, v3 =>
    jg (rg v3 ∧ rg (gm_I g 14 4))
    (if v3 < (gm_I g 14 4) then
    (jb1 (cj_isIn g (gm_J g 14 5) v3) fun (v7 : Int) =>
    jg (rg v7)
    (if v7 = 0 then
    (cj_countAt_l4 g c1 fuel v2 (v3 + 1))
    else
    (jg (0 ≤ v3 ∧ v3 < 60)
    (jg (rg (gm_I g 15 v3.toNat) ∧ rg c1)
    (if (gm_I g 15 v3.toNat) = c1 then
    (cj_countAt_l4 g c1 fuel (v2 + 1) (v3 + 1))
    else
    (jg (rg (gm_I g 17 v3.toNat))
    (if (gm_I g 17 v3.toNat) = c1 then
    (cj_countAt_l4 g c1 fuel (v2 + 1) (v3 + 1))
    else
    (cj_countAt_l4 g c1 fuel v2 (v3 + 1)))))))))
    else
    (some v2))
noncomputable def cj_countAt (g : gm_T) (a1 : Int) : Option (Int) :=
    jb1 (cj_countAt_l4 g a1 fz 0 0) fun (v18 : Int) =>
    some v18
noncomputable def cj_countIn_l4 (g : gm_T) (c1 : Int) : Nat → Int → Int → Option (Int)
  | 0, _, _ => none
  | fuel + 1, v2, v3 =>
    jg (rg v3 ∧ rg (gm_I g 14 4))
    (if v3 < (gm_I g 14 4) then
    (jb1 (cj_isIn g (gm_J g 14 5) v3) fun (v7 : Int) =>
    jg (rg v7)
    (if v7 = 0 then
    (cj_countIn_l4 g c1 fuel v2 (v3 + 1))
    else
    (jg (0 ≤ v3 ∧ v3 < 60)
    (if (zA (zSr c1 (gm_I g 15 v3.toNat)) 1) = 0 then
    (cj_countIn_l4 g c1 fuel v2 (v3 + 1))
    else
    (cj_countIn_l4 g c1 fuel (v2 + 1) (v3 + 1))))))
    else
    (some v2))
noncomputable def cj_countIn (g : gm_T) (a1 : Int) : Option (Int) :=
    jb1 (cj_countIn_l4 g a1 fz 0 0) fun (v14 : Int) =>
    some v14
noncomputable def cj_countGroups_l4 (g : gm_T) (c1 : Int) : Nat → Int → Int → Option (Int)
  | 0, _, _ => none
  | fuel + 1, v2, v3 =>
    jg (rg v3 ∧ rg c1)
    (if v3 < c1 then
    (jg (0 ≤ v3 ∧ v3 < 30)
    (jb1 (jd_numberOfTrailingZeros g (gm_I g 19 v3.toNat)) fun (v8 : Int) =>
    jg (rg v8)
    (if v8 = v3 then
    (cj_countGroups_l4 g c1 fuel (v2 + 1) (v3 + 1))
    else
    (cj_countGroups_l4 g c1 fuel v2 (v3 + 1)))))
    else
    (some v2))
noncomputable def cj_countGroups (g : gm_T) (a1 : Int) : Option (Int) :=
    jb1 (cj_countGroups_l4 g a1 fz 0 0) fun (v13 : Int) =>
    some v13
noncomputable def cj_spread (g : gm_T) (a1 : Int) (a2 : Int) (a3 : Int) : Option (gm_T) :=
    jg (0 ≤ a1 ∧ a1 < 30)
    (jg (rg (gm_I g 20 a1.toNat) ∧ rg a3)
    (if (gm_I g 20 a1.toNat) = a3 then
    (jg (0 ≤ a2 ∧ a2 < 30)
    (jg (rg (gm_I g 20 a2.toNat))
    (if (gm_I g 20 a2.toNat) < 0 then
    (jl (gm_wI g 20 a2.toNat (a3 + 1)) fun (g5 : gm_T) =>
    some g5)
    else
    (some g))))
    else
    (some g)))
noncomputable def cj_measure_l3 (c1 : Int) (c2 : Int64) : Nat → Int → gm_T → Option (gm_T)
  | 0, _, _ => none
  | fuel + 1, v3, g4 =>
    jg (rg v3)
    (if v3 < 30 then
    (jg (0 ≤ v3 ∧ v3 < 30)
    (jl (gm_wI g4 20 v3.toNat (-1)) fun (g8 : gm_T) =>
    cj_measure_l3 c1 c2 fuel (v3 + 1) g8))
    else
    (some g4))
noncomputable def cj_measure_l44 (c25 : Int64) (c26 : Int) : Nat → Int → gm_T → Option (gm_T)
  | 0, _, _ => none
  | fuel + 1, v27, g28 =>
    jg (rg v27 ∧ rg (gm_I g28 14 4))
    (if v27 < (gm_I g28 14 4) then
    (jb1 (cj_isIn g28 c25 v27) fun (v32 : Int) =>
    jg (rg v32)
    (if v32 = 0 then
    (cj_measure_l44 c25 c26 fuel (v27 + 1) g28)
    else
    (jg (0 ≤ v27 ∧ v27 < 60)
    (jb1 (cj_spread g28 (gm_I g28 15 v27.toNat) (gm_I g28 17 v27.toNat) c26) fun (g36 : gm_T) =>
    jb1 (cj_spread g36 (gm_I g36 17 v27.toNat) (gm_I g36 15 v27.toNat) c26) fun (g37 : gm_T) =>
    cj_measure_l44 c25 c26 fuel (v27 + 1) g37))))
    else
    (some g28))
noncomputable def cj_measure_l34 (c16 : Int64) : Nat → Int → gm_T → Option (gm_T)
  | 0, _, _ => none
  | fuel + 1, v17, g19 =>
    jg (rg v17)
    (if v17 < 30 then
    (jb1 (cj_measure_l44 c16 v17 fz 0 g19) fun (g41 : gm_T) =>
    cj_measure_l34 c16 fuel (v17 + 1) g41)
    else
    (some g19))
noncomputable def cj_measure (g : gm_T) (a1 : Int) (a2 : Int64) : Option (gm_T) :=
    jb1 (cj_measure_l3 a1 a2 fz 0 g) fun (g12 : gm_T) =>
    jg (0 ≤ a1 ∧ a1 < 30)
    (jl (gm_wI g12 20 a1.toNat 0) fun (g13 : gm_T) =>
    jb1 (cj_measure_l34 a2 fz 0 g13) fun (g46 : gm_T) =>
    some g46)
noncomputable def cj_otherEnd (g : gm_T) (a1 : Int) (a2 : Int) : Option (Int) :=
    jg (0 ≤ a1 ∧ a1 < 60)
    (jg (rg (gm_I g 15 a1.toNat) ∧ rg a2)
    (if (gm_I g 15 a1.toNat) = a2 then
    (some (gm_I g 17 a1.toNat))
    else
    (jg (rg (gm_I g 17 a1.toNat))
    (if (gm_I g 17 a1.toNat) = a2 then
    (some (gm_I g 15 a1.toNat))
    else
    (some (-1))))))
noncomputable def cj_walk_l24 (c19 : Int64) (c22 : Int) : Nat → Int → Int → Int → gm_T → Option (Int × Int × gm_T)
  | 0, _, _, _, _ => none
  | fuel + 1, v20, v21, v23, g25 =>
    jg (rg v23 ∧ rg (gm_I g25 14 4))
    (if v23 < (gm_I g25 14 4) then
    (jb1 (cj_isIn g25 c19 v23) fun (v32 : Int) =>
    jb1 (
    jg (rg v32)
    (if v32 = 0 then
    (some (-1))
    else
    (jb1 (cj_otherEnd g25 v23 v20) fun (v35 : Int) =>
    some v35))) fun (v33 : Int) =>
    jg (rg v33)
    (if v33 < 0 then
    (cj_walk_l24 c19 c22 fuel v20 v21 (v23 + 1) g25)
    else
    (jg (0 ≤ v33 ∧ v33 < 30)
    (jg (rg (gm_I g25 20 v33.toNat) ∧ rg c22)
    (if (gm_I g25 20 v33.toNat) = c22 then
    (jg (0 ≤ v21 ∧ v21 < 30)
    (jl (gm_wI g25 21 v21.toNat v23) fun (g40 : gm_T) =>
    some (v33, (v21 + 1), g40)))
    else
    (cj_walk_l24 c19 c22 fuel v20 v21 (v23 + 1) g25))))))
    else
    (some (v20, v21, g25)))
noncomputable def cj_walk_l16 (c4 : Int64) : Nat → Int → Int → Int → gm_T → Option (Int × gm_T)
  | 0, _, _, _, _ => none
  | fuel + 1, v5, v6, v7, g10 =>
    jg (rg v7)
    (if v7 < 0 then
    (some (v6, g10))
    else
    (jb3 (cj_walk_l24 c4 v7 fz v5 v6 0 g10) fun (v45 : Int) (v46 : Int) (g49 : gm_T) =>
    cj_walk_l16 c4 fuel v45 v46 (v7 + (-1)) g49))
noncomputable def cj_walk (g : gm_T) (a1 : Int) (a2 : Int64) : Option (Int × gm_T) :=
    jg (0 ≤ a1 ∧ a1 < 30)
    (jl (((gm_I g 20 a1.toNat) - 1)) fun (v2 : Int) =>
    jb2 (cj_walk_l16 a2 fz a1 0 v2 g) fun (v53 : Int) (g57 : gm_T) =>
    some (v53, g57))
noncomputable def cp_isThere (g : gm_T)  : Option (Int) :=
    jg (rg (gm_I g 25 1))
    (if (gm_I g 25 1) ≤ 0 then
    (some 0)
    else
    (some 1))
noncomputable def cp_countColours (g : gm_T)  : Option (Int) :=
    jb1 (jd_bitCount g (gm_I g 25 5)) fun (v1 : Int) =>
    some v1
noncomputable def ct_peek (g : gm_T) (a1 : Int) : Option (Int) :=
    jg (rg a1)
    (if a1 < 0 then
    (some (-1))
    else
    (jg (rg (gm_I g 1 0))
    (if a1 < (gm_I g 1 0) then
    (jg (0 ≤ a1 ∧ a1 < 240)
    (some (zA (gm_I g 2 a1.toNat) 255)))
    else
    (some (-1)))))
noncomputable def ct_digit (g : gm_T) (a1 : Int) : Option (Int) :=
    jb1 (ct_peek g a1) fun (v1 : Int) =>
    jg (rg v1)
    (if v1 < 48 then
    (some (-1))
    else
    (if v1 ≤ 57 then
    (some (v1 - 48))
    else
    (some (-1))))
noncomputable def cp_isWhole (g : gm_T) (a0 : Int) (a1 : Int) (a2 : Int) : Option (Int) :=
    jg (rg a0)
    (if a0 = 0 then
    (jg (rg a1)
    (if a1 ≤ 0 then
    (some 0)
    else
    (some 1)))
    else
    (jg (rg a1 ∧ rg a2)
    (if a1 = a2 then
    (some 1)
    else
    (some 0))))
noncomputable def cp_faultOf_l11 (g : gm_T)  : Nat → Int → Int → Int → Int → Option ((Int × Int × Int) ⊕ (Int))
  | 0, _, _, _, _ => none
  | fuel + 1, v1, v2, v3, v4 =>
    jg (rg v4 ∧ rg (gm_I g 1 0))
    (if v4 < (gm_I g 1 0) then
    (jb1 (ct_peek g v4) fun (v12 : Int) =>
    jg (rg v12)
    (if v12 = 46 then
    (jg (rg v2 ∧ rg v3)
    (if v2 = v3 then
    (some (.inr v4))
    else
    (cp_faultOf_l11 g fuel v1 (v2 + 1) v3 (v4 + 1))))
    else
    (jb1 (ct_digit g v4) fun (v17 : Int) =>
    jg (rg v17)
    (if v17 < 0 then
    (if v12 = 47 then
    (jb1 (cp_isWhole g v1 v2 v3) fun (v19 : Int) =>
    jg (rg v19)
    (if v19 = 0 then
    (some (.inr v4))
    else
    (jg (rg (v1 + 1))
    (if (v1 + 1) < 16 then
    (cp_faultOf_l11 g fuel (v1 + 1) 0 v2 (v4 + 1))
    else
    (some (.inr v4))))))
    else
    (some (.inr v4)))
    else
    (jg (rg v2 ∧ rg v3)
    (if v2 = v3 then
    (some (.inr v4))
    else
    (cp_faultOf_l11 g fuel v1 (v2 + 1) v3 (v4 + 1))))))))
    else
    (some (.inl (v1, v2, v3))))
noncomputable def cp_faultOf (g : gm_T)  : Option (Int) :=
    jc3 (ρ := Int) (cp_faultOf_l11 g fz 0 0 16 0) some fun (v27 : Int) (v28 : Int) (v29 : Int) =>
    jb1 (cp_isWhole g v27 v28 v29) fun (v32 : Int) =>
    jg (rg v32)
    (if v32 = 0 then
    (some (gm_I g 1 0))
    else
    (some (-1)))
noncomputable def cp_spreadColour_l21 (c14 : Int) (c15 : Int) (c16 : Int) (c17 : Int) (c18 : Int) : Nat → Int → gm_T → Option (gm_T)
  | 0, _, _ => none
  | fuel + 1, v19, g20 =>
    jg (rg v19 ∧ rg (c14 + c17))
    (if v19 ≤ (c14 + c17) then
    (jg (0 ≤ ((((c18 + 3) * 22) + v19) + 3) ∧ ((((c18 + 3) * 22) + v19) + 3) < 484)
    (jl (gm_wI g20 26 (((((c18 + 3) * 22) + v19) + 3)).toNat (zO (gm_I g20 26 (((((c18 + 3) * 22) + v19) + 3)).toNat) c16)) fun (g25 : gm_T) =>
    cp_spreadColour_l21 c14 c15 c16 c17 c18 fuel (v19 + 1) g25))
    else
    (some g20))
noncomputable def cp_spreadColour_l6 (c2 : Int) (c3 : Int) (c4 : Int) (c5 : Int) : Nat → Int → gm_T → Option (gm_T)
  | 0, _, _ => none
  | fuel + 1, v6, g8 =>
    jg (rg v6 ∧ rg (c3 + c5))
    (if v6 ≤ (c3 + c5) then
    (jl ((c2 - c5)) fun (v13 : Int) =>
    jb1 (cp_spreadColour_l21 c2 c3 c4 c5 v6 fz v13 g8) fun (g28 : gm_T) =>
    cp_spreadColour_l6 c2 c3 c4 c5 fuel (v6 + 1) g28)
    else
    (some g8))
noncomputable def cp_spreadColour (g : gm_T) (a1 : Int) (a2 : Int) (a3 : Int) (a4 : Int) : Option (gm_T) :=
    jl ((a2 - a4)) fun (v1 : Int) =>
    jb1 (cp_spreadColour_l6 a1 a2 a3 a4 fz v1 g) fun (g32 : gm_T) =>
    some g32
noncomputable def cp_take_l5 (c2 : Int) (c3 : Int) (c4 : Int) : Nat → gm_T → Option (gm_T)
  | 0, _ => none
  | fuel + 1, g5 =>
    jg (rg (gm_I g5 25 1) ∧ rg (gm_I g5 1 0))
    (if (gm_I g5 25 1) < (gm_I g5 1 0) then
    (jb1 (ct_peek g5 (gm_I g5 25 1)) fun (v8 : Int) =>
    jg (rg v8)
    (if v8 = 47 then
    (some g5)
    else
    (jl (gm_wI g5 25 1 ((gm_I g5 25 1) + 1)) fun (g10 : gm_T) =>
    cp_take_l5 c2 c3 c4 fuel g10)))
    else
    (some g5))
noncomputable def cp_take_l77 (c18 : Int) : Nat → Int → gm_T → Option (gm_T)
  | 0, _, _ => none
  | fuel + 1, v19, g20 =>
    jg (rg v19)
    (if v19 < 484 then
    (jg (0 ≤ v19 ∧ v19 < 484)
    (jl (gm_wI g20 26 v19.toNat 0) fun (g24 : gm_T) =>
    cp_take_l77 c18 fuel (v19 + 1) g24))
    else
    (some g20))
noncomputable def cp_take_l114 (c45 : Int) (c46 : Int) : Nat → Int → gm_T → Option (gm_T)
  | 0, _, _ => none
  | fuel + 1, v47, g49 =>
    jg (rg v47 ∧ rg (gm_I g49 25 1))
    (if v47 < (gm_I g49 25 1) then
    (jb1 (ct_digit g49 ((c46 * ((gm_I g49 25 1) + 1)) + v47)) fun (v54 : Int) =>
    jg (rg v54)
    (if v54 < 0 then
    (cp_take_l114 c45 c46 fuel (v47 + 1) g49)
    else
    (jl (gm_wI g49 25 5 (zO (gm_I g49 25 5) (zSl 1 v54))) fun (g57 : gm_T) =>
    jb1 (cp_spreadColour g57 v47 (((gm_I g57 25 2) - 1) - c46) (zSl 1 v54) c45) fun (g58 : gm_T) =>
    cp_take_l114 c45 c46 fuel (v47 + 1) g58)))
    else
    (some g49))
noncomputable def cp_take_l102 (c33 : Int) : Nat → Int → gm_T → Option (gm_T)
  | 0, _, _ => none
  | fuel + 1, v34, g37 =>
    jg (rg v34 ∧ rg (gm_I g37 25 2))
    (if v34 < (gm_I g37 25 2) then
    (jb1 (cp_take_l114 c33 v34 fz 0 g37) fun (g64 : gm_T) =>
    cp_take_l102 c33 fuel (v34 + 1) g64)
    else
    (some g37))
noncomputable def cp_take (g : gm_T) (a2 : Int) (a3 : Int) (a4 : Int) : Option (gm_T) :=
    jl (gm_wI g 25 1 0) fun (g1 : gm_T) =>
    jb1 (cp_take_l5 a2 a3 a4 fz g1) fun (g11 : gm_T) =>
    jg ((0 ≤ ((gm_I g11 1 0) + 1) ∧ ((gm_I g11 1 0) + 1) ≤ 2147483647) ∧ (0 < ((gm_I g11 25 1) + 1) ∧ ((gm_I g11 25 1) + 1) ≤ 2147483647))
    (jl (gm_wI g11 25 2 (((gm_I g11 1 0) + 1) / ((gm_I g11 25 1) + 1))) fun (g12 : gm_T) =>
    jl (gm_wI g12 25 3 a2) fun (g13 : gm_T) =>
    jl (gm_wI g13 25 4 a3) fun (g14 : gm_T) =>
    jl (gm_wI g14 25 5 0) fun (g15 : gm_T) =>
    jb1 (cp_take_l77 a4 fz 0 g15) fun (g30 : gm_T) =>
    jb1 (cp_take_l102 a4 fz 0 g30) fun (g71 : gm_T) =>
    some g71)
noncomputable def cp_countAgreeing_l6 (g : gm_T) (i1 : Nat) (c3 : Int) (c4 : Int) (c5 : Int) : Nat → Int → Int → Option (Int)
  | 0, _, _ => none
  | fuel + 1, v6, v7 =>
    jg (rg v7 ∧ rg (gm_I g (bA i1) 7))
    (if v7 < (gm_I g (bA i1) 7) then
    (jg (0 ≤ v7 ∧ v7 < 5)
    (jb1 (cc_cellX g c3 (gm_I g (bA i1 + 5) v7.toNat) (gm_I g (bA i1 + 6) v7.toNat)) fun (v18 : Int) =>
    jl ((((v18 + c4) - (gm_I g 25 3)) + 3)) fun (v19 : Int) =>
    jb1 (cc_cellY g c3 (gm_I g (bA i1 + 5) v7.toNat) (gm_I g (bA i1 + 6) v7.toNat)) fun (v20 : Int) =>
    jl ((((v20 + c5) - (gm_I g 25 4)) + 3)) fun (v21 : Int) =>
    jb1 (
    jg (rg v19)
    (if v19 < 0 then
    (some 0)
    else
    (if v19 < 22 then
    (jg (rg v21)
    (if v21 < 0 then
    (some 0)
    else
    (if v21 < 22 then
    (some 1)
    else
    (some 0))))
    else
    (some 0)))) fun (v22 : Int) =>
    jg (rg v22)
    (if v22 = 0 then
    (cp_countAgreeing_l6 g i1 c3 c4 c5 fuel v6 (v7 + 1))
    else
    (jg (0 ≤ ((v21 * 22) + v19) ∧ ((v21 * 22) + v19) < 484)
    (if (zA (zSr (gm_I g 26 (((v21 * 22) + v19)).toNat) (gm_I g (bA i1 + 7) v7.toNat)) 1) = 0 then
    (cp_countAgreeing_l6 g i1 c3 c4 c5 fuel v6 (v7 + 1))
    else
    (cp_countAgreeing_l6 g i1 c3 c4 c5 fuel (v6 + 1) (v7 + 1)))))))
    else
    (some v6))
noncomputable def cp_countAgreeing (g : gm_T) (i1 : Nat) (a2 : Int) (a3 : Int) (a4 : Int) : Option (Int) :=
    jb1 (cp_countAgreeing_l6 g i1 a2 a3 a4 fz 0 0) fun (v31 : Int) =>
    some v31
noncomputable def cp_compare (g : gm_T) (a1 : Int) (a2 : Int64) : Option (gm_T) :=
    jg (rg a1 ∧ rg (gm_I g 25 6))
    (if a1 ≤ (gm_I g 25 6) then
    (if a1 = (gm_I g 25 6) then
    (jl (gm_wI g 25 7 ((gm_I g 25 7) + 1)) fun (g2 : gm_T) =>
    some g2)
    else
    (some g))
    else
    (jl (gm_wI g 25 6 a1) fun (g3 : gm_T) =>
    jl (gm_wJ g3 25 8 a2) fun (g4 : gm_T) =>
    jl (gm_wI g4 25 7 0) fun (g5 : gm_T) =>
    some g5))
noncomputable def cp_searchTurned_l45 (g : gm_T) (i3 : Nat) (c5 : Int) : Nat → Int → Int → Int → Int → Int → Option (Int × Int × Int × Int)
  | 0, _, _, _, _, _ => none
  | fuel + 1, v6, v7, v8, v9, v10 =>
    jg (rg v10 ∧ rg (gm_I g (bA i3) 7))
    (if v10 < (gm_I g (bA i3) 7) then
    (jg (0 ≤ v10 ∧ v10 < 5)
    (jb1 (cc_cellX g c5 (gm_I g (bA i3 + 5) v10.toNat) (gm_I g (bA i3 + 6) v10.toNat)) fun (v22 : Int) =>
    jb1 (cc_cellY g c5 (gm_I g (bA i3 + 5) v10.toNat) (gm_I g (bA i3 + 6) v10.toNat)) fun (v23 : Int) =>
    jg (rg v6 ∧ rg v22)
    (jl ((zmin v6 v22)) fun (v25 : Int) =>
    jg (rg v7 ∧ rg v23)
    (jl ((zmin v7 v23)) fun (v27 : Int) =>
    jg (rg v8)
    (jl ((zmax v8 v22)) fun (v29 : Int) =>
    jg (rg v9)
    (jl ((zmax v9 v23)) fun (v31 : Int) =>
    cp_searchTurned_l45 g i3 c5 fuel v25 v27 v29 v31 (v10 + 1)))))))
    else
    (some (v6, v7, v8, v9)))
noncomputable def cp_searchTurned_l168 (i57 : Nat) (c59 : Int) (c60 : Int) (c62 : Int) (c63 : Int) (c64 : Int) : Nat → Int → gm_T → Option (gm_T)
  | 0, _, _ => none
  | fuel + 1, v65, g67 =>
    jg (rg v65 ∧ rg (((gm_I g67 25 3) + (gm_I g67 25 1)) - c62))
    (if v65 < (((gm_I g67 25 3) + (gm_I g67 25 1)) - c62) then
    (jb1 (cp_countAgreeing g67 i57 c59 v65 c64) fun (v71 : Int) =>
    jb1 (cc_of g67 c59 v65 c64) fun (v72 : Int64) =>
    jb1 (cp_compare g67 v71 v72) fun (g73 : gm_T) =>
    cp_searchTurned_l168 i57 c59 c60 c62 c63 c64 fuel (v65 + 1) g73)
    else
    (some g67))
noncomputable def cp_searchTurned_l143 (i41 : Nat) (c43 : Int) (c44 : Int) (c46 : Int) (c47 : Int) : Nat → Int → gm_T → Option (gm_T)
  | 0, _, _ => none
  | fuel + 1, v48, g51 =>
    jg (rg v48 ∧ rg (((gm_I g51 25 4) + (gm_I g51 25 2)) - c47))
    (if v48 < (((gm_I g51 25 4) + (gm_I g51 25 2)) - c47) then
    (jl (((gm_I g51 25 3) - c44)) fun (v56 : Int) =>
    jb1 (cp_searchTurned_l168 i41 c43 c44 c46 c47 v48 fz v56 g51) fun (g78 : gm_T) =>
    cp_searchTurned_l143 i41 c43 c44 c46 c47 fuel (v48 + 1) g78)
    else
    (some g51))
noncomputable def cp_searchTurned (g : gm_T) (i1 : Nat) (a2 : Int) : Option (gm_T) :=
    jb1 (cc_cellX g a2 (gm_I g (bA i1 + 5) 0) (gm_I g (bA i1 + 6) 0)) fun (v1 : Int) =>
    jb1 (cc_cellY g a2 (gm_I g (bA i1 + 5) 0) (gm_I g (bA i1 + 6) 0)) fun (v2 : Int) =>
    jb4 (cp_searchTurned_l45 g i1 a2 fz v1 v2 v1 v2 1) fun (v33 : Int) (v34 : Int) (v35 : Int) (v36 : Int) =>
    jl (((gm_I g 25 4) - v34)) fun (v40 : Int) =>
    jb1 (cp_searchTurned_l143 i1 a2 v33 v35 v36 fz v40 g) fun (g84 : gm_T) =>
    some g84
noncomputable def cp_search_l21 (i4 : Nat) : Nat → Int → gm_T → Option (gm_T)
  | 0, _, _ => none
  | fuel + 1, v6, g7 =>
    jg (rg v6)
    (if v6 < 4 then
    (jb1 (cp_searchTurned g7 i4 v6) fun (g11 : gm_T) =>
    cp_search_l21 i4 fuel (v6 + 1) g11)
    else
    (some g7))
noncomputable def cp_search (g : gm_T) (i1 : Nat) : Option (Int × gm_T) :=
    jl (gm_wI g 25 6 (-1)) fun (g1 : gm_T) =>
    jl (gm_wI g1 25 7 0) fun (g2 : gm_T) =>
    jg (rg (gm_I g2 (bA i1) 7))
    (if (gm_I g2 (bA i1) 7) = 0 then
    (some (0, g2))
    else
    (jb1 (cp_search_l21 i1 fz 0 g2) fun (g14 : gm_T) =>
    jg (rg (gm_I g14 25 6))
    (if (gm_I g14 25 6) < 0 then
    (some (0, g14))
    else
    (some (1, g14)))))
noncomputable def cq_open (g : gm_T)  : Option (gm_T) :=
    jl (gm_wI g 40 6 ((gm_I g 40 6) + 1)) fun (g1 : gm_T) =>
    jg (0 ≤ (gm_I g1 40 6) ∧ (gm_I g1 40 6) < 241)
    (jl (gm_wI g1 41 ((gm_I g1 40 6)).toNat 0) fun (g2 : gm_T) =>
    jg (0 ≤ (gm_I g2 40 6) ∧ (gm_I g2 40 6) < 241)
    (jl (gm_wI g2 42 ((gm_I g2 40 6)).toNat (gm_I g2 40 7)) fun (g4 : gm_T) =>
    jg (0 ≤ (gm_I g4 40 6) ∧ (gm_I g4 40 6) < 241)
    (jl (gm_wI g4 43 ((gm_I g4 40 6)).toNat 0) fun (g6 : gm_T) =>
    some g6)))
noncomputable def cq_isLetter (g : gm_T) (a0 : Int) : Option (Int) :=
    jg (rg a0)
    (if a0 = 98 then
    (some 1)
    else
    (if a0 = 99 then
    (some 1)
    else
    (if a0 = 100 then
    (some 0)
    else
    (if a0 = 101 then
    (some 1)
    else
    (if a0 = 102 then
    (some 0)
    else
    (if a0 = 103 then
    (some 1)
    else
    (if a0 = 104 then
    (some 0)
    else
    (if a0 = 105 then
    (some 0)
    else
    (if a0 = 106 then
    (some 1)
    else
    (if a0 = 107 then
    (some 0)
    else
    (if a0 = 108 then
    (some 0)
    else
    (if a0 = 109 then
    (some 0)
    else
    (if a0 = 110 then
    (some 1)
    else
    (if a0 = 111 then
    (some 0)
    else
    (if a0 = 112 then
    (some 1)
    else
    (if a0 = 113 then
    (some 0)
    else
    (if a0 = 114 then
    (some 0)
    else
    (if a0 = 115 then
    (some 1)
    else
    (if a0 = 116 then
    (some 1)
    else
    (if a0 = 117 then
    (some 0)
    else
    (if a0 = 118 then
    (some 1)
    else
    (if a0 = 119 then
    (some 1)
    else
    (some 0)))))))))))))))))))))))
noncomputable def cq_valueOf (n : Nat) (g : gm_T) (a1 : Int) (a2 : Int) : Option (Int) :=
    jg (0 ≤ a2 ∧ a2 < (n : Int))
    (jg (rg a1)
    (if a1 = 99 then
    (some (gm_I g (bA a2.toNat) 7))
    else
    (if a1 = 100 then
    (jb1 (cx_boxNow g a2) fun (v50 : Int) =>
    jg (rg v50)
    (if v50 < 0 then
    (some 99)
    else
    (some v50)))
    else
    (if a1 = 101 then
    (some (gm_I g (bA a2.toNat) 3))
    else
    (if a1 = 102 then
    (jb1 (cx_boxNow g a2) fun (v48 : Int) =>
    jg (rg v48)
    (if v48 < 0 then
    (some 99)
    else
    (some v48)))
    else
    (if a1 = 103 then
    (jg (0 ≤ a2 ∧ a2 < 30)
    (jb1 (jd_bitCount g (gm_I g 19 a2.toNat)) fun (v47 : Int) =>
    some v47))
    else
    (if a1 = 104 then
    (jb1 (cx_boxNow g a2) fun (v44 : Int) =>
    jg (rg v44)
    (if v44 < 0 then
    (some 99)
    else
    (some v44)))
    else
    (if a1 = 105 then
    (jb1 (cx_boxNow g a2) fun (v42 : Int) =>
    jg (rg v42)
    (if v42 < 0 then
    (some 99)
    else
    (some v42)))
    else
    (if a1 = 106 then
    (jb1 (cj_countAt g a2) fun (v41 : Int) =>
    some v41)
    else
    (if a1 = 107 then
    (jb1 (cx_boxNow g a2) fun (v39 : Int) =>
    jg (rg v39)
    (if v39 < 0 then
    (some 99)
    else
    (some v39)))
    else
    (if a1 = 108 then
    (jb1 (cx_boxNow g a2) fun (v37 : Int) =>
    jg (rg v37)
    (if v37 < 0 then
    (some 99)
    else
    (some v37)))
    else
    (if a1 = 109 then
    (jb1 (cx_boxNow g a2) fun (v35 : Int) =>
    jg (rg v35)
    (if v35 < 0 then
    (some 99)
    else
    (some v35)))
    else
    (if a1 = 110 then
    (some (gm_I g (bA a2.toNat) 12))
    else
    (if a1 = 111 then
    (jb1 (cx_boxNow g a2) fun (v33 : Int) =>
    jg (rg v33)
    (if v33 < 0 then
    (some 99)
    else
    (some v33)))
    else
    (if a1 = 112 then
    (some (gm_I g (bA a2.toNat) 2))
    else
    (if a1 = 113 then
    (jb1 (cx_boxNow g a2) fun (v31 : Int) =>
    jg (rg v31)
    (if v31 < 0 then
    (some 99)
    else
    (some v31)))
    else
    (if a1 = 114 then
    (jb1 (cx_boxNow g a2) fun (v29 : Int) =>
    jg (rg v29)
    (if v29 < 0 then
    (some 99)
    else
    (some v29)))
    else
    (if a1 = 115 then
    (jg (rg (gm_I g (bA a2.toNat) 1))
    (if (gm_I g (bA a2.toNat) 1) < 0 then
    (some 9)
    else
    (some (gm_I g (bA a2.toNat) 1))))
    else
    (if a1 = 116 then
    (some (gm_I g (bA a2.toNat) 0))
    else
    (if a1 = 117 then
    (jb1 (cx_boxNow g a2) fun (v26 : Int) =>
    jg (rg v26)
    (if v26 < 0 then
    (some 99)
    else
    (some v26)))
    else
    (if a1 = 118 then
    (some (zA (zSr (gm_I g 40 9) a2) 1))
    else
    (if a1 = 119 then
    (some (zA (zSr (gm_I g 40 8) a2) 1))
    else
    (jb1 (cx_boxNow g a2) fun (v3 : Int) =>
    jg (rg v3)
    (if v3 < 0 then
    (some 99)
    else
    (some v3)))))))))))))))))))))))))
noncomputable def jd_compare (g : gm_T) (a0 : Int) (a1 : Int) : Option (Int) :=
    jg (rg a0 ∧ rg a1)
    (if a0 < a1 then
    (some (-1))
    else
    (if a0 = a1 then
    (some 0)
    else
    (some 1)))
noncomputable def cq_compareAll_l12 (n : Nat) (g : gm_T) (c2 : Int) (c4 : Int) (c5 : Int) : Nat → Int → Int → Option (Int)
  | 0, _, _ => none
  | fuel + 1, v6, v7 =>
    jg (rg v7 ∧ rg (gm_I g 10 1))
    (if v7 < (gm_I g 10 1) then
    (jb1 (cq_valueOf n g c2 v7) fun (v13 : Int) =>
    jb1 (jd_compare g v13 c4) fun (v14 : Int) =>
    jg (rg v14 ∧ rg c5)
    (if v14 = c5 then
    (jl ((zO v6 (zSl 1 v7))) fun (v16 : Int) =>
    cq_compareAll_l12 n g c2 c4 c5 fuel v16 (v7 + 1))
    else
    (cq_compareAll_l12 n g c2 c4 c5 fuel v6 (v7 + 1))))
    else
    (some v6))
noncomputable def cq_compareAll (n : Nat) (g : gm_T) (a1 : Int) (a2 : Int) (a3 : Int) : Option (Int) :=
    jl ((a2 - 61)) fun (v1 : Int) =>
    jb1 (cq_compareAll_l12 n g a1 a3 v1 fz 0 0) fun (v20 : Int) =>
    some v20
noncomputable def cq_close (g : gm_T) (a1 : Int) : Option (gm_T) :=
    jg (0 ≤ (gm_I g 40 6) ∧ (gm_I g 40 6) < 241)
    (jb1 (
    jg (rg (gm_I g 43 ((gm_I g 40 6)).toNat))
    (if (gm_I g 43 ((gm_I g 40 6)).toNat) = 0 then
    (some a1)
    else
    (some (zA (gm_I g 40 7) (zX a1 (-1)))))) fun (v2 : Int) =>
    jl (gm_wI g 42 ((gm_I g 40 6)).toNat (zA (gm_I g 42 ((gm_I g 40 6)).toNat) v2)) fun (g4 : gm_T) =>
    jg (0 ≤ (gm_I g4 40 6) ∧ (gm_I g4 40 6) < 241)
    (jl (gm_wI g4 43 ((gm_I g4 40 6)).toNat 0) fun (g5 : gm_T) =>
    some g5))
noncomputable def cq_readComparison_l69 (n : Nat) (g : gm_T) (c8 : Int) (c9 : Int) (c10 : Int) : Nat → Int → Int → Option (Int × Int)
  | 0, _, _ => none
  | fuel + 1, v11, v12 =>
    jg (rg v12 ∧ rg (c8 + 5))
    (if v12 < (c8 + 5) then
    (jg (rg v11)
    (if v11 ≤ 0 then
    (some (v11, v12))
    else
    (jb1 (ct_digit g v12) fun (v17 : Int) =>
    jg (rg v17)
    (if v17 < 0 then
    (some (v11, v12))
    else
    (jb1 (ct_digit g v12) fun (v19 : Int) =>
    jl (((10 * v11) + v19)) fun (v20 : Int) =>
    cq_readComparison_l69 n g c8 c9 c10 fuel v20 (v12 + 1))))))
    else
    (some (v11, v12)))
noncomputable def cq_readComparison (n : Nat) (g : gm_T) (a2 : Int) (a3 : Int) : Option (Int × gm_T) :=
    jb1 (cq_isLetter g a3) fun (v1 : Int) =>
    jg (rg v1)
    (if v1 = 0 then
    (some ((-a2), g))
    else
    (jb1 (ct_peek g (a2 + 1)) fun (v3 : Int) =>
    jg (rg v3)
    (if v3 = 60 then
    (jb1 (ct_digit g (a2 + 2)) fun (v5 : Int) =>
    jg (rg v5)
    (if v5 < 0 then
    (some (((-a2) - 2), g))
    else
    (jl ((a2 + 3)) fun (v7 : Int) =>
    jb2 (cq_readComparison_l69 n g a2 a3 v3 fz v5 v7) fun (v22 : Int) (v23 : Int) =>
    jb1 (cq_compareAll n g a3 v3 v22) fun (v24 : Int) =>
    jb1 (cq_close g v24) fun (g25 : gm_T) =>
    some (v23, g25))))
    else
    (if v3 = 61 then
    (jb1 (ct_digit g (a2 + 2)) fun (v26 : Int) =>
    jg (rg v26)
    (if v26 < 0 then
    (some (((-a2) - 2), g))
    else
    (jl ((a2 + 3)) fun (v28 : Int) =>
    jb2 (cq_readComparison_l69 n g a2 a3 v3 fz v26 v28) fun (v36 : Int) (v37 : Int) =>
    jb1 (cq_compareAll n g a3 v3 v36) fun (v38 : Int) =>
    jb1 (cq_close g v38) fun (g39 : gm_T) =>
    some (v37, g39))))
    else
    (if v3 = 62 then
    (jb1 (ct_digit g (a2 + 2)) fun (v40 : Int) =>
    jg (rg v40)
    (if v40 < 0 then
    (some (((-a2) - 2), g))
    else
    (jl ((a2 + 3)) fun (v42 : Int) =>
    jb2 (cq_readComparison_l69 n g a2 a3 v3 fz v40 v42) fun (v50 : Int) (v51 : Int) =>
    jb1 (cq_compareAll n g a3 v3 v50) fun (v52 : Int) =>
    jb1 (cq_close g v52) fun (g53 : gm_T) =>
    some (v51, g53))))
    else
    (some (((-a2) - 1), g)))))))
noncomputable def cq_readFactor (n : Nat) (g : gm_T) (a2 : Int) (a3 : Int) : Option (Int × gm_T) :=
    jg (rg a3)
    (if a3 = 33 then
    (jg (0 ≤ (gm_I g 40 6) ∧ (gm_I g 40 6) < 241)
    (jg (rg (gm_I g 43 ((gm_I g 40 6)).toNat))
    (if (gm_I g 43 ((gm_I g 40 6)).toNat) = 0 then
    (jl (gm_wI g 43 ((gm_I g 40 6)).toNat 1) fun (g4 : gm_T) =>
    some ((a2 + 1), g4))
    else
    (jl (gm_wI g 43 ((gm_I g 40 6)).toNat 0) fun (g5 : gm_T) =>
    some ((a2 + 1), g5)))))
    else
    (if a3 = 40 then
    (jb1 (cq_open g) fun (g6 : gm_T) =>
    some ((a2 + 1), g6))
    else
    (jb2 (cq_readComparison n g a2 a3) fun (v7 : Int) (g8 : gm_T) =>
    some (v7, g8))))
noncomputable def cq_readBehind (g : gm_T) (a1 : Int) (a2 : Int) : Option (Int × gm_T) :=
    jg (rg a2)
    (if a2 = 124 then
    (jg (0 ≤ (gm_I g 40 6) ∧ (gm_I g 40 6) < 241)
    (jl (gm_wI g 41 ((gm_I g 40 6)).toNat (zO (gm_I g 41 ((gm_I g 40 6)).toNat) (gm_I g 42 ((gm_I g 40 6)).toNat))) fun (g3 : gm_T) =>
    jg (0 ≤ (gm_I g3 40 6) ∧ (gm_I g3 40 6) < 241)
    (jl (gm_wI g3 42 ((gm_I g3 40 6)).toNat (gm_I g3 40 7)) fun (g4 : gm_T) =>
    some ((a1 + 1), g4))))
    else
    (if a2 = 41 then
    (jg (rg (gm_I g 40 6))
    (if (gm_I g 40 6) ≤ 0 then
    (if a2 = 38 then
    (some ((a1 + 1), g))
    else
    (some ((-a1), g)))
    else
    (jl (gm_wI g 40 6 ((gm_I g 40 6) - 1)) fun (g7 : gm_T) =>
    jg (0 ≤ ((gm_I g7 40 6) + 1) ∧ ((gm_I g7 40 6) + 1) < 241)
    (jb1 (cq_close g7 (zO (gm_I g7 41 (((gm_I g7 40 6) + 1)).toNat) (gm_I g7 42 (((gm_I g7 40 6) + 1)).toNat))) fun (g9 : gm_T) =>
    some ((a1 + 1), g9)))))
    else
    (if a2 = 38 then
    (some ((a1 + 1), g))
    else
    (some ((-a1), g)))))
noncomputable def cq_readTape_l39 (n : Nat)  : Nat → Int → Int → Int → gm_T → Option ((Int × gm_T) ⊕ (Int × gm_T))
  | 0, _, _, _, _ => none
  | fuel + 1, v9, v10, v11, g14 =>
    jg (rg v11)
    (if v11 < 240 then
    (jg (rg v10 ∧ rg (gm_I g14 1 0))
    (if v10 < (gm_I g14 1 0) then
    (jb1 (ct_peek g14 v10) fun (v23 : Int) =>
    jb2 (
    jg (rg v9)
    (if v9 = 0 then
    (jb2 (cq_readBehind g14 v10 v23) fun (v27 : Int) (g28 : gm_T) =>
    some (v27, g28))
    else
    (jb2 (cq_readFactor n g14 v10 v23) fun (v29 : Int) (g30 : gm_T) =>
    some (v29, g30)))) fun (v24 : Int) (g25 : gm_T) =>
    jg (rg v24)
    (if v24 ≤ v10 then
    (some (.inr ((-v24), g25)))
    else
    (jg (rg v9)
    (if v9 = 0 then
    (jg (rg v23)
    (if v23 = 41 then
    (cq_readTape_l39 n  fuel 0 v24 (v11 + 1) g25)
    else
    (cq_readTape_l39 n  fuel 1 v24 (v11 + 1) g25)))
    else
    (jg (rg v23)
    (if v23 = 33 then
    (cq_readTape_l39 n  fuel 1 v24 (v11 + 1) g25)
    else
    (if v23 = 40 then
    (cq_readTape_l39 n  fuel 1 v24 (v11 + 1) g25)
    else
    (cq_readTape_l39 n  fuel 0 v24 (v11 + 1) g25))))))))
    else
    (some (.inl (v9, g14)))))
    else
    (some (.inl (v9, g14))))
noncomputable def cq_readTape (n : Nat) (g : gm_T) (a2 : Int) (a3 : Int) : Option (Int × gm_T) :=
    jb1 (cf_allBits g) fun (v1 : Int) =>
    jl (gm_wI g 40 7 v1) fun (g2 : gm_T) =>
    jl (gm_wI g2 40 8 a2) fun (g3 : gm_T) =>
    jl (gm_wI g3 40 9 a3) fun (g4 : gm_T) =>
    jl (gm_wI g4 40 6 (-1)) fun (g5 : gm_T) =>
    jb1 (cq_open g5) fun (g6 : gm_T) =>
    jc2 (ρ := Int × gm_T) (cq_readTape_l39 n  fz 1 0 0 g6) some fun (v42 : Int) (g47 : gm_T) =>
    jg (rg v42)
    (if v42 = 0 then
    (jg (rg (gm_I g47 40 6))
    (if (gm_I g47 40 6) ≤ 0 then
    (jl (gm_wI g47 40 10 (zO (gm_I g47 41 0) (gm_I g47 42 0))) fun (g50 : gm_T) =>
    some ((-1), g50))
    else
    (some ((gm_I g47 1 0), g47))))
    else
    (some ((gm_I g47 1 0), g47)))
noncomputable def ck_skip (g : gm_T) (a1 : Int) : Option (Int × gm_T) :=
    jb1 (ct_peek g (gm_I g 3 1)) fun (v1 : Int) =>
    jg (rg v1 ∧ rg a1)
    (if v1 = a1 then
    (jl (gm_wI g 3 1 ((gm_I g 3 1) + 1)) fun (g3 : gm_T) =>
    some (1, g3))
    else
    (some (0, g)))
noncomputable def ck_readCoordinate (g : gm_T)  : Option (Int × gm_T) :=
    jb2 (ck_skip g 45) fun (v1 : Int) (g2 : gm_T) =>
    jb1 (ct_digit g2 (gm_I g2 3 1)) fun (v3 : Int) =>
    jg (rg v3)
    (if v3 < 0 then
    (some (0, g2))
    else
    (jg (rg v1)
    (if v1 = 0 then
    (jl (gm_wI g2 3 1 ((gm_I g2 3 1) + 1)) fun (g6 : gm_T) =>
    if v3 ≤ 0 then
    (if v1 = 0 then
    (jl (gm_wI g6 3 2 v3) fun (g7 : gm_T) =>
    some (1, g7))
    else
    (jl (gm_wI g6 3 2 (-v3)) fun (g8 : gm_T) =>
    some (1, g8)))
    else
    (jb1 (ct_digit g6 (gm_I g6 3 1)) fun (v9 : Int) =>
    jg (rg v9)
    (if v9 < 0 then
    (if v1 = 0 then
    (jl (gm_wI g6 3 2 v3) fun (g11 : gm_T) =>
    some (1, g11))
    else
    (jl (gm_wI g6 3 2 (-v3)) fun (g12 : gm_T) =>
    some (1, g12)))
    else
    (jb1 (ct_digit g6 (gm_I g6 3 1)) fun (v13 : Int) =>
    jl (((10 * v3) + v13)) fun (v14 : Int) =>
    jg (rg v14)
    (if v14 ≤ 20 then
    (jl (gm_wI g6 3 1 ((gm_I g6 3 1) + 1)) fun (g16 : gm_T) =>
    if v1 = 0 then
    (jl (gm_wI g16 3 2 v14) fun (g17 : gm_T) =>
    some (1, g17))
    else
    (jl (gm_wI g16 3 2 (-v14)) fun (g18 : gm_T) =>
    some (1, g18)))
    else
    (some (0, g6)))))))
    else
    (if v3 = 0 then
    (some (0, g2))
    else
    (jl (gm_wI g2 3 1 ((gm_I g2 3 1) + 1)) fun (g19 : gm_T) =>
    if v3 ≤ 0 then
    (if v1 = 0 then
    (jl (gm_wI g19 3 2 v3) fun (g20 : gm_T) =>
    some (1, g20))
    else
    (jl (gm_wI g19 3 2 (-v3)) fun (g21 : gm_T) =>
    some (1, g21)))
    else
    (jb1 (ct_digit g19 (gm_I g19 3 1)) fun (v22 : Int) =>
    jg (rg v22)
    (if v22 < 0 then
    (if v1 = 0 then
    (jl (gm_wI g19 3 2 v3) fun (g24 : gm_T) =>
    some (1, g24))
    else
    (jl (gm_wI g19 3 2 (-v3)) fun (g25 : gm_T) =>
    some (1, g25)))
    else
    (jb1 (ct_digit g19 (gm_I g19 3 1)) fun (v26 : Int) =>
    jl (((10 * v3) + v26)) fun (v27 : Int) =>
    jg (rg v27)
    (if v27 ≤ 20 then
    (jl (gm_wI g19 3 1 ((gm_I g19 3 1) + 1)) fun (g29 : gm_T) =>
    if v1 = 0 then
    (jl (gm_wI g29 3 2 v27) fun (g30 : gm_T) =>
    some (1, g30))
    else
    (jl (gm_wI g29 3 2 (-v27)) fun (g31 : gm_T) =>
    some (1, g31)))
    else
    (some (0, g19)))))))))))
noncomputable def ck_readPoint_4 (g : gm_T) (a1 : Int) (a5 : Int) : Option (Int × gm_T) :=
    jb2 (ck_readCoordinate g) fun (v1 : Int) (g2 : gm_T) =>
    jg (rg v1)
    (if v1 = 0 then
    (some (0, g2))
    else
    (jg (0 ≤ a5 ∧ a5 < 8)
    (jl (gm_wI g2 4 a5.toNat (gm_I g2 3 2)) fun (g4 : gm_T) =>
    jb2 (ck_skip g4 44) fun (v6 : Int) (g7 : gm_T) =>
    jg (rg v6)
    (if v6 = 0 then
    (some (0, g7))
    else
    (jb2 (ck_readCoordinate g7) fun (v9 : Int) (g10 : gm_T) =>
    jg (rg v9)
    (if v9 = 0 then
    (some (0, g10))
    else
    (jl (gm_wI g10 5 a5.toNat (gm_I g10 3 2)) fun (g12 : gm_T) =>
    jb2 (ck_skip g12 a1) fun (v13 : Int) (g14 : gm_T) =>
    jg (rg v13)
    (if v13 = 0 then
    (some (0, g14))
    else
    (jb1 (ct_digit g14 (gm_I g14 3 1)) fun (v16 : Int) =>
    jg (rg v16)
    (if v16 < 0 then
    (some (0, g14))
    else
    (jb1 (ct_digit g14 (gm_I g14 3 1)) fun (v18 : Int) =>
    jl (gm_wI g14 6 a5.toNat v18) fun (g19 : gm_T) =>
    jl (gm_wI g19 3 1 ((gm_I g19 3 1) + 1)) fun (g20 : gm_T) =>
    some (1, g20))))))))))))
noncomputable def ck_readPoint_7 (g : gm_T) (a1 : Int) (a5 : Int) : Option (Int × gm_T) :=
    jb2 (ck_readCoordinate g) fun (v1 : Int) (g2 : gm_T) =>
    jg (rg v1)
    (if v1 = 0 then
    (some (0, g2))
    else
    (jg (0 ≤ a5 ∧ a5 < 5)
    (jl (gm_wI g2 7 a5.toNat (gm_I g2 3 2)) fun (g4 : gm_T) =>
    jb2 (ck_skip g4 44) fun (v6 : Int) (g7 : gm_T) =>
    jg (rg v6)
    (if v6 = 0 then
    (some (0, g7))
    else
    (jb2 (ck_readCoordinate g7) fun (v9 : Int) (g10 : gm_T) =>
    jg (rg v9)
    (if v9 = 0 then
    (some (0, g10))
    else
    (jl (gm_wI g10 8 a5.toNat (gm_I g10 3 2)) fun (g12 : gm_T) =>
    jb2 (ck_skip g12 a1) fun (v13 : Int) (g14 : gm_T) =>
    jg (rg v13)
    (if v13 = 0 then
    (some (0, g14))
    else
    (jb1 (ct_digit g14 (gm_I g14 3 1)) fun (v16 : Int) =>
    jg (rg v16)
    (if v16 < 0 then
    (some (0, g14))
    else
    (jb1 (ct_digit g14 (gm_I g14 3 1)) fun (v18 : Int) =>
    jl (gm_wI g14 9 a5.toNat v18) fun (g19 : gm_T) =>
    jl (gm_wI g19 3 1 ((gm_I g19 3 1) + 1)) fun (g20 : gm_T) =>
    some (1, g20))))))))))))
noncomputable def ck_readTape_l15  : Nat → gm_T → Option ((gm_T) ⊕ (Int × gm_T))
  | 0, _ => none
  | fuel + 1, g4 =>
    jg (rg (gm_I g4 3 3))
    (if (gm_I g4 3 3) < 8 then
    (if (gm_I g4 3 3) = 0 then
    (jb2 (ck_readPoint_4 g4 58 (gm_I g4 3 3)) fun (v7 : Int) (g8 : gm_T) =>
    jg (rg v7)
    (if v7 = 0 then
    (some (.inr ((gm_I g8 3 1), g8)))
    else
    (jl (gm_wI g8 3 3 ((gm_I g8 3 3) + 1)) fun (g10 : gm_T) =>
    ck_readTape_l15  fuel g10)))
    else
    (jb2 (ck_skip g4 59) fun (v11 : Int) (g12 : gm_T) =>
    jg (rg v11)
    (if v11 = 0 then
    (some (.inl g12))
    else
    (jb2 (ck_readPoint_4 g12 58 (gm_I g12 3 3)) fun (v14 : Int) (g15 : gm_T) =>
    jg (rg v14)
    (if v14 = 0 then
    (some (.inr ((gm_I g15 3 1), g15)))
    else
    (jl (gm_wI g15 3 3 ((gm_I g15 3 3) + 1)) fun (g17 : gm_T) =>
    ck_readTape_l15  fuel g17))))))
    else
    (some (.inl g4)))
noncomputable def ck_readTape_l96  : Nat → gm_T → Option ((gm_T) ⊕ (Int × gm_T))
  | 0, _ => none
  | fuel + 1, g20 =>
    jg (rg (gm_I g20 3 7))
    (if (gm_I g20 3 7) < 5 then
    (jb2 (ck_skip g20 124) fun (v23 : Int) (g24 : gm_T) =>
    jg (rg v23)
    (if v23 = 0 then
    (some (.inl g24))
    else
    (jb2 (ck_readPoint_7 g24 61 (gm_I g24 3 7)) fun (v26 : Int) (g27 : gm_T) =>
    jg (rg v26)
    (if v26 = 0 then
    (some (.inr ((gm_I g27 3 1), g27)))
    else
    (jl (gm_wI g27 3 7 ((gm_I g27 3 7) + 1)) fun (g29 : gm_T) =>
    ck_readTape_l96  fuel g29)))))
    else
    (some (.inl g20)))
noncomputable def ck_readTape (g : gm_T)  : Option (Int × gm_T) :=
    jl (gm_wI g 3 1 0) fun (g1 : gm_T) =>
    jl (gm_wI g1 3 3 0) fun (g2 : gm_T) =>
    jl (gm_wI g2 3 7 0) fun (g3 : gm_T) =>
    jc1 (ρ := Int × gm_T) (ck_readTape_l15  fz g3) some fun (g18 : gm_T) =>
    jg (rg (gm_I g18 3 3))
    (if (gm_I g18 3 3) < 3 then
    (some ((gm_I g18 3 1), g18))
    else
    (jc1 (ρ := Int × gm_T) (ck_readTape_l96  fz g18) some fun (g30 : gm_T) =>
    jg (rg (gm_I g30 3 1) ∧ rg (gm_I g30 1 0))
    (if (gm_I g30 3 1) = (gm_I g30 1 0) then
    (some ((-1), g30))
    else
    (some ((gm_I g30 3 1), g30)))))
noncomputable def ck_next (g : gm_T) (a1 : Int) : Option (Int) :=
    jg (rg (a1 + 1) ∧ rg (gm_I g 3 3))
    (if (a1 + 1) < (gm_I g 3 3) then
    (some (a1 + 1))
    else
    (some 0))
noncomputable def ck_foldsBack (g : gm_T) (a1 : Int) (a2 : Int) : Option (Int) :=
    jb1 (ck_next g a1) fun (v1 : Int) =>
    jg (0 ≤ v1 ∧ v1 < 8)
    (jg (0 ≤ a1 ∧ a1 < 8)
    (jl (((gm_I g 4 v1.toNat) - (gm_I g 4 a1.toNat))) fun (v4 : Int) =>
    jb1 (ck_next g a1) fun (v5 : Int) =>
    jg (0 ≤ v5 ∧ v5 < 8)
    (jl (((gm_I g 5 v5.toNat) - (gm_I g 5 a1.toNat))) fun (v7 : Int) =>
    jb1 (ck_next g a2) fun (v8 : Int) =>
    jg (0 ≤ v8 ∧ v8 < 8)
    (jg (0 ≤ a2 ∧ a2 < 8)
    (jl (((gm_I g 4 v8.toNat) - (gm_I g 4 a2.toNat))) fun (v11 : Int) =>
    jb1 (ck_next g a2) fun (v12 : Int) =>
    jg (0 ≤ v12 ∧ v12 < 8)
    (jl (((gm_I g 5 v12.toNat) - (gm_I g 5 a2.toNat))) fun (v14 : Int) =>
    jg (rg ((v4 * v14) - (v7 * v11)))
    (if ((v4 * v14) - (v7 * v11)) = 0 then
    (jg (rg ((v4 * v11) + (v7 * v14)))
    (if ((v4 * v11) + (v7 * v14)) < 0 then
    (some 1)
    else
    (some 0)))
    else
    (some 0))))))))
noncomputable def ck_side (g : gm_T) (a1 : Int) (a2 : Int) : Option (Int) :=
    jb1 (ck_next g a1) fun (v1 : Int) =>
    jg (0 ≤ v1 ∧ v1 < 8)
    (jg (0 ≤ a1 ∧ a1 < 8)
    (jg (0 ≤ a2 ∧ a2 < 8)
    (jl (((((gm_I g 4 v1.toNat) - (gm_I g 4 a1.toNat)) * ((gm_I g 5 a2.toNat) - (gm_I g 5 a1.toNat))) - (((gm_I g 5 v1.toNat) - (gm_I g 5 a1.toNat)) * ((gm_I g 4 a2.toNat) - (gm_I g 4 a1.toNat))))) fun (v5 : Int) =>
    jb1 (jd_compare g v5 0) fun (v6 : Int) =>
    some v6)))
noncomputable def ck_spans (g : gm_T) (a1 : Int) (a2 : Int) : Option (Int) :=
    jb1 (ck_next g a1) fun (v1 : Int) =>
    jg (0 ≤ a1 ∧ a1 < 8)
    (jg (0 ≤ v1 ∧ v1 < 8)
    (jg (rg (gm_I g 4 a1.toNat) ∧ rg (gm_I g 4 v1.toNat))
    (jg (0 ≤ a2 ∧ a2 < 8)
    (jg (rg (zmin (gm_I g 4 a1.toNat) (gm_I g 4 v1.toNat)) ∧ rg (gm_I g 4 a2.toNat))
    (if (zmin (gm_I g 4 a1.toNat) (gm_I g 4 v1.toNat)) ≤ (gm_I g 4 a2.toNat) then
    (jg (rg (zmax (gm_I g 4 a1.toNat) (gm_I g 4 v1.toNat)))
    (if (gm_I g 4 a2.toNat) ≤ (zmax (gm_I g 4 a1.toNat) (gm_I g 4 v1.toNat)) then
    (jg (rg (gm_I g 5 a1.toNat) ∧ rg (gm_I g 5 v1.toNat))
    (jg (rg (zmin (gm_I g 5 a1.toNat) (gm_I g 5 v1.toNat)) ∧ rg (gm_I g 5 a2.toNat))
    (if (zmin (gm_I g 5 a1.toNat) (gm_I g 5 v1.toNat)) ≤ (gm_I g 5 a2.toNat) then
    (jg (rg (zmax (gm_I g 5 a1.toNat) (gm_I g 5 v1.toNat)))
    (if (gm_I g 5 a2.toNat) ≤ (zmax (gm_I g 5 a1.toNat) (gm_I g 5 v1.toNat)) then
    (some 1)
    else
    (some 0)))
    else
    (some 0))))
    else
    (some 0)))
    else
    (some 0))))))
noncomputable def ck_cross (g : gm_T) (a1 : Int) (a2 : Int) : Option (Int) :=
    jb1 (ck_side g a1 a2) fun (v1 : Int) =>
    jb1 (ck_next g a2) fun (v2 : Int) =>
    jb1 (ck_side g a1 v2) fun (v3 : Int) =>
    jb1 (ck_side g a2 a1) fun (v4 : Int) =>
    jb1 (ck_next g a1) fun (v5 : Int) =>
    jb1 (ck_side g a2 v5) fun (v6 : Int) =>
    jg (rg (v1 * v3))
    (if (v1 * v3) < 0 then
    (jg (rg (v4 * v6))
    (if (v4 * v6) < 0 then
    (some 1)
    else
    (jg (rg v1)
    (if v1 = 0 then
    (jb1 (ck_spans g a1 a2) fun (v10 : Int) =>
    jg (rg v10)
    (if v10 = 0 then
    (jg (rg v3)
    (if v3 = 0 then
    (jb1 (ck_next g a2) fun (v13 : Int) =>
    jb1 (ck_spans g a1 v13) fun (v14 : Int) =>
    jg (rg v14)
    (if v14 = 0 then
    (jg (rg v4)
    (if v4 = 0 then
    (jb1 (ck_spans g a2 a1) fun (v17 : Int) =>
    jg (rg v17)
    (if v17 = 0 then
    (jg (rg v6)
    (if v6 = 0 then
    (jb1 (ck_next g a1) fun (v20 : Int) =>
    jb1 (ck_spans g a2 v20) fun (v21 : Int) =>
    jg (rg v21)
    (if v21 = 0 then
    (some 0)
    else
    (some 1)))
    else
    (some 0)))
    else
    (some 1)))
    else
    (jg (rg v6)
    (if v6 = 0 then
    (jb1 (ck_next g a1) fun (v24 : Int) =>
    jb1 (ck_spans g a2 v24) fun (v25 : Int) =>
    jg (rg v25)
    (if v25 = 0 then
    (some 0)
    else
    (some 1)))
    else
    (some 0)))))
    else
    (some 1)))
    else
    (jg (rg v4)
    (if v4 = 0 then
    (jb1 (ck_spans g a2 a1) fun (v28 : Int) =>
    jg (rg v28)
    (if v28 = 0 then
    (jg (rg v6)
    (if v6 = 0 then
    (jb1 (ck_next g a1) fun (v31 : Int) =>
    jb1 (ck_spans g a2 v31) fun (v32 : Int) =>
    jg (rg v32)
    (if v32 = 0 then
    (some 0)
    else
    (some 1)))
    else
    (some 0)))
    else
    (some 1)))
    else
    (jg (rg v6)
    (if v6 = 0 then
    (jb1 (ck_next g a1) fun (v35 : Int) =>
    jb1 (ck_spans g a2 v35) fun (v36 : Int) =>
    jg (rg v36)
    (if v36 = 0 then
    (some 0)
    else
    (some 1)))
    else
    (some 0)))))))
    else
    (some 1)))
    else
    (jg (rg v3)
    (if v3 = 0 then
    (jb1 (ck_next g a2) fun (v39 : Int) =>
    jb1 (ck_spans g a1 v39) fun (v40 : Int) =>
    jg (rg v40)
    (if v40 = 0 then
    (jg (rg v4)
    (if v4 = 0 then
    (jb1 (ck_spans g a2 a1) fun (v43 : Int) =>
    jg (rg v43)
    (if v43 = 0 then
    (jg (rg v6)
    (if v6 = 0 then
    (jb1 (ck_next g a1) fun (v46 : Int) =>
    jb1 (ck_spans g a2 v46) fun (v47 : Int) =>
    jg (rg v47)
    (if v47 = 0 then
    (some 0)
    else
    (some 1)))
    else
    (some 0)))
    else
    (some 1)))
    else
    (jg (rg v6)
    (if v6 = 0 then
    (jb1 (ck_next g a1) fun (v50 : Int) =>
    jb1 (ck_spans g a2 v50) fun (v51 : Int) =>
    jg (rg v51)
    (if v51 = 0 then
    (some 0)
    else
    (some 1)))
    else
    (some 0)))))
    else
    (some 1)))
    else
    (jg (rg v4)
    (if v4 = 0 then
    (jb1 (ck_spans g a2 a1) fun (v54 : Int) =>
    jg (rg v54)
    (if v54 = 0 then
    (jg (rg v6)
    (if v6 = 0 then
    (jb1 (ck_next g a1) fun (v57 : Int) =>
    jb1 (ck_spans g a2 v57) fun (v58 : Int) =>
    jg (rg v58)
    (if v58 = 0 then
    (some 0)
    else
    (some 1)))
    else
    (some 0)))
    else
    (some 1)))
    else
    (jg (rg v6)
    (if v6 = 0 then
    (jb1 (ck_next g a1) fun (v61 : Int) =>
    jb1 (ck_spans g a2 v61) fun (v62 : Int) =>
    jg (rg v62)
    (if v62 = 0 then
    (some 0)
    else
    (some 1)))
    else
    (some 0)))))))))))
    else
    (jg (rg v1)
    (if v1 = 0 then
    (jb1 (ck_spans g a1 a2) fun (v65 : Int) =>
    jg (rg v65)
    (if v65 = 0 then
    (jg (rg v3)
    (if v3 = 0 then
    (jb1 (ck_next g a2) fun (v68 : Int) =>
    jb1 (ck_spans g a1 v68) fun (v69 : Int) =>
    jg (rg v69)
    (if v69 = 0 then
    (jg (rg v4)
    (if v4 = 0 then
    (jb1 (ck_spans g a2 a1) fun (v72 : Int) =>
    jg (rg v72)
    (if v72 = 0 then
    (jg (rg v6)
    (if v6 = 0 then
    (jb1 (ck_next g a1) fun (v75 : Int) =>
    jb1 (ck_spans g a2 v75) fun (v76 : Int) =>
    jg (rg v76)
    (if v76 = 0 then
    (some 0)
    else
    (some 1)))
    else
    (some 0)))
    else
    (some 1)))
    else
    (jg (rg v6)
    (if v6 = 0 then
    (jb1 (ck_next g a1) fun (v79 : Int) =>
    jb1 (ck_spans g a2 v79) fun (v80 : Int) =>
    jg (rg v80)
    (if v80 = 0 then
    (some 0)
    else
    (some 1)))
    else
    (some 0)))))
    else
    (some 1)))
    else
    (jg (rg v4)
    (if v4 = 0 then
    (jb1 (ck_spans g a2 a1) fun (v83 : Int) =>
    jg (rg v83)
    (if v83 = 0 then
    (jg (rg v6)
    (if v6 = 0 then
    (jb1 (ck_next g a1) fun (v86 : Int) =>
    jb1 (ck_spans g a2 v86) fun (v87 : Int) =>
    jg (rg v87)
    (if v87 = 0 then
    (some 0)
    else
    (some 1)))
    else
    (some 0)))
    else
    (some 1)))
    else
    (jg (rg v6)
    (if v6 = 0 then
    (jb1 (ck_next g a1) fun (v90 : Int) =>
    jb1 (ck_spans g a2 v90) fun (v91 : Int) =>
    jg (rg v91)
    (if v91 = 0 then
    (some 0)
    else
    (some 1)))
    else
    (some 0)))))))
    else
    (some 1)))
    else
    (jg (rg v3)
    (if v3 = 0 then
    (jb1 (ck_next g a2) fun (v94 : Int) =>
    jb1 (ck_spans g a1 v94) fun (v95 : Int) =>
    jg (rg v95)
    (if v95 = 0 then
    (jg (rg v4)
    (if v4 = 0 then
    (jb1 (ck_spans g a2 a1) fun (v98 : Int) =>
    jg (rg v98)
    (if v98 = 0 then
    (jg (rg v6)
    (if v6 = 0 then
    (jb1 (ck_next g a1) fun (v101 : Int) =>
    jb1 (ck_spans g a2 v101) fun (v102 : Int) =>
    jg (rg v102)
    (if v102 = 0 then
    (some 0)
    else
    (some 1)))
    else
    (some 0)))
    else
    (some 1)))
    else
    (jg (rg v6)
    (if v6 = 0 then
    (jb1 (ck_next g a1) fun (v105 : Int) =>
    jb1 (ck_spans g a2 v105) fun (v106 : Int) =>
    jg (rg v106)
    (if v106 = 0 then
    (some 0)
    else
    (some 1)))
    else
    (some 0)))))
    else
    (some 1)))
    else
    (jg (rg v4)
    (if v4 = 0 then
    (jb1 (ck_spans g a2 a1) fun (v109 : Int) =>
    jg (rg v109)
    (if v109 = 0 then
    (jg (rg v6)
    (if v6 = 0 then
    (jb1 (ck_next g a1) fun (v112 : Int) =>
    jb1 (ck_spans g a2 v112) fun (v113 : Int) =>
    jg (rg v113)
    (if v113 = 0 then
    (some 0)
    else
    (some 1)))
    else
    (some 0)))
    else
    (some 1)))
    else
    (jg (rg v6)
    (if v6 = 0 then
    (jb1 (ck_next g a1) fun (v116 : Int) =>
    jb1 (ck_spans g a2 v116) fun (v117 : Int) =>
    jg (rg v117)
    (if v117 = 0 then
    (some 0)
    else
    (some 1)))
    else
    (some 0))))))))))
noncomputable def ck_meetWrongly (g : gm_T) (a1 : Int) (a2 : Int) : Option (Int) :=
    jb1 (ck_next g a1) fun (v1 : Int) =>
    jg (rg v1 ∧ rg a2)
    (if v1 = a2 then
    (jb1 (ck_foldsBack g a1 a2) fun (v3 : Int) =>
    jg (v3 = 0 ∨ v3 = 1) (some v3))
    else
    (jb1 (ck_next g a2) fun (v4 : Int) =>
    jg (rg v4 ∧ rg a1)
    (if v4 = a1 then
    (jb1 (ck_foldsBack g a2 a1) fun (v6 : Int) =>
    jg (v6 = 0 ∨ v6 = 1) (some v6))
    else
    (jb1 (ck_cross g a1 a2) fun (v7 : Int) =>
    jg (v7 = 0 ∨ v7 = 1) (some v7)))))
noncomputable def ck_twiceArea_l4 (g : gm_T)  : Nat → Int → Int → Option (Int)
  | 0, _, _ => none
  | fuel + 1, v1, v2 =>
    jg (rg v2 ∧ rg (gm_I g 3 3))
    (if v2 < (gm_I g 3 3) then
    (jb1 (ck_next g v2) fun (v8 : Int) =>
    jg (0 ≤ v2 ∧ v2 < 8)
    (jg (0 ≤ v8 ∧ v8 < 8)
    (jl ((v1 + (((gm_I g 4 v2.toNat) * (gm_I g 5 v8.toNat)) - ((gm_I g 4 v8.toNat) * (gm_I g 5 v2.toNat))))) fun (v11 : Int) =>
    ck_twiceArea_l4 g fuel v11 (v2 + 1))))
    else
    (some v1))
noncomputable def ck_twiceArea (g : gm_T)  : Option (Int) :=
    jb1 (ck_twiceArea_l4 g fz 0 0) fun (v13 : Int) =>
    some v13
noncomputable def ck_isRing_l2 (g : gm_T)  : Nat → Int → Option ((Unit) ⊕ (Int))
  | 0, _ => none
  | fuel + 1, v1 =>
    jg (rg v1 ∧ rg (gm_I g 3 3))
    (if v1 < (gm_I g 3 3) then
    (jb1 (ck_next g v1) fun (v6 : Int) =>
    jg (0 ≤ v1 ∧ v1 < 8)
    (jg (0 ≤ v6 ∧ v6 < 8)
    (jg (rg (gm_I g 4 v1.toNat) ∧ rg (gm_I g 4 v6.toNat))
    (if (gm_I g 4 v1.toNat) = (gm_I g 4 v6.toNat) then
    (jg (rg (gm_I g 5 v1.toNat) ∧ rg (gm_I g 5 v6.toNat))
    (if (gm_I g 5 v1.toNat) = (gm_I g 5 v6.toNat) then
    (some (.inr 0))
    else
    (ck_isRing_l2 g fuel (v1 + 1))))
    else
    (ck_isRing_l2 g fuel (v1 + 1))))))
    else
    (some (.inl ())))
noncomputable def ck_isRing_l68 (g : gm_T) (c21 : Int) : Nat → Int → Option ((Unit) ⊕ (Int))
  | 0, _ => none
  | fuel + 1, v22 =>
    jg (rg v22 ∧ rg (gm_I g 3 3))
    (if v22 < (gm_I g 3 3) then
    (jb1 (ck_meetWrongly g c21 v22) fun (v25 : Int) =>
    jg (rg v25)
    (if v25 = 0 then
    (ck_isRing_l68 g c21 fuel (v22 + 1))
    else
    (some (.inr 0))))
    else
    (some (.inl ())))
noncomputable def ck_isRing_l56 (g : gm_T)  : Nat → Int → Option ((Unit) ⊕ (Int))
  | 0, _ => none
  | fuel + 1, v15 =>
    jg (rg v15 ∧ rg (gm_I g 3 3))
    (if v15 < (gm_I g 3 3) then
    (jl ((v15 + 1)) fun (v20 : Int) =>
    jc1 (ρ := Int) (ck_isRing_l68 g v15 fz v20) (fun r => some (.inr r)) fun _u =>
    ck_isRing_l56 g fuel (v15 + 1))
    else
    (some (.inl ())))
noncomputable def ck_isRing (g : gm_T)  : Option (Int) :=
    jc1 (ρ := Int) (ck_isRing_l2 g fz 0) some fun _u =>
    jc1 (ρ := Int) (ck_isRing_l56 g fz 0) some fun _u =>
    jb1 (ck_twiceArea g) fun (v32 : Int) =>
    jg (rg v32)
    (if v32 ≤ 0 then
    (some 0)
    else
    (some 1))
noncomputable def ck_least_4_l6 (g : gm_T)  : Nat → Int → Int → Option (Int)
  | 0, _, _ => none
  | fuel + 1, v2, v3 =>
    jg (rg v3 ∧ rg (gm_I g 3 3))
    (if v3 < (gm_I g 3 3) then
    (jg (0 ≤ v3 ∧ v3 < 8)
    (jg (rg v2 ∧ rg (gm_I g 4 v3.toNat))
    (jl ((zmin v2 (gm_I g 4 v3.toNat))) fun (v9 : Int) =>
    ck_least_4_l6 g fuel v9 (v3 + 1))))
    else
    (some v2))
noncomputable def ck_least_4 (g : gm_T)  : Option (Int) :=
    jl ((gm_I g 4 0)) fun (v1 : Int) =>
    jb1 (ck_least_4_l6 g fz v1 1) fun (v11 : Int) =>
    some v11
noncomputable def ck_least_5_l6 (g : gm_T)  : Nat → Int → Int → Option (Int)
  | 0, _, _ => none
  | fuel + 1, v2, v3 =>
    jg (rg v3 ∧ rg (gm_I g 3 3))
    (if v3 < (gm_I g 3 3) then
    (jg (0 ≤ v3 ∧ v3 < 8)
    (jg (rg v2 ∧ rg (gm_I g 5 v3.toNat))
    (jl ((zmin v2 (gm_I g 5 v3.toNat))) fun (v9 : Int) =>
    ck_least_5_l6 g fuel v9 (v3 + 1))))
    else
    (some v2))
noncomputable def ck_least_5 (g : gm_T)  : Option (Int) :=
    jl ((gm_I g 5 0)) fun (v1 : Int) =>
    jb1 (ck_least_5_l6 g fz v1 1) fun (v11 : Int) =>
    some v11
noncomputable def ck_most_4_l6 (g : gm_T)  : Nat → Int → Int → Option (Int)
  | 0, _, _ => none
  | fuel + 1, v2, v3 =>
    jg (rg v3 ∧ rg (gm_I g 3 3))
    (if v3 < (gm_I g 3 3) then
    (jg (0 ≤ v3 ∧ v3 < 8)
    (jg (rg v2 ∧ rg (gm_I g 4 v3.toNat))
    (jl ((zmax v2 (gm_I g 4 v3.toNat))) fun (v9 : Int) =>
    ck_most_4_l6 g fuel v9 (v3 + 1))))
    else
    (some v2))
noncomputable def ck_most_4 (g : gm_T)  : Option (Int) :=
    jl ((gm_I g 4 0)) fun (v1 : Int) =>
    jb1 (ck_most_4_l6 g fz v1 1) fun (v11 : Int) =>
    some v11
noncomputable def ck_most_5_l6 (g : gm_T)  : Nat → Int → Int → Option (Int)
  | 0, _, _ => none
  | fuel + 1, v2, v3 =>
    jg (rg v3 ∧ rg (gm_I g 3 3))
    (if v3 < (gm_I g 3 3) then
    (jg (0 ≤ v3 ∧ v3 < 8)
    (jg (rg v2 ∧ rg (gm_I g 5 v3.toNat))
    (jl ((zmax v2 (gm_I g 5 v3.toNat))) fun (v9 : Int) =>
    ck_most_5_l6 g fuel v9 (v3 + 1))))
    else
    (some v2))
noncomputable def ck_most_5 (g : gm_T)  : Option (Int) :=
    jl ((gm_I g 5 0)) fun (v1 : Int) =>
    jb1 (ck_most_5_l6 g fz v1 1) fun (v11 : Int) =>
    some v11
noncomputable def ck_holdsCell_l19 (g : gm_T) (c5 : Int) (c6 : Int) : Nat → Int → Int → Option (Int)
  | 0, _, _ => none
  | fuel + 1, v7, v8 =>
    jg (rg v8 ∧ rg (gm_I g 3 3))
    (if v8 < (gm_I g 3 3) then
    (jb1 (ck_next g v8) fun (v13 : Int) =>
    jg (0 ≤ v13 ∧ v13 < 8)
    (jb1 (
    jg (rg (2 * (gm_I g 5 v13.toNat)) ∧ rg c6)
    (if (2 * (gm_I g 5 v13.toNat)) ≤ c6 then
    (some 0)
    else
    (some 1))) fun (v15 : Int) =>
    jg (0 ≤ v8 ∧ v8 < 8)
    (jb1 (
    jg (rg (2 * (gm_I g 5 v8.toNat)) ∧ rg c6)
    (if (2 * (gm_I g 5 v8.toNat)) ≤ c6 then
    (some 0)
    else
    (some 1))) fun (v18 : Int) =>
    jg (rg v18 ∧ rg v15)
    (if v18 = v15 then
    (ck_holdsCell_l19 g c5 c6 fuel v7 (v8 + 1))
    else
    (jl (((((gm_I g 4 v13.toNat) - (gm_I g 4 v8.toNat)) * (c6 - (2 * (gm_I g 5 v8.toNat)))) - (((gm_I g 5 v13.toNat) - (gm_I g 5 v8.toNat)) * (c5 - (2 * (gm_I g 4 v8.toNat)))))) fun (v22 : Int) =>
    jg (rg v22)
    (if v22 = 0 then
    (some 0)
    else
    (jb1 (
    if v22 ≤ 0 then
    (some 0)
    else
    (some 1)) fun (v24 : Int) =>
    jg (rg v24)
    (if v24 = v15 then
    (jg (rg v7)
    (if v7 = 0 then
    (ck_holdsCell_l19 g c5 c6 fuel 1 (v8 + 1))
    else
    (ck_holdsCell_l19 g c5 c6 fuel 0 (v8 + 1))))
    else
    (ck_holdsCell_l19 g c5 c6 fuel v7 (v8 + 1))))))))))
    else
    (jg (v7 = 0 ∨ v7 = 1) (some v7)))
noncomputable def ck_holdsCell (g : gm_T) (a1 : Int) (a2 : Int) : Option (Int) :=
    jl (((2 * a1) + 1)) fun (v1 : Int) =>
    jl (((2 * a2) + 1)) fun (v2 : Int) =>
    ck_holdsCell_l19 g v1 v2 fz 0 0
noncomputable def ck_hasGoodSpots_l33 (g : gm_T) (c7 : Int) : Nat → Int → Option ((Unit) ⊕ (Int))
  | 0, _ => none
  | fuel + 1, v8 =>
    jg (rg v8 ∧ rg c7)
    (if v8 < c7 then
    (jg (0 ≤ v8 ∧ v8 < 5)
    (jg (0 ≤ c7 ∧ c7 < 5)
    (jg (rg (gm_I g 7 v8.toNat) ∧ rg (gm_I g 7 c7.toNat))
    (if (gm_I g 7 v8.toNat) = (gm_I g 7 c7.toNat) then
    (jg (rg (gm_I g 8 v8.toNat) ∧ rg (gm_I g 8 c7.toNat))
    (if (gm_I g 8 v8.toNat) = (gm_I g 8 c7.toNat) then
    (some (.inr 0))
    else
    (ck_hasGoodSpots_l33 g c7 fuel (v8 + 1))))
    else
    (ck_hasGoodSpots_l33 g c7 fuel (v8 + 1))))))
    else
    (some (.inl ())))
noncomputable def ck_hasGoodSpots_l2 (g : gm_T)  : Nat → Int → Option (Int)
  | 0, _ => none
  | fuel + 1, v1 =>
    jg (rg v1 ∧ rg (gm_I g 3 7))
    (if v1 < (gm_I g 3 7) then
    (jg (0 ≤ v1 ∧ v1 < 5)
    (jb1 (ck_holdsCell g (gm_I g 7 v1.toNat) (gm_I g 8 v1.toNat)) fun (v5 : Int) =>
    jg (rg v5)
    (if v5 = 0 then
    (some 0)
    else
    (jc1 (ρ := Int) (ck_hasGoodSpots_l33 g v1 fz 0) some fun _u =>
    ck_hasGoodSpots_l2 g fuel (v1 + 1)))))
    else
    (some 1))
noncomputable def ck_hasGoodSpots (g : gm_T)  : Option (Int) :=
    ck_hasGoodSpots_l2 g fz 0
noncomputable def ct_append (g : gm_T) (a1 : Int) : Option (gm_T) :=
    jg (rg (gm_I g 1 0))
    (if (gm_I g 1 0) < 240 then
    (jg (0 ≤ (gm_I g 1 0) ∧ (gm_I g 1 0) < 240)
    (jl (gm_wI g 2 ((gm_I g 1 0)).toNat (z8 (z8 a1))) fun (g2 : gm_T) =>
    jl (gm_wI g2 1 0 ((gm_I g2 1 0) + 1)) fun (g4 : gm_T) =>
    some g4))
    else
    (some g))
noncomputable def ct_contains_l2 (g : gm_T) (c1 : Int) : Nat → Int → Option (Int)
  | 0, _ => none
  | fuel + 1, v2 =>
    jg (rg v2 ∧ rg (gm_I g 1 0))
    (if v2 < (gm_I g 1 0) then
    (jb1 (ct_peek g v2) fun (v4 : Int) =>
    jg (rg v4 ∧ rg c1)
    (if v4 = c1 then
    (some 1)
    else
    (ct_contains_l2 g c1 fuel (v2 + 1))))
    else
    (some 0))
noncomputable def ct_contains (g : gm_T) (a1 : Int) : Option (Int) :=
    ct_contains_l2 g a1 fz 0
noncomputable def cv_hasWord (g : gm_T) (a1 : Int) : Option (Int) :=
    if (zA (zSr (gm_I g 22 3) a1) 1) = 0 then
    (some 0)
    else
    (some 1)
noncomputable def cv_groupHasWord (g : gm_T) (a1 : Int) : Option (Int) :=
    jg (0 ≤ a1 ∧ a1 < 30)
    (if (zA (gm_I g 22 3) (gm_I g 19 a1.toNat)) = 0 then
    (some 0)
    else
    (some 1))
noncomputable def cv_stands (g : gm_T) (a1 : Int) : Option (Int) :=
    jg (0 ≤ a1 ∧ a1 < 30)
    (if (zA (zO (gm_I g 22 3) (gm_I g 22 4)) (gm_I g 19 a1.toNat)) = 0 then
    (some 0)
    else
    (some 1))
noncomputable def cv_standing_l4 (g : gm_T)  : Nat → Int → Int → Option (Int)
  | 0, _, _ => none
  | fuel + 1, v1, v2 =>
    jg (rg v2 ∧ rg (gm_I g 10 1))
    (if v2 < (gm_I g 10 1) then
    (jb1 (cv_stands g v2) fun (v6 : Int) =>
    jg (rg v6)
    (if v6 = 0 then
    (cv_standing_l4 g fuel v1 (v2 + 1))
    else
    (jl ((zO v1 (zSl 1 v2))) fun (v9 : Int) =>
    cv_standing_l4 g fuel v9 (v2 + 1))))
    else
    (some v1))
noncomputable def cv_standing (g : gm_T)  : Option (Int) :=
    jb1 (cv_standing_l4 g fz 0 0) fun (v11 : Int) =>
    some v11
noncomputable def cv_bitAt_l2 (n : Nat) (g : gm_T) (c1 : Int) (c2 : Int) : Nat → Int → Option (Int)
  | 0, _ => none
  | fuel + 1, v3 =>
    jg (rg v3 ∧ rg (gm_I g 10 1))
    (if v3 < (gm_I g 10 1) then
    (jg (0 ≤ v3 ∧ v3 < 30)
    (jl ((gm_J g 23 v3.toNat)) fun (v7 : Int64) =>
    jb1 (cv_stands g v3) fun (v8 : Int) =>
    jg (rg v8)
    (if v8 = 0 then
    (cv_bitAt_l2 n g c1 c2 fuel (v3 + 1))
    else
    (jg (0 ≤ v3 ∧ v3 < (n : Int))
    (jb1 (cc_turn g v7) fun (v12 : Int) =>
    jb1 (cc_x g v7) fun (v13 : Int) =>
    jb1 (cc_y g v7) fun (v14 : Int) =>
    jb1 (cb_hasCell g v3.toNat v12 ((iL c1) - (iL v13)) ((iL c2) - (iL v14))) fun (v15 : Int) =>
    jg (rg v15)
    (if v15 = 0 then
    (cv_bitAt_l2 n g c1 c2 fuel (v3 + 1))
    else
    (some v3)))))))
    else
    (some (-1)))
noncomputable def cv_bitAt (n : Nat) (g : gm_T) (a1 : Int) (a2 : Int) : Option (Int) :=
    cv_bitAt_l2 n g a1 a2 fz 0
noncomputable def cv_tell (g : gm_T) (a1 : Int) (a2 : Int) (a3 : Int) : Option (Int × gm_T) :=
    jl (gm_wI g 22 5 a1) fun (g1 : gm_T) =>
    jl (gm_wI g1 22 6 a2) fun (g2 : gm_T) =>
    jl (gm_wI g2 22 7 a3) fun (g3 : gm_T) =>
    jl (gm_wI g3 22 8 0) fun (g4 : gm_T) =>
    some (a1, g4)
noncomputable def cv_tellWay_l34 (c6 : Int) : Nat → Int → gm_T → Option (gm_T)
  | 0, _, _ => none
  | fuel + 1, v7, g8 =>
    jg (rg v7 ∧ rg c6)
    (if v7 < c6 then
    (jg (0 ≤ v7 ∧ v7 < 30)
    (jg (0 ≤ (gm_I g8 22 8) ∧ (gm_I g8 22 8) < 60)
    (jl (gm_wI g8 24 ((gm_I g8 22 8)).toNat (gm_I g8 21 v7.toNat)) fun (g13 : gm_T) =>
    jl (gm_wI g13 22 8 ((gm_I g13 22 8) + 1)) fun (g15 : gm_T) =>
    cv_tellWay_l34 c6 fuel (v7 + 1) g15)))
    else
    (some g8))
noncomputable def cv_tellWay (g : gm_T) (a1 : Int) (a2 : Int) : Option (gm_T) :=
    jb1 (cj_measure g a2 (gm_J g 14 5)) fun (g1 : gm_T) =>
    jb2 (cj_walk g1 a1 (gm_J g1 14 5)) fun (v2 : Int) (g3 : gm_T) =>
    jb1 (cv_tellWay_l34 v2 fz 0 g3) fun (g20 : gm_T) =>
    some g20
noncomputable def cv_tellBetween (g : gm_T) (a1 : Int) (a2 : Int) (a3 : Int) (a4 : Int) (a5 : Int) : Option (Int × gm_T) :=
    jb2 (cv_tell g a1 a2 a3) fun (v1 : Int) (g2 : gm_T) =>
    jb1 (cv_tellWay g2 a4 a5) fun (g3 : gm_T) =>
    some (a1, g3)
noncomputable def cc_move (g : gm_T) (a0 : Int64) (a2 : Int64) : Option (Int64) :=
    jb1 (cc_inverse g a0) fun (v1 : Int64) =>
    jb1 (cc_onto g a2 v1) fun (v2 : Int64) =>
    some v2
noncomputable def cv_firstHit_l40 (n : Nat) (g : gm_T) (c11 : Int) (c12 : Int64) (c13 : Int) (c14 : Int) (c15 : Int64) : Nat → Int → Option ((Unit) ⊕ (Int))
  | 0, _ => none
  | fuel + 1, v16 =>
    jg (rg v16 ∧ rg (gm_I g 10 1))
    (if v16 < (gm_I g 10 1) then
    (if (zA (zSr c13 v16) 1) = 0 then
    (cv_firstHit_l40 n g c11 c12 c13 c14 c15 fuel (v16 + 1))
    else
    (jg (0 ≤ v16 ∧ v16 < 30)
    (jb1 (cf_collide n g c14 c15 v16 (gm_J g 23 v16.toNat)) fun (v21 : Int) =>
    jg (rg v21)
    (if v21 = 0 then
    (cv_firstHit_l40 n g c11 c12 c13 c14 c15 fuel (v16 + 1))
    else
    (some (.inr ((30 * c14) + v16)))))))
    else
    (some (.inl ())))
noncomputable def cv_firstHit_l3 (n : Nat) (g : gm_T) (c1 : Int) (c2 : Int64) (c3 : Int) : Nat → Int → Option (Int)
  | 0, _ => none
  | fuel + 1, v4 =>
    jg (rg v4 ∧ rg (gm_I g 10 1))
    (if v4 < (gm_I g 10 1) then
    (if (zA (zSr c1 v4) 1) = 0 then
    (cv_firstHit_l3 n g c1 c2 c3 fuel (v4 + 1))
    else
    (jg (0 ≤ v4 ∧ v4 < 30)
    (jb1 (cc_onto g c2 (gm_J g 23 v4.toNat)) fun (v10 : Int64) =>
    jc1 (ρ := Int) (cv_firstHit_l40 n g c1 c2 c3 v4 v10 fz 0) some fun _u =>
    cv_firstHit_l3 n g c1 c2 c3 fuel (v4 + 1))))
    else
    (some (-1)))
noncomputable def cv_firstHit (n : Nat) (g : gm_T) (a1 : Int) (a2 : Int64) (a4 : Int) : Option (Int) :=
    cv_firstHit_l3 n g a1 a2 a4 fz 0
noncomputable def cv_tellAround (g : gm_T) (a1 : Int) (a2 : Int) (a3 : Int) (a4 : Int) (a5 : Int) : Option (Int × gm_T) :=
    jb2 (cv_tell g a1 a2 a5) fun (v1 : Int) (g2 : gm_T) =>
    jb1 (cv_tellWay g2 a2 a3) fun (g3 : gm_T) =>
    jb1 (cv_tellWay g3 a4 a5) fun (g4 : gm_T) =>
    some (a1, g4)
noncomputable def cv_anchorOf (g : gm_T) (a1 : Int) : Option (Int) :=
    jb1 (
    if (zA (gm_I g 22 3) a1) = 0 then
    (some (zA (gm_I g 22 4) a1))
    else
    (some (zA (gm_I g 22 3) a1))) fun (v1 : Int) =>
    jb1 (jd_numberOfTrailingZeros g v1) fun (v2 : Int) =>
    some v2
noncomputable def cv_carry_l3 (c1 : Int) (c2 : Int64) : Nat → Int → gm_T → Option (gm_T)
  | 0, _, _ => none
  | fuel + 1, v3, g4 =>
    jg (rg v3 ∧ rg (gm_I g4 10 1))
    (if v3 < (gm_I g4 10 1) then
    (if (zA (zSr c1 v3) 1) = 0 then
    (cv_carry_l3 c1 c2 fuel (v3 + 1) g4)
    else
    (jg (0 ≤ v3 ∧ v3 < 30)
    (jb1 (cc_onto g4 c2 (gm_J g4 23 v3.toNat)) fun (v10 : Int64) =>
    jl (gm_wJ g4 23 v3.toNat v10) fun (g11 : gm_T) =>
    cv_carry_l3 c1 c2 fuel (v3 + 1) g11)))
    else
    (some g4))
noncomputable def cv_carry (g : gm_T) (a1 : Int) (a2 : Int64) : Option (gm_T) :=
    jb1 (cv_carry_l3 a1 a2 fz 0 g) fun (g14 : gm_T) =>
    some g14
noncomputable def cv_attachTo (n : Nat) (g : gm_T) (a1 : Int) (a2 : Int64) (a4 : Int) : Option (Int × gm_T) :=
    jb1 (cv_firstHit n g a1 a2 a4) fun (v1 : Int) =>
    jg (rg v1)
    (if v1 < 0 then
    (jb1 (cv_carry g a1 a2) fun (g3 : gm_T) =>
    some (0, g3))
    else
    (jg (0 ≤ v1 ∧ v1 ≤ 2147483647)
    (jg (0 ≤ v1 ∧ v1 ≤ 2147483647)
    (jb2 (cv_tell g 5 (v1 / 30) (v1 % 30)) fun (v4 : Int) (g5 : gm_T) =>
    some (v4, g5)))))
noncomputable def cv_attach (n : Nat) (g : gm_T) (a1 : Int) (a2 : Int) (a3 : Int64) : Option (Int × gm_T) :=
    jg (0 ≤ a1 ∧ a1 < 30)
    (jl ((gm_I g 19 a1.toNat)) fun (v2 : Int) =>
    jg (0 ≤ a2 ∧ a2 < 30)
    (jl ((gm_I g 19 a2.toNat)) fun (v4 : Int) =>
    jg (rg v2 ∧ rg v4)
    (if v2 = v4 then
    (jb1 (cc_against g (gm_J g 23 a1.toNat) (gm_J g 23 a2.toNat)) fun (v6 : Int64) =>
    if (lC v6 a3) = 0 then
    (some (0, g))
    else
    (jb2 (cv_tellBetween g 1 a1 a2 a1 a2) fun (v7 : Int) (g8 : gm_T) =>
    some (v7, g8)))
    else
    (jb1 (cc_inverse g a3) fun (v9 : Int64) =>
    jb1 (cc_onto g (gm_J g 23 a2.toNat) v9) fun (v10 : Int64) =>
    jb1 (cc_move g (gm_J g 23 a1.toNat) v10) fun (v11 : Int64) =>
    jb1 (cv_firstHit n g v2 v11 v4) fun (v12 : Int) =>
    jg (rg v12)
    (if v12 < 0 then
    (jb1 (cv_stands g a1) fun (v14 : Int) =>
    jg (rg v14)
    (if v14 = 0 then
    (jb1 (cv_stands g a1) fun (v16 : Int) =>
    jg (rg v16)
    (if v16 = 0 then
    (jb1 (cv_stands g a2) fun (v18 : Int) =>
    jb1 (
    jg (rg v18)
    (if v18 = 0 then
    (some 0)
    else
    (jb1 (cv_standing g) fun (v21 : Int) =>
    some (zA v21 (zX v4 (-1)))))) fun (v19 : Int) =>
    jb2 (cv_attachTo n g v2 v11 v19) fun (v22 : Int) (g23 : gm_T) =>
    some (v22, g23))
    else
    (jb1 (cc_inverse g v11) fun (v24 : Int64) =>
    jb1 (cv_standing g) fun (v25 : Int) =>
    jb2 (cv_attachTo n g v4 v24 (zA v25 (zX v2 (-1)))) fun (v26 : Int) (g27 : gm_T) =>
    some (v26, g27))))
    else
    (jb1 (cv_stands g a2) fun (v28 : Int) =>
    jg (rg v28)
    (if v28 = 0 then
    (jb1 (cv_stands g a1) fun (v30 : Int) =>
    jg (rg v30)
    (if v30 = 0 then
    (jb1 (cv_stands g a2) fun (v32 : Int) =>
    jb1 (
    jg (rg v32)
    (if v32 = 0 then
    (some 0)
    else
    (jb1 (cv_standing g) fun (v35 : Int) =>
    some (zA v35 (zX v4 (-1)))))) fun (v33 : Int) =>
    jb2 (cv_attachTo n g v2 v11 v33) fun (v36 : Int) (g37 : gm_T) =>
    some (v36, g37))
    else
    (jb1 (cc_inverse g v11) fun (v38 : Int64) =>
    jb1 (cv_standing g) fun (v39 : Int) =>
    jb2 (cv_attachTo n g v4 v38 (zA v39 (zX v2 (-1)))) fun (v40 : Int) (g41 : gm_T) =>
    some (v40, g41))))
    else
    (if (lC v11 549756338176) = 0 then
    (some (0, g))
    else
    (jb1 (cv_anchorOf g v2) fun (v42 : Int) =>
    jb1 (cv_anchorOf g v4) fun (v43 : Int) =>
    jb2 (cv_tellAround g 3 v42 a1 a2 v43) fun (v44 : Int) (g45 : gm_T) =>
    some (v44, g45)))))))
    else
    (jg (0 ≤ v12 ∧ v12 ≤ 2147483647)
    (jg (0 ≤ v12 ∧ v12 ≤ 2147483647)
    (jb2 (cv_tellAround g 2 (v12 / 30) a1 a2 (v12 % 30)) fun (v46 : Int) (g47 : gm_T) =>
    some (v46, g47)))))))))
noncomputable def cv_bring (n : Nat) (g : gm_T) (a1 : Int) (a2 : Int64) : Option (Int × gm_T) :=
    jg (0 ≤ a1 ∧ a1 < 30)
    (jl ((gm_I g 19 a1.toNat)) fun (v2 : Int) =>
    jb1 (cc_move g (gm_J g 23 a1.toNat) a2) fun (v3 : Int64) =>
    jb1 (cv_standing g) fun (v4 : Int) =>
    jb2 (cv_attachTo n g v2 v3 (zA v4 (zX v2 (-1)))) fun (v5 : Int) (g6 : gm_T) =>
    some (v5, g6))
noncomputable def cv_say (n : Nat) (g : gm_T) (a1 : Int) (a2 : Int64) : Option (Int × gm_T) :=
    jg (0 ≤ a1 ∧ a1 < 30)
    (jl ((gm_I g 19 a1.toNat)) fun (v2 : Int) =>
    jl ((zA (zA (gm_I g 22 3) v2) (zX (zSl 1 a1) (-1)))) fun (v3 : Int) =>
    jg (rg v3)
    (if v3 = 0 then
    (jb2 (cv_bring n g a1 a2) fun (v5 : Int) (g6 : gm_T) =>
    jg (rg v5)
    (if v5 = 0 then
    (jl (gm_wI g6 22 3 (zO (gm_I g6 22 3) (zSl 1 a1))) fun (g8 : gm_T) =>
    jl (gm_wI g8 22 4 (zA (gm_I g8 22 4) (zX v2 (-1)))) fun (g9 : gm_T) =>
    some (v5, g9))
    else
    (some (v5, g6))))
    else
    (if (lC (gm_J g 23 a1.toNat) a2) = 0 then
    (jb2 (cv_bring n g a1 a2) fun (v10 : Int) (g11 : gm_T) =>
    jg (rg v10)
    (if v10 = 0 then
    (jl (gm_wI g11 22 3 (zO (gm_I g11 22 3) (zSl 1 a1))) fun (g13 : gm_T) =>
    jl (gm_wI g13 22 4 (zA (gm_I g13 22 4) (zX v2 (-1)))) fun (g14 : gm_T) =>
    some (v10, g14))
    else
    (some (v10, g11))))
    else
    (jb1 (jd_numberOfTrailingZeros g v3) fun (v15 : Int) =>
    jb2 (cv_tellBetween g 4 v15 a1 v15 a1) fun (v16 : Int) (g17 : gm_T) =>
    some (v16, g17)))))
noncomputable def cv_putBy (g : gm_T) (a1 : Int) : Option (gm_T) :=
    jg (0 ≤ a1 ∧ a1 < 30)
    (jl (gm_wI g 22 4 (zO (zA (gm_I g 22 4) (zX (gm_I g 19 a1.toNat) (-1))) (zSl 1 a1))) fun (g2 : gm_T) =>
    some g2)
noncomputable def cv_takeBack (g : gm_T) (a1 : Int) : Option (gm_T) :=
    jl (gm_wI g 22 3 (zA (gm_I g 22 3) (zX (zSl 1 a1) (-1)))) fun (g1 : gm_T) =>
    jb1 (cv_groupHasWord g1 a1) fun (v2 : Int) =>
    jg (rg v2)
    (if v2 = 0 then
    (jb1 (cv_putBy g1 a1) fun (g4 : gm_T) =>
    some g4)
    else
    (some g1))
noncomputable def cv_lay (n : Nat) (g : gm_T) (a1 : Int) (a2 : Int64) : Option (Int × gm_T) :=
    jb2 (cv_bring n g a1 a2) fun (v1 : Int) (g2 : gm_T) =>
    jg (rg v1)
    (if v1 = 0 then
    (jb1 (cv_putBy g2 a1) fun (g4 : gm_T) =>
    some (v1, g4))
    else
    (some (v1, g2)))
noncomputable def cv_bestJoins_l4 (n : Nat) (g : gm_T)  : Nat → Int64 → Int → Option (Int64)
  | 0, _, _ => none
  | fuel + 1, v1, v2 =>
    jg (rg v2 ∧ rg (gm_I g 14 4))
    (if v2 < (gm_I g 14 4) then
    (jb1 (cj_isThere g v2) fun (v6 : Int) =>
    jg (rg v6)
    (if v6 = 0 then
    (cv_bestJoins_l4 n g fuel v1 (v2 + 1))
    else
    (jg (0 ≤ v2 ∧ v2 < 60)
    (jb1 (cf_isBestBothWays n g (gm_I g 15 v2.toNat) (gm_I g 16 v2.toNat) (gm_I g 17 v2.toNat) (gm_I g 18 v2.toNat)) fun (v10 : Int) =>
    jg (rg v10)
    (if v10 = 0 then
    (cv_bestJoins_l4 n g fuel v1 (v2 + 1))
    else
    (jl ((v1 ||| (lSl 1 v2))) fun (v13 : Int64) =>
    cv_bestJoins_l4 n g fuel v13 (v2 + 1)))))))
    else
    (some v1))
noncomputable def cv_bestJoins (n : Nat) (g : gm_T)  : Option (Int64) :=
    jb1 (cv_bestJoins_l4 n g fz 0 0) fun (v15 : Int64) =>
    some v15
noncomputable def cv_proved (n : Nat) (g : gm_T)  : Option (Int) :=
    jg (rg (gm_I g 22 3))
    (if (gm_I g 22 3) = 0 then
    (some 0)
    else
    (jb1 (cv_bestJoins n g) fun (v2 : Int64) =>
    jb1 (cj_reach g (gm_I g 22 3) v2) fun (v3 : Int) =>
    some v3))
noncomputable def cv_prove_l30 (n : Nat) (g : gm_T) (c6 : Int64) : Nat → Int → Int → Option (Int)
  | 0, _, _ => none
  | fuel + 1, v7, v8 =>
    jg (rg v8 ∧ rg (gm_I g 10 1))
    (if v8 < (gm_I g 10 1) then
    (jb1 (cv_hasWord g v8) fun (v14 : Int) =>
    jb1 (
    jg (rg v14)
    (if v14 = 0 then
    (some 0)
    else
    (jg (0 ≤ v8 ∧ v8 < 30)
    (jg (rg (gm_I g 20 v8.toNat))
    (if (gm_I g 20 v8.toNat) < 0 then
    (some 0)
    else
    (some 1)))))) fun (v15 : Int) =>
    jg (rg v15)
    (if v15 = 0 then
    (cv_prove_l30 n g c6 fuel v7 (v8 + 1))
    else
    (jg (rg v7)
    (if v7 < 0 then
    (cv_prove_l30 n g c6 fuel v8 (v8 + 1))
    else
    (jg (0 ≤ v8 ∧ v8 < 30)
    (jg (0 ≤ v7 ∧ v7 < 30)
    (jg (rg (gm_I g 20 v8.toNat) ∧ rg (gm_I g 20 v7.toNat))
    (if (gm_I g 20 v8.toNat) < (gm_I g 20 v7.toNat) then
    (cv_prove_l30 n g c6 fuel v8 (v8 + 1))
    else
    (cv_prove_l30 n g c6 fuel v7 (v8 + 1))))))))))
    else
    (some v7))
noncomputable def cv_prove (n : Nat) (g : gm_T) (a1 : Int) : Option (Int × gm_T) :=
    jb1 (cv_groupHasWord g a1) fun (v1 : Int) =>
    jg (rg v1)
    (if v1 = 0 then
    (some ((-1), g))
    else
    (jb1 (cv_bestJoins n g) fun (v3 : Int64) =>
    jb1 (cj_measure g a1 v3) fun (g4 : gm_T) =>
    jb1 (cv_prove_l30 n g4 v3 fz (-1) 0) fun (v29 : Int) =>
    jg (rg v29)
    (if v29 < 0 then
    (some ((-1), g4))
    else
    (jb2 (cj_walk g4 v29 v3) fun (v33 : Int) (g34 : gm_T) =>
    some (v33, g34)))))
noncomputable def cw_feed_l37 (c4 : Int64) : Nat → Int → gm_T → Option (gm_T)
  | 0, _, _ => none
  | fuel + 1, v6, g7 =>
    jg (rg v6)
    (if v6 < 0 then
    (some g7)
    else
    (jb1 (ct_append g7 (zA (lI (lSu c4 (8 * v6))) 255)) fun (g11 : gm_T) =>
    cw_feed_l37 c4 fuel (v6 + (-1)) g11))
noncomputable def cw_feed (g : gm_T) (a1 : Int64) (a3 : Int) : Option (Int × gm_T) :=
    jg (rg a3)
    (if a3 < 1 then
    (some ((-2), g))
    else
    (if a3 ≤ 8 then
    (jg (rg ((gm_I g 1 0) + a3))
    (if ((gm_I g 1 0) + a3) ≤ 240 then
    (jl ((a3 - 1)) fun (v3 : Int) =>
    jb1 (cw_feed_l37 a1 fz v3 g) fun (g15 : gm_T) =>
    some ((gm_I g15 1 0), g15))
    else
    (some ((-4), g))))
    else
    (some ((-2), g))))
noncomputable def cw_isBit (g : gm_T) (a1 : Int) : Option (Int) :=
    jg (rg a1)
    (if a1 < 0 then
    (some 0)
    else
    (jg (rg (gm_I g 10 1))
    (if a1 < (gm_I g 10 1) then
    (some 1)
    else
    (some 0))))
noncomputable def cw_about (n : Nat) (g : gm_T) (a1 : Int) (a2 : Int) : Option (Int) :=
    jb1 (cw_isBit g a1) fun (v1 : Int) =>
    jg (rg v1)
    (if v1 = 0 then
    (some (-100000))
    else
    (jg (0 ≤ a1 ∧ a1 < (n : Int))
    (jg (rg a2)
    (if a2 = 0 then
    (some (gm_I g (bA a1.toNat) 3))
    else
    (if a2 = 1 then
    (some (gm_I g (bA a1.toNat) 11))
    else
    (if a2 = 2 then
    (some (gm_I g (bA a1.toNat) 12))
    else
    (if a2 = 3 then
    (some (gm_I g (bA a1.toNat) 7))
    else
    (if a2 = 4 then
    (some (gm_I g (bA a1.toNat) 0))
    else
    (if a2 = 5 then
    (some (gm_I g (bA a1.toNat) 1))
    else
    (if a2 = 6 then
    (some (gm_I g (bA a1.toNat) 2))
    else
    (some (-100000))))))))))))
noncomputable def cw_isEdge (n : Nat) (g : gm_T) (a1 : Int) (a2 : Int) : Option (Int) :=
    jb1 (cw_isBit g a1) fun (v1 : Int) =>
    jg (rg v1)
    (if v1 = 0 then
    (some 0)
    else
    (jg (rg a2)
    (if a2 < 0 then
    (some 0)
    else
    (jg (0 ≤ a1 ∧ a1 < (n : Int))
    (jg (rg (gm_I g (bA a1.toNat) 3))
    (if a2 < (gm_I g (bA a1.toNat) 3) then
    (some 1)
    else
    (some 0)))))))
noncomputable def cw_corner (n : Nat) (g : gm_T) (a1 : Int) (a2 : Int) (a3 : Int) : Option (Int) :=
    jb1 (cw_isEdge n g a1 a2) fun (v1 : Int) =>
    jg (rg v1)
    (if v1 = 0 then
    (some (-100000))
    else
    (jg (0 ≤ a1 ∧ a1 < (n : Int))
    (jg (rg a3)
    (if a3 = 0 then
    (jg (0 ≤ a2 ∧ a2 < 8)
    (some (gm_I g (bA a1.toNat + 2) a2.toNat)))
    else
    (if a3 = 1 then
    (jg (0 ≤ a2 ∧ a2 < 8)
    (some (gm_I g (bA a1.toNat + 3) a2.toNat)))
    else
    (if a3 = 2 then
    (jg (0 ≤ a2 ∧ a2 < 8)
    (some (gm_I g (bA a1.toNat + 4) a2.toNat)))
    else
    (some (-100000))))))))
noncomputable def cw_isNear (g : gm_T) (a0 : Int) : Option (Int) :=
    jg (rg a0)
    (if a0 < (-500) then
    (some 0)
    else
    (if a0 ≤ 500 then
    (some 1)
    else
    (some 0)))
noncomputable def cw_isPlacing (g : gm_T) (a0 : Int) (a1 : Int) (a2 : Int) : Option (Int) :=
    jg (rg a0)
    (if a0 < 0 then
    (some 0)
    else
    (if a0 ≤ 3 then
    (jb1 (cw_isNear g a1) fun (v2 : Int) =>
    jg (rg v2)
    (if v2 = 0 then
    (some 0)
    else
    (jb1 (cw_isNear g a2) fun (v4 : Int) =>
    jg (rg v4)
    (if v4 = 0 then
    (some 0)
    else
    (some 1)))))
    else
    (some 0)))
noncomputable def cw_overlap (n : Nat) (g : gm_T) (a1 : Int) (a2 : Int) (a3 : Int) (a4 : Int) (a5 : Int) : Option (Int) :=
    jb1 (cw_isBit g a1) fun (v1 : Int) =>
    jg (rg v1)
    (if v1 = 0 then
    (some (-1))
    else
    (jb1 (cw_isBit g a2) fun (v3 : Int) =>
    jg (rg v3)
    (if v3 = 0 then
    (some (-1))
    else
    (jg (rg a1 ∧ rg a2)
    (if a1 = a2 then
    (some (-2))
    else
    (jb1 (cw_isPlacing g a3 a4 a5) fun (v6 : Int) =>
    jg (rg v6)
    (if v6 = 0 then
    (some (-2))
    else
    (jg (0 ≤ a1 ∧ a1 < (n : Int))
    (jg (0 ≤ a2 ∧ a2 < (n : Int))
    (jb1 (cb_common g a1.toNat 0 a2.toNat a3 a4 a5) fun (v10 : Int) =>
    some v10))))))))))
noncomputable def cw_tolerance (g : gm_T) (a1 : Int) : Option (Int × gm_T) :=
    jg (rg a1)
    (if a1 < 0 then
    (some ((-2), g))
    else
    (if a1 ≤ 30 then
    (jl ((gm_I g 10 2)) fun (v2 : Int) =>
    jl (gm_wI g 10 2 a1) fun (g3 : gm_T) =>
    some (v2, g3))
    else
    (some ((-2), g))))
noncomputable def cw_isDigit (g : gm_T) (a0 : Int) : Option (Int) :=
    jg (rg a0)
    (if a0 < 0 then
    (some 0)
    else
    (if a0 ≤ 9 then
    (some 1)
    else
    (some 0)))
noncomputable def cw_likeness (g : gm_T) (a1 : Int) (a2 : Int) (a3 : Int) : Option (Int × gm_T) :=
    jb1 (cw_isDigit g a1) fun (v1 : Int) =>
    jg (rg v1)
    (if v1 = 0 then
    (some ((-1), g))
    else
    (jb1 (cw_isDigit g a2) fun (v3 : Int) =>
    jg (rg v3)
    (if v3 = 0 then
    (some ((-1), g))
    else
    (jb1 (cw_isDigit g a3) fun (v5 : Int) =>
    jg (rg v5)
    (if v5 = 0 then
    (some ((-2), g))
    else
    (jg (0 ≤ ((10 * a1) + a2) ∧ ((10 * a1) + a2) < 100)
    (jl ((gm_I g 12 (((10 * a1) + a2)).toNat)) fun (v8 : Int) =>
    jl (gm_wI g 12 (((10 * a1) + a2)).toNat a3) fun (g9 : gm_T) =>
    jg (0 ≤ ((10 * a2) + a1) ∧ ((10 * a2) + a1) < 100)
    (jl (gm_wI g9 12 (((10 * a2) + a1)).toNat a3) fun (g10 : gm_T) =>
    some (v8, g10)))))))))
noncomputable def cw_refusePair (n : Nat) (g : gm_T) (a1 : Int) (a2 : Int) (a3 : Int) (a4 : Int) : Option (Int) :=
    jb1 (cw_isEdge n g a1 a2) fun (v1 : Int) =>
    jg (rg v1)
    (if v1 = 0 then
    (some (-1))
    else
    (jb1 (cw_isEdge n g a3 a4) fun (v3 : Int) =>
    jg (rg v3)
    (if v3 = 0 then
    (some (-1))
    else
    (jg (rg a1 ∧ rg a3)
    (if a1 = a3 then
    (some (-2))
    else
    (some 0))))))
noncomputable def cw_score (n : Nat) (g : gm_T) (a1 : Int) (a2 : Int) (a3 : Int) (a4 : Int) : Option (Int) :=
    jb1 (cw_refusePair n g a1 a2 a3 a4) fun (v1 : Int) =>
    jg (rg v1)
    (if v1 = 0 then
    (jb1 (cf_fitting n g a1 a2 a3 a4) fun (v3 : Int64) =>
    if (lC v3 0) < 0 then
    (some (-3))
    else
    (jb1 (cc_turn g v3) fun (v4 : Int) =>
    jb1 (cf_scoreOf n g a1 a2 a3 a4 v4) fun (v5 : Int) =>
    some v5))
    else
    (some v1))
noncomputable def cw_partOf (g : gm_T) (a0 : Int64) (a2 : Int) : Option (Int) :=
    jg (rg a2)
    (if a2 = 0 then
    (jb1 (cc_turn g a0) fun (v7 : Int) =>
    some v7)
    else
    (if a2 = 1 then
    (jb1 (cc_x g a0) fun (v6 : Int) =>
    some v6)
    else
    (if a2 = 2 then
    (jb1 (cc_y g a0) fun (v5 : Int) =>
    some v5)
    else
    (some (-100000)))))
noncomputable def cw_turned (n : Nat) (g : gm_T) (a1 : Int) (a2 : Int) (a3 : Int) (a4 : Int) (a5 : Int) : Option (Int) :=
    jb1 (cw_refusePair n g a1 a2 a3 a4) fun (v1 : Int) =>
    jg (rg v1)
    (if v1 = 0 then
    (jb1 (cf_fitting n g a1 a2 a3 a4) fun (v3 : Int64) =>
    if (lC v3 0) < 0 then
    (some (-100000))
    else
    (jb1 (cw_partOf g v3 a5) fun (v4 : Int) =>
    some v4))
    else
    (some (-100000)))
noncomputable def cw_fits (n : Nat) (g : gm_T) (a1 : Int) (a2 : Int) : Option (Int × gm_T) :=
    jb1 (cw_isEdge n g a1 a2) fun (v1 : Int) =>
    jg (rg v1)
    (if v1 = 0 then
    (some ((-1), g))
    else
    (jb2 (cf_collect n g a1 a2) fun (v3 : Int) (g4 : gm_T) =>
    some (v3, g4)))
noncomputable def cw_fit (n : Nat) (g : gm_T) (a1 : Int) (a2 : Int) (a3 : Int) : Option (Int × gm_T) :=
    jb1 (cw_isEdge n g a1 a2) fun (v1 : Int) =>
    jg (rg v1)
    (if v1 = 0 then
    (some ((-1), g))
    else
    (jg (rg a3)
    (if a3 < 0 then
    (some ((-1), g))
    else
    (jb2 (cf_collect n g a1 a2) fun (v4 : Int) (g5 : gm_T) =>
    jg (rg v4)
    (if a3 < v4 then
    (jg (0 ≤ a3 ∧ a3 < 240)
    (jg (0 ≤ (gm_I g5 13 a3.toNat) ∧ (gm_I g5 13 a3.toNat) ≤ 2147483647)
    (some (((gm_I g5 13 a3.toNat) % 1000), g5))))
    else
    (some ((-1), g5)))))))
noncomputable def cw_rival (n : Nat) (g : gm_T) (a1 : Int) (a2 : Int) (a3 : Int) (a4 : Int) : Option (Int) :=
    jb1 (cw_refusePair n g a1 a2 a3 a4) fun (v1 : Int) =>
    jg (rg v1)
    (if v1 = 0 then
    (jb1 (cf_fitting n g a1 a2 a3 a4) fun (v3 : Int64) =>
    if (lC v3 0) < 0 then
    (some (-3))
    else
    (jb1 (cf_rivalOf n g a1 a2 a3 a4) fun (v4 : Int) =>
    jg (rg v4)
    (if v4 < 0 then
    (jb1 (cf_rivalOf n g a3 a4 a1 a2) fun (v6 : Int) =>
    jg (rg v6)
    (if v6 < 0 then
    (some (-5))
    else
    (some ((1000 * a3) + v6))))
    else
    (some ((1000 * a1) + v4)))))
    else
    (some v1))
noncomputable def cw_join (n : Nat) (g : gm_T) (a1 : Int) (a2 : Int) (a3 : Int) (a4 : Int) : Option (Int × gm_T) :=
    jb1 (cw_refusePair n g a1 a2 a3 a4) fun (v1 : Int) =>
    jg (rg v1)
    (if v1 = 0 then
    (jb1 (cf_fitting n g a1 a2 a3 a4) fun (v3 : Int64) =>
    if (lC v3 0) < 0 then
    (some ((-3), g))
    else
    (jb1 (cj_isTaken g a1 a2) fun (v4 : Int) =>
    jg (rg v4)
    (if v4 = 0 then
    (jb1 (cj_isTaken g a3 a4) fun (v6 : Int) =>
    jg (rg v6)
    (if v6 = 0 then
    (jg (rg (gm_I g 14 4))
    (if (gm_I g 14 4) = 60 then
    (some ((-4), g))
    else
    (jb2 (cv_attach n g a1 a3 v3) fun (v9 : Int) (g10 : gm_T) =>
    jg (rg v9)
    (if v9 = 0 then
    (jb2 (cj_add g10 a1 a2 a3 a4) fun (v12 : Int) (g13 : gm_T) =>
    some (v12, g13))
    else
    (some (((-10) - v9), g10))))))
    else
    (some ((-3), g))))
    else
    (some ((-3), g)))))
    else
    (some (v1, g)))
noncomputable def cw_undo (g : gm_T) (a1 : Int) : Option (Int × gm_T) :=
    jb1 (cj_isThere g a1) fun (v1 : Int) =>
    jg (rg v1)
    (if v1 = 0 then
    (some ((-1), g))
    else
    (jb1 (cj_remove g a1) fun (g3 : gm_T) =>
    jg (0 ≤ a1 ∧ a1 < 60)
    (jg (0 ≤ (gm_I g3 15 a1.toNat) ∧ (gm_I g3 15 a1.toNat) < 30)
    (jg (0 ≤ (gm_I g3 17 a1.toNat) ∧ (gm_I g3 17 a1.toNat) < 30)
    (jb1 (jd_bitCount g3 (zO (gm_I g3 19 ((gm_I g3 15 a1.toNat)).toNat) (gm_I g3 19 ((gm_I g3 17 a1.toNat)).toNat))) fun (v7 : Int) =>
    some (v7, g3))))))
noncomputable def cw_isBest (n : Nat) (g : gm_T) (a1 : Int) : Option (Int) :=
    jg (0 ≤ a1 ∧ a1 < 60)
    (jb1 (cf_isBestBothWays n g (gm_I g 15 a1.toNat) (gm_I g 16 a1.toNat) (gm_I g 17 a1.toNat) (gm_I g 18 a1.toNat)) fun (v2 : Int) =>
    jg (v2 = 0 ∨ v2 = 1) (some v2))
noncomputable def cw_joined (n : Nat) (g : gm_T) (a1 : Int) (a2 : Int) : Option (Int) :=
    jb1 (cj_isThere g a1) fun (v1 : Int) =>
    jg (rg v1)
    (if v1 = 0 then
    (some (-1))
    else
    (jg (rg a2)
    (if a2 = 0 then
    (jg (0 ≤ a1 ∧ a1 < 60)
    (some (gm_I g 15 a1.toNat)))
    else
    (if a2 = 1 then
    (jg (0 ≤ a1 ∧ a1 < 60)
    (some (gm_I g 16 a1.toNat)))
    else
    (if a2 = 2 then
    (jg (0 ≤ a1 ∧ a1 < 60)
    (some (gm_I g 17 a1.toNat)))
    else
    (if a2 = 3 then
    (jg (0 ≤ a1 ∧ a1 < 60)
    (some (gm_I g 18 a1.toNat)))
    else
    (if a2 = 4 then
    (jb1 (cw_isBest n g a1) fun (v9 : Int) =>
    jg (rg v9)
    (if v9 = 0 then
    (some 0)
    else
    (some 1)))
    else
    (some (-1)))))))))
noncomputable def cw_group (g : gm_T) (a1 : Int) (a2 : Int) : Option (Int) :=
    jb1 (cw_isBit g a1) fun (v1 : Int) =>
    jg (rg v1)
    (if v1 = 0 then
    (some (-1))
    else
    (jg (0 ≤ a1 ∧ a1 < 30)
    (jl ((gm_I g 19 a1.toNat)) fun (v4 : Int) =>
    jg (rg a2)
    (if a2 = 0 then
    (jb1 (jd_numberOfTrailingZeros g v4) fun (v11 : Int) =>
    some v11)
    else
    (if a2 = 1 then
    (jb1 (jd_bitCount g v4) fun (v10 : Int) =>
    some v10)
    else
    (if a2 = 2 then
    (jb1 (cj_countIn g v4) fun (v9 : Int) =>
    some v9)
    else
    (some (-1))))))))
noncomputable def cw_clash (g : gm_T) (a1 : Int) : Option (Int) :=
    jg (rg (gm_I g 22 5))
    (if (gm_I g 22 5) = 0 then
    (some (-1))
    else
    (jg (rg a1)
    (if a1 = 0 then
    (some (gm_I g 22 5))
    else
    (if a1 = 1 then
    (some (gm_I g 22 8))
    else
    (if a1 = 2 then
    (some (gm_I g 22 6))
    else
    (if a1 = 3 then
    (some (gm_I g 22 7))
    else
    (if a1 < 10 then
    (some (-1))
    else
    (jg (rg (a1 - 10) ∧ rg (gm_I g 22 8))
    (if (a1 - 10) < (gm_I g 22 8) then
    (jg (0 ≤ (a1 - 10) ∧ (a1 - 10) < 60)
    (some (gm_I g 24 ((a1 - 10)).toNat)))
    else
    (some (-1)))))))))))
noncomputable def cw_word (n : Nat) (g : gm_T) (a1 : Int) (a2 : Int) (a3 : Int) (a4 : Int) : Option (Int × gm_T) :=
    jb1 (cw_isBit g a1) fun (v1 : Int) =>
    jg (rg v1)
    (if v1 = 0 then
    (some ((-1), g))
    else
    (jb1 (cw_isPlacing g a2 a3 a4) fun (v3 : Int) =>
    jg (rg v3)
    (if v3 = 0 then
    (some ((-2), g))
    else
    (jb1 (cc_of g a2 a3 a4) fun (v5 : Int64) =>
    jb2 (cv_say n g a1 v5) fun (v6 : Int) (g7 : gm_T) =>
    jg (rg v6)
    (if v6 = 0 then
    (jg (0 ≤ a1 ∧ a1 < 30)
    (jb1 (jd_bitCount g7 (gm_I g7 19 a1.toNat)) fun (v10 : Int) =>
    some (v10, g7)))
    else
    (some (((-10) - v6), g7)))))))
noncomputable def cw_unsay (g : gm_T) (a1 : Int) : Option (Int × gm_T) :=
    jb1 (cw_isBit g a1) fun (v1 : Int) =>
    jg (rg v1)
    (if v1 = 0 then
    (some ((-1), g))
    else
    (jb1 (cv_hasWord g a1) fun (v3 : Int) =>
    jg (rg v3)
    (if v3 = 0 then
    (some ((-3), g))
    else
    (jb1 (cv_takeBack g a1) fun (g5 : gm_T) =>
    some (1, g5)))))
noncomputable def cw_put (n : Nat) (g : gm_T) (a1 : Int) (a2 : Int) (a3 : Int) (a4 : Int) : Option (Int × gm_T) :=
    jb1 (cw_isBit g a1) fun (v1 : Int) =>
    jg (rg v1)
    (if v1 = 0 then
    (some ((-1), g))
    else
    (jb1 (cw_isPlacing g a2 a3 a4) fun (v3 : Int) =>
    jg (rg v3)
    (if v3 = 0 then
    (some ((-2), g))
    else
    (jb1 (cv_groupHasWord g a1) fun (v5 : Int) =>
    jg (rg v5)
    (if v5 = 0 then
    (jb1 (cc_of g a2 a3 a4) fun (v7 : Int64) =>
    jb2 (cv_lay n g a1 v7) fun (v8 : Int) (g9 : gm_T) =>
    jg (rg v8)
    (if v8 = 0 then
    (jg (0 ≤ a1 ∧ a1 < 30)
    (jb1 (jd_bitCount g9 (gm_I g9 19 a1.toNat)) fun (v12 : Int) =>
    some (v12, g9)))
    else
    (some (((-10) - v8), g9))))
    else
    (some ((-3), g)))))))
noncomputable def cw_lift (g : gm_T) (a1 : Int) : Option (Int × gm_T) :=
    jb1 (cw_isBit g a1) fun (v1 : Int) =>
    jg (rg v1)
    (if v1 = 0 then
    (some ((-1), g))
    else
    (jb1 (cv_stands g a1) fun (v3 : Int) =>
    jg (rg v3)
    (if v3 = 0 then
    (some ((-3), g))
    else
    (jb1 (cv_groupHasWord g a1) fun (v5 : Int) =>
    jg (rg v5)
    (if v5 = 0 then
    (jg (0 ≤ a1 ∧ a1 < 30)
    (jl (gm_wI g 22 4 (zA (gm_I g 22 4) (zX (gm_I g 19 a1.toNat) (-1)))) fun (g8 : gm_T) =>
    jb1 (jd_bitCount g8 (gm_I g8 19 a1.toNat)) fun (v9 : Int) =>
    some (v9, g8)))
    else
    (some ((-3), g)))))))
noncomputable def cw_placed (g : gm_T) (a1 : Int) (a2 : Int) : Option (Int) :=
    jb1 (cw_isBit g a1) fun (v1 : Int) =>
    jg (rg v1)
    (if v1 = 0 then
    (some (-100000))
    else
    (jb1 (cv_stands g a1) fun (v3 : Int) =>
    jg (rg v3)
    (if v3 = 0 then
    (some (-100000))
    else
    (jg (rg a2)
    (if a2 = 3 then
    (jb1 (cv_hasWord g a1) fun (v6 : Int) =>
    jg (rg v6)
    (if v6 = 0 then
    (jb1 (cv_groupHasWord g a1) fun (v8 : Int) =>
    jg (rg v8)
    (if v8 = 0 then
    (some 0)
    else
    (some 1)))
    else
    (some 2)))
    else
    (jg (0 ≤ a1 ∧ a1 < 30)
    (jb1 (cw_partOf g (gm_J g 23 a1.toNat) a2) fun (v11 : Int) =>
    some v11)))))))
noncomputable def cw_at (n : Nat) (g : gm_T) (a1 : Int) (a2 : Int) : Option (Int) :=
    jb1 (cv_bitAt n g a1 a2) fun (v1 : Int) =>
    some v1
noncomputable def cw_proof (n : Nat) (g : gm_T) (a1 : Int) : Option (Int × gm_T) :=
    jb1 (cw_isBit g a1) fun (v1 : Int) =>
    jg (rg v1)
    (if v1 = 0 then
    (some ((-1), g))
    else
    (jb2 (cv_prove n g a1) fun (v3 : Int) (g4 : gm_T) =>
    jg (rg v3)
    (if v3 < 0 then
    (some ((-3), g4))
    else
    (some (v3, g4)))))
noncomputable def cw_reason (n : Nat) (g : gm_T) (a1 : Int) (a2 : Int) : Option (Int × gm_T) :=
    jb1 (cw_isBit g a1) fun (v1 : Int) =>
    jg (rg v1)
    (if v1 = 0 then
    (some ((-1), g))
    else
    (jg (rg a2)
    (if a2 < 0 then
    (some ((-1), g))
    else
    (jb2 (cv_prove n g a1) fun (v4 : Int) (g5 : gm_T) =>
    jg (rg v4)
    (if a2 < v4 then
    (jg (0 ≤ a2 ∧ a2 < 30)
    (some ((gm_I g5 21 a2.toNat), g5)))
    else
    (some ((-1), g5)))))))
noncomputable def cw_photograph (g : gm_T) (a1 : Int) (a2 : Int) (a3 : Int) : Option (Int × gm_T) :=
    jb1 (cw_isNear g a1) fun (v1 : Int) =>
    jg (rg v1)
    (if v1 = 0 then
    (some ((-2), g))
    else
    (jb1 (cw_isNear g a2) fun (v3 : Int) =>
    jg (rg v3)
    (if v3 = 0 then
    (some ((-2), g))
    else
    (jg (rg a3)
    (if a3 < 0 then
    (some ((-2), g))
    else
    (if a3 ≤ 3 then
    (jb1 (cp_faultOf g) fun (v6 : Int) =>
    jb1 (
    jg (rg v6)
    (if v6 < 0 then
    (jb1 (cp_take g a1 a2 a3) fun (g9 : gm_T) =>
    some g9)
    else
    (some g))) fun (g7 : gm_T) =>
    jl (gm_wI g7 1 0 0) fun (g10 : gm_T) =>
    jg (rg v6)
    (if v6 < 0 then
    (jb1 (cp_countColours g10) fun (v12 : Int) =>
    some (v12, g10))
    else
    (some (((-10) - v6), g10))))
    else
    (some ((-2), g))))))))
noncomputable def cw_agree (n : Nat) (g : gm_T) (a1 : Int) (a2 : Int) (a3 : Int) (a4 : Int) : Option (Int) :=
    jb1 (cw_isBit g a1) fun (v1 : Int) =>
    jg (rg v1)
    (if v1 = 0 then
    (some (-1))
    else
    (jb1 (cw_isPlacing g a2 a3 a4) fun (v3 : Int) =>
    jg (rg v3)
    (if v3 = 0 then
    (some (-2))
    else
    (jb1 (cp_isThere g) fun (v5 : Int) =>
    jg (rg v5)
    (if v5 = 0 then
    (some (-3))
    else
    (jg (0 ≤ a1 ∧ a1 < (n : Int))
    (jb1 (cp_countAgreeing g a1.toNat a2 a3 a4) fun (v8 : Int) =>
    some v8)))))))
noncomputable def cw_best (n : Nat) (g : gm_T) (a1 : Int) (a2 : Int) : Option (Int × gm_T) :=
    jb1 (cw_isBit g a1) fun (v1 : Int) =>
    jg (rg v1)
    (if v1 = 0 then
    (some ((-100000), g))
    else
    (jg (rg a2)
    (if a2 < 0 then
    (some ((-100000), g))
    else
    (if a2 ≤ 4 then
    (jb1 (cp_isThere g) fun (v4 : Int) =>
    jg (rg v4)
    (if v4 = 0 then
    (some ((-100001), g))
    else
    (jg (0 ≤ a1 ∧ a1 < (n : Int))
    (jb2 (cp_search g a1.toNat) fun (v7 : Int) (g8 : gm_T) =>
    jg (rg v7)
    (if v7 = 0 then
    (some ((-100001), g8))
    else
    (if a2 = 0 then
    (some ((gm_I g8 25 6), g8))
    else
    (if a2 = 4 then
    (some ((gm_I g8 25 7), g8))
    else
    (jb1 (cw_partOf g8 (gm_J g8 25 8) (a2 - 1)) fun (v10 : Int) =>
    some (v10, g8)))))))))
    else
    (some ((-100000), g))))))
noncomputable def cw_arrange (n : Nat) (g : gm_T) (a1 : Int) : Option (Int × gm_T) :=
    jb1 (jd_bitCount g a1) fun (v1 : Int) =>
    jb1 (cf_allBits g) fun (v2 : Int) =>
    if (zA a1 (zX v2 (-1))) = 0 then
    (jg (rg v1)
    (if v1 < 2 then
    (some ((-2), g))
    else
    (if v1 ≤ 3 then
    (jb2 (ca_solve n g a1) fun (v4 : Int) (g5 : gm_T) =>
    jg (rg v4)
    (if v4 = 0 then
    (some ((-5), g5))
    else
    (some ((gm_I g5 27 7), g5))))
    else
    (some ((-2), g)))))
    else
    (some ((-2), g))
noncomputable def cw_arranged (g : gm_T) (a1 : Int) (a2 : Int) : Option (Int) :=
    jb1 (cw_isBit g a1) fun (v1 : Int) =>
    jg (rg v1)
    (if v1 = 0 then
    (some (-100000))
    else
    (jb1 (ca_holds g a1) fun (v3 : Int) =>
    jg (rg v3)
    (if v3 = 0 then
    (some (-100000))
    else
    (jb1 (ca_placeOf g a1) fun (v5 : Int64) =>
    jb1 (cw_partOf g v5 a2) fun (v6 : Int) =>
    some v6))))
noncomputable def cw_ask (n : Nat) (g : gm_T)  : Option (Int × gm_T) :=
    jb1 (ct_contains g 118) fun (v1 : Int) =>
    jb1 (
    jg (rg v1)
    (if v1 = 0 then
    (some 0)
    else
    (jb1 (cv_proved n g) fun (v4 : Int) =>
    some v4))) fun (v2 : Int) =>
    jb1 (cv_standing g) fun (v5 : Int) =>
    jb2 (cq_readTape n g v5 v2) fun (v6 : Int) (g7 : gm_T) =>
    jl (gm_wI g7 1 0 0) fun (g8 : gm_T) =>
    jg (rg v6)
    (if v6 < 0 then
    (jb1 (jd_bitCount g8 (gm_I g8 40 10)) fun (v10 : Int) =>
    some (v10, g8))
    else
    (some (((-10) - v6), g8)))
noncomputable def cw_asked_l24 (g : gm_T) (c5 : Int) : Nat → Int → Int → Option (Int)
  | 0, _, _ => none
  | fuel + 1, v6, v7 =>
    jg (rg v7 ∧ rg c5)
    (if v7 < c5 then
    (jl ((zA v6 (v6 - 1))) fun (v11 : Int) =>
    cw_asked_l24 g c5 fuel v11 (v7 + 1))
    else
    (some v6))
noncomputable def cw_asked (g : gm_T) (a1 : Int) : Option (Int) :=
    jl ((gm_I g 40 10)) fun (v1 : Int) =>
    jg (rg a1)
    (if a1 < 0 then
    (some (-1))
    else
    (jb1 (jd_bitCount g v1) fun (v3 : Int) =>
    jg (rg v3)
    (if a1 < v3 then
    (jb1 (cw_asked_l24 g a1 fz v1 0) fun (v13 : Int) =>
    jb1 (jd_numberOfTrailingZeros g v13) fun (v15 : Int) =>
    some v15)
    else
    (some (-1)))))
noncomputable def cw_isDay (g : gm_T) (a0 : Int) : Option (Int) :=
    jg (rg a0)
    (if a0 < 0 then
    (some 0)
    else
    (if a0 ≤ 999 then
    (some 1)
    else
    (some 0)))
noncomputable def cw_enter (g : gm_T) (a1 : Int) (a2 : Int) (a3 : Int) : Option (Int × gm_T) :=
    jb1 (cw_isBit g a1) fun (v1 : Int) =>
    jg (rg v1)
    (if v1 = 0 then
    (some ((-1), g))
    else
    (jg (rg a2)
    (if a2 < (-1) then
    (some ((-1), g))
    else
    (if a2 < 10 then
    (jb1 (cw_isDay g a3) fun (v4 : Int) =>
    jg (rg v4)
    (if v4 = 0 then
    (some ((-2), g))
    else
    (jb1 (cx_isFull g) fun (v6 : Int) =>
    jg (rg v6)
    (if v6 = 0 then
    (jb2 (cx_addEntry g a1 a2 a3) fun (v8 : Int) (g9 : gm_T) =>
    some (v8, g9))
    else
    (some ((-4), g))))))
    else
    (some ((-1), g))))))
noncomputable def cw_box (g : gm_T) (a1 : Int) (a2 : Int) (a3 : Int) : Option (Int) :=
    jb1 (cw_isBit g a1) fun (v1 : Int) =>
    jg (rg v1)
    (if v1 = 0 then
    (some (-1))
    else
    (jg (rg a3)
    (if a3 < 0 then
    (some (-1))
    else
    (jg (rg (gm_I g 32 0))
    (if a3 ≤ (gm_I g 32 0) then
    (jb1 (cw_isDay g a2) fun (v5 : Int) =>
    jg (rg v5)
    (if v5 = 0 then
    (some (-2))
    else
    (jb1 (cx_boxOf g a1 a2 a3) fun (v7 : Int) =>
    jg (rg v7)
    (if v7 < 0 then
    (some (-5))
    else
    (some v7)))))
    else
    (some (-1)))))))
noncomputable def cw_isHand (g : gm_T) (a0 : Int) : Option (Int) :=
    jg (rg a0)
    (if a0 < 0 then
    (some 0)
    else
    (if a0 < 6 then
    (some 1)
    else
    (some 0)))
noncomputable def cw_skill (g : gm_T) (a1 : Int) (a2 : Int) (a3 : Int) : Option (Int × gm_T) :=
    jb1 (cw_isHand g a1) fun (v1 : Int) =>
    jg (rg v1)
    (if v1 = 0 then
    (some ((-1), g))
    else
    (jb1 (cw_isDigit g a2) fun (v3 : Int) =>
    jg (rg v3)
    (if v3 = 0 then
    (some ((-1), g))
    else
    (jb1 (cw_isDigit g a3) fun (v5 : Int) =>
    jg (rg v5)
    (if v5 = 0 then
    (some ((-2), g))
    else
    (jg (0 ≤ ((10 * a1) + a2) ∧ ((10 * a1) + a2) < 60)
    (jl ((gm_I g 36 (((10 * a1) + a2)).toNat)) fun (v8 : Int) =>
    jl (gm_wI g 36 (((10 * a1) + a2)).toNat a3) fun (g9 : gm_T) =>
    some (v8, g9))))))))
noncomputable def cw_share (n : Nat) (g : gm_T) (a1 : Int) : Option (Int × gm_T) :=
    jg (rg a1)
    (if a1 = (-1) then
    (jb2 (cx_shareOut n g) fun (v2 : Int) (g3 : gm_T) =>
    if a1 = (-1) then
    (some (v2, g3))
    else
    (jg (0 ≤ a1 ∧ a1 < 6)
    (jg (rg (gm_I g3 39 a1.toNat))
    (if (gm_I g3 39 a1.toNat) < 0 then
    (some ((-5), g3))
    else
    (some ((gm_I g3 39 a1.toNat), g3))))))
    else
    (jb1 (cw_isHand g a1) fun (v6 : Int) =>
    jg (rg v6)
    (if v6 = 0 then
    (some ((-100000), g))
    else
    (jb2 (cx_shareOut n g) fun (v8 : Int) (g9 : gm_T) =>
    if a1 = (-1) then
    (some (v8, g9))
    else
    (jg (0 ≤ a1 ∧ a1 < 6)
    (jg (rg (gm_I g9 39 a1.toNat))
    (if (gm_I g9 39 a1.toNat) < 0 then
    (some ((-5), g9))
    else
    (some ((gm_I g9 39 a1.toNat), g9)))))))))
noncomputable def cw_count (n : Nat) (g : gm_T) (a1 : Int) : Option (Int) :=
    jg (rg a1)
    (if a1 = 0 then
    (some (gm_I g 10 1))
    else
    (if a1 = 1 then
    (jb1 (je_bitCount g (gm_J g 14 5)) fun (v17 : Int) =>
    some v17)
    else
    (if a1 = 2 then
    (jb1 (cj_countGroups g (gm_I g 10 1)) fun (v16 : Int) =>
    some v16)
    else
    (if a1 = 3 then
    (jb1 (cv_standing g) fun (v14 : Int) =>
    jb1 (jd_bitCount g v14) fun (v15 : Int) =>
    some v15)
    else
    (if a1 = 4 then
    (jb1 (jd_bitCount g (gm_I g 22 3)) fun (v13 : Int) =>
    some v13)
    else
    (if a1 = 5 then
    (jb1 (cv_proved n g) fun (v11 : Int) =>
    jb1 (jd_bitCount g v11) fun (v12 : Int) =>
    some v12)
    else
    (if a1 = 6 then
    (some (gm_I g 32 0))
    else
    (if a1 = 7 then
    (some (gm_I g 1 0))
    else
    (if a1 = 8 then
    (some (gm_I g 14 4))
    else
    (some (-1)))))))))))
theorem rf_ca_holds {s : gm_S} {n m : Nat} (hs : gm_sh s n m) (d : Nat)  (g : gm_T) (a1 : Int)  : jr (pI s g) (ca_holds g a1) (jm_cl jm_CD km_n (d + 1) 1 [.ref 27, gv a1] (gm_h s g)) := by
  unfold ca_holds
  exact (r_ent (cd := cd_1) (n := 2) (L0 := [some (.ref 27), some (gv a1)]) rfl rfl rfl rfl (
      r_aload (pc2 := 1) rfl rfl rfl (
      r_getI (pc2 := 4) rfl rfl (sh_T hs rfl rfl) (
      r_iload (pc2 := 5) rfl rfl rfl (
      r_ishr (pc2 := 6) rfl rfl (
      r_ic (x := 1) (pc2 := 7) rfl ic_1 rfl (
      r_iand (pc2 := 8) rfl rfl (
      r_ifeq (pc2 := 11) (t := 15) rfl (rg_toInt _) rfl (fun _ =>
      r_ic (x := 0) (pc2 := 16) rfl ic_0 rfl (
      r_zret rfl (by decide) rfl)) (fun _ =>
      r_ic (x := 1) (pc2 := 12) rfl ic_1 rfl (
      r_goto (t := 16) rfl (
      r_zret rfl (by decide) rfl)))))))))))
theorem rf_jd_bitCount {s : gm_S} {n m : Nat} (hs : gm_sh s n m) (d : Nat)  (g : gm_T) (a0 : Int)  : jr (pI s g) (jd_bitCount g a0) (jm_cl jm_CD km_n (d + 1) 317 [gv a0] (gm_h s g)) := by
  unfold jd_bitCount
  exact (r_ent (cd := cd_317) (n := 1) (L0 := [some (gv a0)]) rfl rfl rfl rfl (
      r_iload (pc2 := 1) rfl rfl rfl (
      r_iload (pc2 := 2) rfl rfl rfl (
      r_ic (x := 1) (pc2 := 3) rfl ic_1 rfl (
      r_iushr (pc2 := 4) rfl rfl (
      r_ic (x := 1431655765) (pc2 := 7) rfl ic_1431655765 rfl (
      r_iand (pc2 := 8) rfl rfl (
      r_isub (pc2 := 9) rfl rfl (
      r_istoreL (L3 := fun v1 => [some (gv v1)]) (pc2 := 10) rfl rfl (fun _ => rfl) fun v1 => (
      r_iload (pc2 := 11) rfl rfl rfl (
      r_ic (x := 858993459) (pc2 := 14) rfl ic_858993459 rfl (
      r_iand (pc2 := 15) rfl rfl (
      r_iload (pc2 := 16) rfl rfl rfl (
      r_ic (x := 2) (pc2 := 17) rfl ic_2 rfl (
      r_iushr (pc2 := 18) rfl rfl (
      r_ic (x := 858993459) (pc2 := 21) rfl ic_858993459 rfl (
      r_iand (pc2 := 22) rfl rfl (
      r_iadd (pc2 := 23) rfl rfl (
      r_istoreL (L3 := fun v2 => [some (gv v2)]) (pc2 := 24) rfl rfl (fun _ => rfl) fun v2 => (
      r_iload (pc2 := 25) rfl rfl rfl (
      r_iload (pc2 := 26) rfl rfl rfl (
      r_ic (x := 4) (pc2 := 27) rfl ic_4 rfl (
      r_iushr (pc2 := 28) rfl rfl (
      r_iadd (pc2 := 29) rfl rfl (
      r_ic (x := 252645135) (pc2 := 32) rfl ic_252645135 rfl (
      r_iand (pc2 := 33) rfl rfl (
      r_istoreL (L3 := fun v3 => [some (gv v3)]) (pc2 := 34) rfl rfl (fun _ => rfl) fun v3 => (
      r_iload (pc2 := 35) rfl rfl rfl (
      r_iload (pc2 := 36) rfl rfl rfl (
      r_ic (x := 8) (pc2 := 38) rfl ic_8 rfl (
      r_iushr (pc2 := 39) rfl rfl (
      r_iadd (pc2 := 40) rfl rfl (
      r_istoreL (L3 := fun v4 => [some (gv v4)]) (pc2 := 41) rfl rfl (fun _ => rfl) fun v4 => (
      r_iload (pc2 := 42) rfl rfl rfl (
      r_iload (pc2 := 43) rfl rfl rfl (
      r_ic (x := 16) (pc2 := 45) rfl ic_16 rfl (
      r_iushr (pc2 := 46) rfl rfl (
      r_iadd (pc2 := 47) rfl rfl (
      r_istoreL (L3 := fun v5 => [some (gv v5)]) (pc2 := 48) rfl rfl (fun _ => rfl) fun v5 => (
      r_iload (pc2 := 49) rfl rfl rfl (
      r_ic (x := 63) (pc2 := 51) rfl ic_63 rfl (
      r_iand (pc2 := 52) rfl rfl (
      r_iret rfl rfl)))))))))))))))))))))))))))))))))))))))))))
theorem rf_ca_placeOf {s : gm_S} {n m : Nat} (hs : gm_sh s n m) (d : Nat)  (g : gm_T) (a1 : Int)  : jr (pJ s g) (ca_placeOf g a1) (jm_cl jm_CD km_n (d + 2) 2 [.ref 27, gv a1] (gm_h s g)) := by
  unfold ca_placeOf
  exact (r_ent (cd := cd_2) (n := 3) (L0 := [some (.ref 27), some (gv a1), none]) rfl rfl rfl rfl (
      r_aload (pc2 := 1) rfl rfl rfl (
      r_getI (pc2 := 4) rfl rfl (sh_T hs rfl rfl) (
      r_ic (x := 1) (pc2 := 5) rfl ic_1 rfl (
      r_iload (pc2 := 6) rfl rfl rfl (
      r_ishl (pc2 := 7) rfl rfl (
      r_ic (x := 1) (pc2 := 8) rfl ic_1 rfl (
      r_isub (pc2 := 9) rfl rfl (
      r_iand (pc2 := 10) rfl rfl (
      r_callSP (pc2 := 13) (args := [gv (zA (gm_I g 27 8) ((zSl 1 a1) - 1))]) (st2 := []) rfl rfl rfl rfl rfl rfl (rf_jd_bitCount hs d g (zA (gm_I g 27 8) ((zSl 1 a1) - 1)) ) fun v1 => (
      r_istore (L2 := [some (.ref 27), some (gv a1), some (gv v1)]) (pc2 := 14) rfl rfl rfl (
      r_iload (pc2 := 15) rfl rfl rfl (
      jr_g fun h2 => r_ifne (pc2 := 18) (t := 22) rfl h2 rfl (fun _ =>
      r_lc (pc2 := 21) rfl rfl (
      r_lret rfl rfl)) (fun _ =>
      r_iload (pc2 := 23) rfl rfl rfl (
      r_ic (x := 1) (pc2 := 24) rfl ic_1 rfl (
      r_cne (pc2 := 27) (t := 34) rfl h2 (rgk rfl) rfl (fun _ =>
      r_aload (pc2 := 28) rfl rfl rfl (
      r_getJ (pc2 := 31) rfl rfl (sh_T hs rfl rfl) (
      r_goto (t := 38) rfl (
      r_lret rfl rfl)))) (fun _ =>
      r_aload (pc2 := 35) rfl rfl rfl (
      r_getJ (pc2 := 38) rfl rfl (sh_T hs rfl rfl) (
      r_lret rfl rfl)))))))))))))))))))
theorem rf_jd_numberOfTrailingZeros {s : gm_S} {n m : Nat} (hs : gm_sh s n m) (d : Nat)  (g : gm_T) (a0 : Int)  : jr (pI s g) (jd_numberOfTrailingZeros g a0) (jm_cl jm_CD km_n (d + 1) 319 [gv a0] (gm_h s g)) := by
  unfold jd_numberOfTrailingZeros
  exact (r_ent (cd := cd_319) (n := 2) (L0 := [some (gv a0), none]) rfl rfl rfl rfl (
      r_iload (pc2 := 1) rfl rfl rfl (
      r_ic (x := -1) (pc2 := 2) rfl ic_m1 rfl (
      r_ixor (pc2 := 3) rfl rfl (
      r_iload (pc2 := 4) rfl rfl rfl (
      r_ic (x := 1) (pc2 := 5) rfl ic_1 rfl (
      r_isub (pc2 := 6) rfl rfl (
      r_iand (pc2 := 7) rfl rfl (
      r_istoreL (L3 := fun v1 => [some (gv v1), none]) (pc2 := 8) rfl rfl (fun _ => rfl) fun v1 => (
      r_iload (pc2 := 9) rfl rfl rfl (
      jr_g fun h2 => r_ifgt (pc2 := 12) (t := 17) rfl h2 rfl (fun _ =>
      r_iload (pc2 := 13) rfl rfl rfl (
      r_ic (x := 32) (pc2 := 15) rfl ic_32 rfl (
      r_iand (pc2 := 16) rfl rfl (
      r_iret rfl rfl)))) (fun _ =>
      r_ic (x := 1) (pc2 := 18) rfl ic_1 rfl (
      r_istore (L2 := [some (gv v1), some (gv 1)]) (pc2 := 19) rfl rfl rfl (
      r_iload (pc2 := 20) rfl rfl rfl (
      r_ic (x := 65536) (pc2 := 23) rfl ic_65536 rfl (
      r_b2 (R1 := (fun (q : Int × Int) (c : Option jm_R) => c = jm_sup cd_319 (jm_cl jm_CD km_n d) (34, [some (gv q.1), some (gv q.2)], [], gm_h s g))) (
      r_cle (pc2 := 26) (t := 34) rfl h2 (rgk rfl) rfl (fun _ =>
      jr_leaf rfl) (fun _ =>
      r_iinc (kk := 16) (L2 := [some (gv v1), some (gv (1 + 16))]) (pc2 := 29) rfl ic_16 rfl rfl rfl (
      r_iload (pc2 := 30) rfl rfl rfl (
      r_ic (x := 16) (pc2 := 32) rfl ic_16 rfl (
      r_iushr (pc2 := 33) rfl rfl (
      r_istoreL (L3 := fun v6 => [some (gv v6), some (gv (1 + 16))]) (pc2 := 34) rfl rfl (fun _ => rfl) fun v6 => (
      jr_leaf rfl))))))) (fun v3 v4 c h => match c, h with | _, rfl => (
      r_iload (pc2 := 35) rfl rfl rfl (
      r_ic (x := 256) (pc2 := 38) rfl ic_256 rfl (
      r_b2 (R1 := (fun (q : Int × Int) (c : Option jm_R) => c = jm_sup cd_319 (jm_cl jm_CD km_n d) (49, [some (gv q.1), some (gv q.2)], [], gm_h s g))) (
      jr_g fun h9 => r_cle (pc2 := 41) (t := 49) rfl h9 (rgk rfl) rfl (fun _ =>
      jr_leaf rfl) (fun _ =>
      r_iinc (kk := 8) (L2 := [some (gv v3), some (gv (v4 + 8))]) (pc2 := 44) rfl ic_8 rfl rfl rfl (
      r_iload (pc2 := 45) rfl rfl rfl (
      r_ic (x := 8) (pc2 := 47) rfl ic_8 rfl (
      r_iushr (pc2 := 48) rfl rfl (
      r_istoreL (L3 := fun v11 => [some (gv v11), some (gv (v4 + 8))]) (pc2 := 49) rfl rfl (fun _ => rfl) fun v11 => (
      jr_leaf rfl))))))) (fun v7 v8 c h => match c, h with | _, rfl => (
      r_iload (pc2 := 50) rfl rfl rfl (
      r_ic (x := 16) (pc2 := 52) rfl ic_16 rfl (
      r_b2 (R1 := (fun (q : Int × Int) (c : Option jm_R) => c = jm_sup cd_319 (jm_cl jm_CD km_n d) (62, [some (gv q.1), some (gv q.2)], [], gm_h s g))) (
      jr_g fun h14 => r_cle (pc2 := 55) (t := 62) rfl h14 (rgk rfl) rfl (fun _ =>
      jr_leaf rfl) (fun _ =>
      r_iinc (kk := 4) (L2 := [some (gv v7), some (gv (v8 + 4))]) (pc2 := 58) rfl ic_4 rfl rfl rfl (
      r_iload (pc2 := 59) rfl rfl rfl (
      r_ic (x := 4) (pc2 := 60) rfl ic_4 rfl (
      r_iushr (pc2 := 61) rfl rfl (
      r_istoreL (L3 := fun v16 => [some (gv v16), some (gv (v8 + 4))]) (pc2 := 62) rfl rfl (fun _ => rfl) fun v16 => (
      jr_leaf rfl))))))) (fun v12 v13 c h => match c, h with | _, rfl => (
      r_iload (pc2 := 63) rfl rfl rfl (
      r_ic (x := 4) (pc2 := 64) rfl ic_4 rfl (
      jr_g fun h17 => r_cle (pc2 := 67) (t := 74) rfl h17 (rgk rfl) rfl (fun _ =>
      r_iload (pc2 := 75) rfl rfl rfl (
      r_iload (pc2 := 76) rfl rfl rfl (
      r_ic (x := 1) (pc2 := 77) rfl ic_1 rfl (
      r_iushr (pc2 := 78) rfl rfl (
      r_iadd (pc2 := 79) rfl rfl (
      r_iret rfl rfl)))))) (fun _ =>
      r_iinc (kk := 2) (L2 := [some (gv v12), some (gv (v13 + 2))]) (pc2 := 70) rfl ic_2 rfl rfl rfl (
      r_iload (pc2 := 71) rfl rfl rfl (
      r_ic (x := 2) (pc2 := 72) rfl ic_2 rfl (
      r_iushr (pc2 := 73) rfl rfl (
      r_istoreL (L3 := fun v19 => [some (gv v19), some (gv (v13 + 2))]) (pc2 := 74) rfl rfl (fun _ => rfl) fun v19 => (
      r_iload (pc2 := 75) rfl rfl rfl (
      r_iload (pc2 := 76) rfl rfl rfl (
      r_ic (x := 1) (pc2 := 77) rfl ic_1 rfl (
      r_iushr (pc2 := 78) rfl rfl (
      r_iadd (pc2 := 79) rfl rfl (
      r_iret rfl rfl)))))))))))))))))))))))))))))))))))))))
theorem rf_cb_next {s : gm_S} {n m : Nat} (hs : gm_sh s n m) (d : Nat)  (g : gm_T) (i0 : Nat) (a1 : Int) (hi0 : i0 < m) : jr (pI s g) (cb_next g i0 a1) (jm_cl jm_CD km_n (d + 1) 15 [.ref (bA i0), gv a1] (gm_h s g)) := by
  unfold cb_next
  exact (r_ent (cd := cd_15) (n := 2) (L0 := [some (.ref (bA i0)), some (gv a1)]) rfl rfl rfl rfl (
      r_iload (pc2 := 1) rfl rfl rfl (
      r_ic (x := 1) (pc2 := 2) rfl ic_1 rfl (
      r_iadd (pc2 := 3) rfl rfl (
      r_aload (pc2 := 4) rfl rfl rfl (
      r_getI (pc2 := 7) rfl rfl (sh_b0 hs hi0) (
      jr_g fun h1 => r_cge (pc2 := 10) (t := 16) rfl h1.1 h1.2 rfl (fun _ =>
      r_iload (pc2 := 11) rfl rfl rfl (
      r_ic (x := 1) (pc2 := 12) rfl ic_1 rfl (
      r_iadd (pc2 := 13) rfl rfl (
      r_goto (t := 17) rfl (
      r_iret rfl rfl))))) (fun _ =>
      r_ic (x := 0) (pc2 := 17) rfl ic_0 rfl (
      r_iret rfl rfl)))))))))
theorem rf_cb_turnFor {s : gm_S} {n m : Nat} (hs : gm_sh s n m) (d : Nat)  (g : gm_T) (i0 : Nat) (a1 : Int) (i2 : Nat) (a3 : Int) (hi0 : i0 < m) (hi2 : i2 < m) : jr (pI s g) (cb_turnFor g i0 a1 i2 a3) (jm_cl jm_CD km_n (d + 2) 18 [.ref (bA i0), gv a1, .ref (bA i2), gv a3] (gm_h s g)) := by
  unfold cb_turnFor
  exact (r_ent (cd := cd_18) (n := 10) (L0 := [some (.ref (bA i0)), some (gv a1), some (.ref (bA i2)), some (gv a3), none, none, none, none, none, none]) rfl rfl rfl rfl (
      r_aload (pc2 := 1) rfl rfl rfl (
      r_iload (pc2 := 2) rfl rfl rfl (
      r_callVP (pc2 := 5) (args := [.ref (bA i0), gv a1]) (st2 := []) rfl rfl rfl rfl rfl rfl (rc_of (sh_b0 hs hi0)) (rf_cb_next hs d g i0 a1 hi0) fun v1 => (
      r_istore (L2 := [some (.ref (bA i0)), some (gv a1), some (.ref (bA i2)), some (gv a3), some (gv v1), none, none, none, none, none]) (pc2 := 7) rfl rfl rfl (
      r_aload (pc2 := 8) rfl rfl rfl (
      r_iload (pc2 := 9) rfl rfl rfl (
      r_callVP (pc2 := 12) (args := [.ref (bA i2), gv a3]) (st2 := []) rfl rfl rfl rfl rfl rfl (rc_of (sh_b0 hs hi2)) (rf_cb_next hs d g i2 a3 hi2) fun v2 => (
      r_istore (L2 := [some (.ref (bA i0)), some (gv a1), some (.ref (bA i2)), some (gv a3), some (gv v1), some (gv v2), none, none, none, none]) (pc2 := 14) rfl rfl rfl (
      r_aload (pc2 := 15) rfl rfl rfl (
      r_getA (pc2 := 18) rfl rfl (sh_b0 hs hi0) (sh_bA hs hi0 rfl rfl) (
      r_iload (pc2 := 19) rfl rfl rfl (
      jr_g fun h3 => r_iald (len := 8) (pc2 := 20) rfl rfl (sh_bT hs hi0 rfl rfl) (sh_bL hs hi0 rfl rfl) rfl h3 (
      r_aload (pc2 := 21) rfl rfl rfl (
      r_getA (pc2 := 24) rfl rfl (sh_b0 hs hi0) (sh_bA hs hi0 rfl rfl) (
      r_iload (pc2 := 26) rfl rfl rfl (
      jr_g fun h4 => r_iald (len := 8) (pc2 := 27) rfl rfl (sh_bT hs hi0 rfl rfl) (sh_bL hs hi0 rfl rfl) rfl h4 (
      r_isub (pc2 := 28) rfl rfl (
      r_istoreL (L3 := fun v5 => [some (.ref (bA i0)), some (gv a1), some (.ref (bA i2)), some (gv a3), some (gv v1), some (gv v2), some (gv v5), none, none, none]) (pc2 := 30) rfl rfl (fun _ => rfl) fun v5 => (
      r_aload (pc2 := 31) rfl rfl rfl (
      r_getA (pc2 := 34) rfl rfl (sh_b0 hs hi0) (sh_bA hs hi0 rfl rfl) (
      r_iload (pc2 := 35) rfl rfl rfl (
      r_iald (len := 8) (pc2 := 36) rfl rfl (sh_bT hs hi0 rfl rfl) (sh_bL hs hi0 rfl rfl) rfl h3 (
      r_aload (pc2 := 37) rfl rfl rfl (
      r_getA (pc2 := 40) rfl rfl (sh_b0 hs hi0) (sh_bA hs hi0 rfl rfl) (
      r_iload (pc2 := 42) rfl rfl rfl (
      r_iald (len := 8) (pc2 := 43) rfl rfl (sh_bT hs hi0 rfl rfl) (sh_bL hs hi0 rfl rfl) rfl h4 (
      r_isub (pc2 := 44) rfl rfl (
      r_istoreL (L3 := fun v6 => [some (.ref (bA i0)), some (gv a1), some (.ref (bA i2)), some (gv a3), some (gv v1), some (gv v2), some (gv v5), some (gv v6), none, none]) (pc2 := 46) rfl rfl (fun _ => rfl) fun v6 => (
      r_aload (pc2 := 47) rfl rfl rfl (
      r_getA (pc2 := 50) rfl rfl (sh_b0 hs hi2) (sh_bA hs hi2 rfl rfl) (
      r_iload (pc2 := 52) rfl rfl rfl (
      jr_g fun h7 => r_iald (len := 8) (pc2 := 53) rfl rfl (sh_bT hs hi2 rfl rfl) (sh_bL hs hi2 rfl rfl) rfl h7 (
      r_aload (pc2 := 54) rfl rfl rfl (
      r_getA (pc2 := 57) rfl rfl (sh_b0 hs hi2) (sh_bA hs hi2 rfl rfl) (
      r_iload (pc2 := 58) rfl rfl rfl (
      jr_g fun h8 => r_iald (len := 8) (pc2 := 59) rfl rfl (sh_bT hs hi2 rfl rfl) (sh_bL hs hi2 rfl rfl) rfl h8 (
      r_isub (pc2 := 60) rfl rfl (
      r_istoreL (L3 := fun v9 => [some (.ref (bA i0)), some (gv a1), some (.ref (bA i2)), some (gv a3), some (gv v1), some (gv v2), some (gv v5), some (gv v6), some (gv v9), none]) (pc2 := 62) rfl rfl (fun _ => rfl) fun v9 => (
      r_aload (pc2 := 63) rfl rfl rfl (
      r_getA (pc2 := 66) rfl rfl (sh_b0 hs hi2) (sh_bA hs hi2 rfl rfl) (
      r_iload (pc2 := 68) rfl rfl rfl (
      r_iald (len := 8) (pc2 := 69) rfl rfl (sh_bT hs hi2 rfl rfl) (sh_bL hs hi2 rfl rfl) rfl h7 (
      r_aload (pc2 := 70) rfl rfl rfl (
      r_getA (pc2 := 73) rfl rfl (sh_b0 hs hi2) (sh_bA hs hi2 rfl rfl) (
      r_iload (pc2 := 74) rfl rfl rfl (
      r_iald (len := 8) (pc2 := 75) rfl rfl (sh_bT hs hi2 rfl rfl) (sh_bL hs hi2 rfl rfl) rfl h8 (
      r_isub (pc2 := 76) rfl rfl (
      r_istoreL (L3 := fun v10 => [some (.ref (bA i0)), some (gv a1), some (.ref (bA i2)), some (gv a3), some (gv v1), some (gv v2), some (gv v5), some (gv v6), some (gv v9), some (gv v10)]) (pc2 := 78) rfl rfl (fun _ => rfl) fun v10 => (
      r_iload (pc2 := 80) rfl rfl rfl (
      r_iload (pc2 := 82) rfl rfl rfl (
      jr_g fun h11 => r_cne (pc2 := 85) (t := 94) rfl h11.1 h11.2 rfl (fun _ =>
      r_iload (pc2 := 87) rfl rfl rfl (
      r_iload (pc2 := 89) rfl rfl rfl (
      jr_g fun h12 => r_cne (pc2 := 92) (t := 94) rfl h12.1 h12.2 rfl (fun _ =>
      r_ic (x := 0) (pc2 := 93) rfl ic_0 rfl (
      r_iret rfl rfl)) (fun _ =>
      r_iload (pc2 := 96) rfl rfl rfl (
      r_ineg (pc2 := 97) rfl rfl (
      r_iload (pc2 := 99) rfl rfl rfl (
      jr_g fun h13 => r_cne (pc2 := 102) (t := 111) rfl h13 h11.2 rfl (fun _ =>
      r_iload (pc2 := 104) rfl rfl rfl (
      r_iload (pc2 := 106) rfl rfl rfl (
      r_cne (pc2 := 109) (t := 111) rfl h11.1 h12.2 rfl (fun _ =>
      r_ic (x := 1) (pc2 := 110) rfl ic_1 rfl (
      r_iret rfl rfl)) (fun _ =>
      r_iload (pc2 := 113) rfl rfl rfl (
      r_ineg (pc2 := 114) rfl rfl (
      r_iload (pc2 := 116) rfl rfl rfl (
      jr_g fun h14 => r_cne (pc2 := 119) (t := 129) rfl h14 h11.2 rfl (fun _ =>
      r_iload (pc2 := 121) rfl rfl rfl (
      r_ineg (pc2 := 122) rfl rfl (
      r_iload (pc2 := 124) rfl rfl rfl (
      r_cne (pc2 := 127) (t := 129) rfl h13 h12.2 rfl (fun _ =>
      r_ic (x := 2) (pc2 := 128) rfl ic_2 rfl (
      r_iret rfl rfl)) (fun _ =>
      r_iload (pc2 := 131) rfl rfl rfl (
      r_iload (pc2 := 133) rfl rfl rfl (
      r_cne (pc2 := 136) (t := 148) rfl h12.1 h11.2 rfl (fun _ =>
      r_iload (pc2 := 138) rfl rfl rfl (
      r_ineg (pc2 := 139) rfl rfl (
      r_iload (pc2 := 141) rfl rfl rfl (
      r_cne (pc2 := 144) (t := 148) rfl h14 h12.2 rfl (fun _ =>
      r_ic (x := 3) (pc2 := 145) rfl ic_3 rfl (
      r_goto (t := 149) rfl (
      r_iret rfl rfl))) (fun _ =>
      r_ic (x := -1) (pc2 := 149) rfl ic_m1 rfl (
      r_iret rfl rfl)))))) (fun _ =>
      r_ic (x := -1) (pc2 := 149) rfl ic_m1 rfl (
      r_iret rfl rfl))))))))) (fun _ =>
      r_iload (pc2 := 131) rfl rfl rfl (
      r_iload (pc2 := 133) rfl rfl rfl (
      r_cne (pc2 := 136) (t := 148) rfl h12.1 h11.2 rfl (fun _ =>
      r_iload (pc2 := 138) rfl rfl rfl (
      r_ineg (pc2 := 139) rfl rfl (
      r_iload (pc2 := 141) rfl rfl rfl (
      r_cne (pc2 := 144) (t := 148) rfl h14 h12.2 rfl (fun _ =>
      r_ic (x := 3) (pc2 := 145) rfl ic_3 rfl (
      r_goto (t := 149) rfl (
      r_iret rfl rfl))) (fun _ =>
      r_ic (x := -1) (pc2 := 149) rfl ic_m1 rfl (
      r_iret rfl rfl)))))) (fun _ =>
      r_ic (x := -1) (pc2 := 149) rfl ic_m1 rfl (
      r_iret rfl rfl)))))))))))) (fun _ =>
      r_iload (pc2 := 113) rfl rfl rfl (
      r_ineg (pc2 := 114) rfl rfl (
      r_iload (pc2 := 116) rfl rfl rfl (
      jr_g fun h15 => r_cne (pc2 := 119) (t := 129) rfl h15 h11.2 rfl (fun _ =>
      r_iload (pc2 := 121) rfl rfl rfl (
      r_ineg (pc2 := 122) rfl rfl (
      r_iload (pc2 := 124) rfl rfl rfl (
      r_cne (pc2 := 127) (t := 129) rfl h13 h12.2 rfl (fun _ =>
      r_ic (x := 2) (pc2 := 128) rfl ic_2 rfl (
      r_iret rfl rfl)) (fun _ =>
      r_iload (pc2 := 131) rfl rfl rfl (
      r_iload (pc2 := 133) rfl rfl rfl (
      r_cne (pc2 := 136) (t := 148) rfl h12.1 h11.2 rfl (fun _ =>
      r_iload (pc2 := 138) rfl rfl rfl (
      r_ineg (pc2 := 139) rfl rfl (
      r_iload (pc2 := 141) rfl rfl rfl (
      r_cne (pc2 := 144) (t := 148) rfl h15 h12.2 rfl (fun _ =>
      r_ic (x := 3) (pc2 := 145) rfl ic_3 rfl (
      r_goto (t := 149) rfl (
      r_iret rfl rfl))) (fun _ =>
      r_ic (x := -1) (pc2 := 149) rfl ic_m1 rfl (
      r_iret rfl rfl)))))) (fun _ =>
      r_ic (x := -1) (pc2 := 149) rfl ic_m1 rfl (
      r_iret rfl rfl))))))))) (fun _ =>
      r_iload (pc2 := 131) rfl rfl rfl (
      r_iload (pc2 := 133) rfl rfl rfl (
      r_cne (pc2 := 136) (t := 148) rfl h12.1 h11.2 rfl (fun _ =>
      r_iload (pc2 := 138) rfl rfl rfl (
      r_ineg (pc2 := 139) rfl rfl (
      r_iload (pc2 := 141) rfl rfl rfl (
      r_cne (pc2 := 144) (t := 148) rfl h15 h12.2 rfl (fun _ =>
      r_ic (x := 3) (pc2 := 145) rfl ic_3 rfl (
      r_goto (t := 149) rfl (
      r_iret rfl rfl))) (fun _ =>
      r_ic (x := -1) (pc2 := 149) rfl ic_m1 rfl (
      r_iret rfl rfl)))))) (fun _ =>
      r_ic (x := -1) (pc2 := 149) rfl ic_m1 rfl (
      r_iret rfl rfl)))))))))))))))) (fun _ =>
      r_iload (pc2 := 96) rfl rfl rfl (
      r_ineg (pc2 := 97) rfl rfl (
      r_iload (pc2 := 99) rfl rfl rfl (
      jr_g fun h16 => r_cne (pc2 := 102) (t := 111) rfl h16 h11.2 rfl (fun _ =>
      r_iload (pc2 := 104) rfl rfl rfl (
      r_iload (pc2 := 106) rfl rfl rfl (
      jr_g fun h17 => r_cne (pc2 := 109) (t := 111) rfl h11.1 h17 rfl (fun _ =>
      r_ic (x := 1) (pc2 := 110) rfl ic_1 rfl (
      r_iret rfl rfl)) (fun _ =>
      r_iload (pc2 := 113) rfl rfl rfl (
      r_ineg (pc2 := 114) rfl rfl (
      r_iload (pc2 := 116) rfl rfl rfl (
      jr_g fun h18 => r_cne (pc2 := 119) (t := 129) rfl h18 h11.2 rfl (fun _ =>
      r_iload (pc2 := 121) rfl rfl rfl (
      r_ineg (pc2 := 122) rfl rfl (
      r_iload (pc2 := 124) rfl rfl rfl (
      r_cne (pc2 := 127) (t := 129) rfl h16 h17 rfl (fun _ =>
      r_ic (x := 2) (pc2 := 128) rfl ic_2 rfl (
      r_iret rfl rfl)) (fun _ =>
      r_iload (pc2 := 131) rfl rfl rfl (
      r_iload (pc2 := 133) rfl rfl rfl (
      jr_g fun h19 => r_cne (pc2 := 136) (t := 148) rfl h19 h11.2 rfl (fun _ =>
      r_iload (pc2 := 138) rfl rfl rfl (
      r_ineg (pc2 := 139) rfl rfl (
      r_iload (pc2 := 141) rfl rfl rfl (
      r_cne (pc2 := 144) (t := 148) rfl h18 h17 rfl (fun _ =>
      r_ic (x := 3) (pc2 := 145) rfl ic_3 rfl (
      r_goto (t := 149) rfl (
      r_iret rfl rfl))) (fun _ =>
      r_ic (x := -1) (pc2 := 149) rfl ic_m1 rfl (
      r_iret rfl rfl)))))) (fun _ =>
      r_ic (x := -1) (pc2 := 149) rfl ic_m1 rfl (
      r_iret rfl rfl))))))))) (fun _ =>
      r_iload (pc2 := 131) rfl rfl rfl (
      r_iload (pc2 := 133) rfl rfl rfl (
      jr_g fun h20 => r_cne (pc2 := 136) (t := 148) rfl h20 h11.2 rfl (fun _ =>
      r_iload (pc2 := 138) rfl rfl rfl (
      r_ineg (pc2 := 139) rfl rfl (
      r_iload (pc2 := 141) rfl rfl rfl (
      r_cne (pc2 := 144) (t := 148) rfl h18 h17 rfl (fun _ =>
      r_ic (x := 3) (pc2 := 145) rfl ic_3 rfl (
      r_goto (t := 149) rfl (
      r_iret rfl rfl))) (fun _ =>
      r_ic (x := -1) (pc2 := 149) rfl ic_m1 rfl (
      r_iret rfl rfl)))))) (fun _ =>
      r_ic (x := -1) (pc2 := 149) rfl ic_m1 rfl (
      r_iret rfl rfl)))))))))))) (fun _ =>
      r_iload (pc2 := 113) rfl rfl rfl (
      r_ineg (pc2 := 114) rfl rfl (
      r_iload (pc2 := 116) rfl rfl rfl (
      jr_g fun h21 => r_cne (pc2 := 119) (t := 129) rfl h21 h11.2 rfl (fun _ =>
      r_iload (pc2 := 121) rfl rfl rfl (
      r_ineg (pc2 := 122) rfl rfl (
      r_iload (pc2 := 124) rfl rfl rfl (
      jr_g fun h22 => r_cne (pc2 := 127) (t := 129) rfl h16 h22 rfl (fun _ =>
      r_ic (x := 2) (pc2 := 128) rfl ic_2 rfl (
      r_iret rfl rfl)) (fun _ =>
      r_iload (pc2 := 131) rfl rfl rfl (
      r_iload (pc2 := 133) rfl rfl rfl (
      jr_g fun h23 => r_cne (pc2 := 136) (t := 148) rfl h23 h11.2 rfl (fun _ =>
      r_iload (pc2 := 138) rfl rfl rfl (
      r_ineg (pc2 := 139) rfl rfl (
      r_iload (pc2 := 141) rfl rfl rfl (
      r_cne (pc2 := 144) (t := 148) rfl h21 h22 rfl (fun _ =>
      r_ic (x := 3) (pc2 := 145) rfl ic_3 rfl (
      r_goto (t := 149) rfl (
      r_iret rfl rfl))) (fun _ =>
      r_ic (x := -1) (pc2 := 149) rfl ic_m1 rfl (
      r_iret rfl rfl)))))) (fun _ =>
      r_ic (x := -1) (pc2 := 149) rfl ic_m1 rfl (
      r_iret rfl rfl))))))))) (fun _ =>
      r_iload (pc2 := 131) rfl rfl rfl (
      r_iload (pc2 := 133) rfl rfl rfl (
      jr_g fun h24 => r_cne (pc2 := 136) (t := 148) rfl h24 h11.2 rfl (fun _ =>
      r_iload (pc2 := 138) rfl rfl rfl (
      r_ineg (pc2 := 139) rfl rfl (
      r_iload (pc2 := 141) rfl rfl rfl (
      jr_g fun h25 => r_cne (pc2 := 144) (t := 148) rfl h21 h25 rfl (fun _ =>
      r_ic (x := 3) (pc2 := 145) rfl ic_3 rfl (
      r_goto (t := 149) rfl (
      r_iret rfl rfl))) (fun _ =>
      r_ic (x := -1) (pc2 := 149) rfl ic_m1 rfl (
      r_iret rfl rfl)))))) (fun _ =>
      r_ic (x := -1) (pc2 := 149) rfl ic_m1 rfl (
      r_iret rfl rfl)))))))))))))))))))))))))))))))))))))))))))))))))))))))))))))))))
theorem rf_cc_turnedX {s : gm_S} {n m : Nat} (hs : gm_sh s n m) (d : Nat)  (g : gm_T) (a0 : Int) (a1 : Int) (a2 : Int)  : jr (pI s g) (cc_turnedX g a0 a1 a2) (jm_cl jm_CD km_n (d + 1) 309 [gv a0, gv a1, gv a2] (gm_h s g)) := by
  unfold cc_turnedX
  exact (r_ent (cd := cd_309) (n := 3) (L0 := [some (gv a0), some (gv a1), some (gv a2)]) rfl rfl rfl rfl (
      r_iload (pc2 := 1) rfl rfl rfl (
      r_ic (x := 3) (pc2 := 2) rfl ic_3 rfl (
      r_iand (pc2 := 3) rfl rfl (
      (jr_ite (fun h1 => r_sw (pc2 := 28) rfl (sw_yes ic_0 h1) (
      r_iload (pc2 := 29) rfl rfl rfl (
      r_iret rfl rfl))) (fun h1 =>
      jr_ite (fun h2 => r_sw (pc2 := 30) rfl (sw_no ic_0 (rg_toInt _) (rgk rfl) h1 (sw_yes ic_1 h2)) (
      r_iload (pc2 := 31) rfl rfl rfl (
      r_ineg (pc2 := 32) rfl rfl (
      r_iret rfl rfl)))) (fun h2 =>
      jr_ite (fun h3 => r_sw (pc2 := 33) rfl (sw_no ic_0 (rg_toInt _) (rgk rfl) h1 (sw_no ic_1 (rg_toInt _) (rgk rfl) h2 (sw_yes ic_2 h3))) (
      r_iload (pc2 := 34) rfl rfl rfl (
      r_ineg (pc2 := 35) rfl rfl (
      r_iret rfl rfl)))) (fun h3 =>
      r_sw (pc2 := 36) rfl (sw_no ic_0 (rg_toInt _) (rgk rfl) h1 (sw_no ic_1 (rg_toInt _) (rgk rfl) h2 (sw_no ic_2 (rg_toInt _) (rgk rfl) h3 rfl))) (
      r_iload (pc2 := 37) rfl rfl rfl (
      r_iret rfl rfl)))))))))))
theorem rf_cc_turnedY {s : gm_S} {n m : Nat} (hs : gm_sh s n m) (d : Nat)  (g : gm_T) (a0 : Int) (a1 : Int) (a2 : Int)  : jr (pI s g) (cc_turnedY g a0 a1 a2) (jm_cl jm_CD km_n (d + 1) 310 [gv a0, gv a1, gv a2] (gm_h s g)) := by
  unfold cc_turnedY
  exact (r_ent (cd := cd_310) (n := 3) (L0 := [some (gv a0), some (gv a1), some (gv a2)]) rfl rfl rfl rfl (
      r_iload (pc2 := 1) rfl rfl rfl (
      r_ic (x := 3) (pc2 := 2) rfl ic_3 rfl (
      r_iand (pc2 := 3) rfl rfl (
      (jr_ite (fun h1 => r_sw (pc2 := 28) rfl (sw_yes ic_0 h1) (
      r_iload (pc2 := 29) rfl rfl rfl (
      r_iret rfl rfl))) (fun h1 =>
      jr_ite (fun h2 => r_sw (pc2 := 30) rfl (sw_no ic_0 (rg_toInt _) (rgk rfl) h1 (sw_yes ic_1 h2)) (
      r_iload (pc2 := 31) rfl rfl rfl (
      r_iret rfl rfl))) (fun h2 =>
      jr_ite (fun h3 => r_sw (pc2 := 32) rfl (sw_no ic_0 (rg_toInt _) (rgk rfl) h1 (sw_no ic_1 (rg_toInt _) (rgk rfl) h2 (sw_yes ic_2 h3))) (
      r_iload (pc2 := 33) rfl rfl rfl (
      r_ineg (pc2 := 34) rfl rfl (
      r_iret rfl rfl)))) (fun h3 =>
      r_sw (pc2 := 35) rfl (sw_no ic_0 (rg_toInt _) (rgk rfl) h1 (sw_no ic_1 (rg_toInt _) (rgk rfl) h2 (sw_no ic_2 (rg_toInt _) (rgk rfl) h3 rfl))) (
      r_iload (pc2 := 36) rfl rfl rfl (
      r_ineg (pc2 := 37) rfl rfl (
      r_iret rfl rfl))))))))))))
theorem rf_je_bitCount {s : gm_S} {n m : Nat} (hs : gm_sh s n m) (d : Nat)  (g : gm_T) (a0 : Int64)  : jr (pI s g) (je_bitCount g a0) (jm_cl jm_CD km_n (d + 1) 320 [.long a0] (gm_h s g)) := by
  unfold je_bitCount
  exact (r_ent (cd := cd_320) (n := 2) (L0 := [some (.long a0), none]) rfl rfl rfl rfl (
      r_lload (pc2 := 1) rfl rfl rfl (
      r_lload (pc2 := 2) rfl rfl rfl (
      r_ic (x := 1) (pc2 := 3) rfl ic_1 rfl (
      r_lushr (pc2 := 4) rfl rfl (
      r_lc (pc2 := 7) rfl rfl (
      r_land (pc2 := 8) rfl rfl (
      r_lsub (pc2 := 9) rfl rfl (
      r_lstoreL (L3 := fun v1 => [some (.long v1), none]) (pc2 := 10) rfl rfl (fun _ => rfl) fun v1 => (
      r_lload (pc2 := 11) rfl rfl rfl (
      r_lc (pc2 := 14) rfl rfl (
      r_land (pc2 := 15) rfl rfl (
      r_lload (pc2 := 16) rfl rfl rfl (
      r_ic (x := 2) (pc2 := 17) rfl ic_2 rfl (
      r_lushr (pc2 := 18) rfl rfl (
      r_lc (pc2 := 21) rfl rfl (
      r_land (pc2 := 22) rfl rfl (
      r_ladd (pc2 := 23) rfl rfl (
      r_lstoreL (L3 := fun v2 => [some (.long v2), none]) (pc2 := 24) rfl rfl (fun _ => rfl) fun v2 => (
      r_lload (pc2 := 25) rfl rfl rfl (
      r_lload (pc2 := 26) rfl rfl rfl (
      r_ic (x := 4) (pc2 := 27) rfl ic_4 rfl (
      r_lushr (pc2 := 28) rfl rfl (
      r_ladd (pc2 := 29) rfl rfl (
      r_lc (pc2 := 32) rfl rfl (
      r_land (pc2 := 33) rfl rfl (
      r_lstoreL (L3 := fun v3 => [some (.long v3), none]) (pc2 := 34) rfl rfl (fun _ => rfl) fun v3 => (
      r_lload (pc2 := 35) rfl rfl rfl (
      r_lload (pc2 := 36) rfl rfl rfl (
      r_ic (x := 8) (pc2 := 38) rfl ic_8 rfl (
      r_lushr (pc2 := 39) rfl rfl (
      r_ladd (pc2 := 40) rfl rfl (
      r_lstoreL (L3 := fun v4 => [some (.long v4), none]) (pc2 := 41) rfl rfl (fun _ => rfl) fun v4 => (
      r_lload (pc2 := 42) rfl rfl rfl (
      r_lload (pc2 := 43) rfl rfl rfl (
      r_ic (x := 16) (pc2 := 45) rfl ic_16 rfl (
      r_lushr (pc2 := 46) rfl rfl (
      r_ladd (pc2 := 47) rfl rfl (
      r_lstoreL (L3 := fun v5 => [some (.long v5), none]) (pc2 := 48) rfl rfl (fun _ => rfl) fun v5 => (
      r_lload (pc2 := 49) rfl rfl rfl (
      r_lload (pc2 := 50) rfl rfl rfl (
      r_ic (x := 32) (pc2 := 52) rfl ic_32 rfl (
      r_lushr (pc2 := 53) rfl rfl (
      r_ladd (pc2 := 54) rfl rfl (
      r_lstoreL (L3 := fun v6 => [some (.long v6), none]) (pc2 := 55) rfl rfl (fun _ => rfl) fun v6 => (
      r_lload (pc2 := 56) rfl rfl rfl (
      r_l2i (pc2 := 57) rfl rfl (
      r_ic (x := 127) (pc2 := 59) rfl ic_127 rfl (
      r_iand (pc2 := 60) rfl rfl (
      r_iret rfl rfl))))))))))))))))))))))))))))))))))))))))))))))))))
theorem rl_cb_common_l53 {s : gm_S} {n m : Nat} (hs : gm_sh s n m) (d : Nat)  (g : gm_T) (i6 : Nat) (c8 : Int) (i9 : Nat) (c11 : Int) (c12 : Int) (c13 : Int) (c15 : Int) (hi7 : i6 < m) (hi10 : i9 < m) : ∀ (fuel : Nat) (v14 : Int) (v16 : Int) (j17 : Option Value) (j18 : Option Value), jr (fun (q : Int) (c : Option jm_R) => ∃ (j20 : Option Value) (j21 : Option Value) (j22 : Option Value), jm_lg j20 = false ∧ c = jm_sup cd_16 (jm_cl jm_CD km_n (d + 1)) (127, [some (.ref (bA i6)), some (gv c8), some (.ref (bA i9)), some (gv c11), some (gv c12), some (gv c13), some (gv q), some (gv c15), j20, j21, none, j22, none], [], gm_h s g)) (cb_common_l53 g i6 c8 i9 c11 c12 c13 c15 fuel v14 v16) (jm_sup cd_16 (jm_cl jm_CD km_n (d + 1)) (53, [some (.ref (bA i6)), some (gv c8), some (.ref (bA i9)), some (gv c11), some (gv c12), some (gv c13), some (gv v14), some (gv c15), some (gv v16), j17, none, j18, none], [], gm_h s g)) := by
  intro fuel
  induction fuel with
  | zero => intros; exact jr_none
  | succ fuel ih =>
    intro v14 v16 j17 j18 
    unfold cb_common_l53
    exact (
      r_iload (pc2 := 55) rfl rfl rfl (
      r_iload (pc2 := 57) rfl rfl rfl (
      jr_g fun h23 => r_cge (pc2 := 60) (t := 127) rfl h23.1 h23.2 rfl (fun _ =>
      r_aload (pc2 := 61) rfl rfl rfl (
      r_getA (pc2 := 64) rfl rfl (sh_b0 hs hi10) (sh_bA hs hi10 rfl rfl) (
      r_iload (pc2 := 65) rfl rfl rfl (
      r_ic (x := 40) (pc2 := 67) rfl ic_40 rfl (
      r_imul (pc2 := 68) rfl rfl (
      r_iload (pc2 := 70) rfl rfl rfl (
      r_iadd (pc2 := 71) rfl rfl (
      r_iload (pc2 := 73) rfl rfl rfl (
      r_isub (pc2 := 74) rfl rfl (
      jr_g fun h24 => r_lald (len := 160) (pc2 := 75) rfl rfl (sh_bT hs hi10 rfl rfl) (sh_bL hs hi10 rfl rfl) rfl h24 (
      r_lstoreL (L3 := fun v25 => [some (.ref (bA i6)), some (gv c8), some (.ref (bA i9)), some (gv c11), some (gv c12), some (gv c13), some (gv v14), some (gv c15), some (gv v16), some (.long v25), none, j18, none]) (pc2 := 77) rfl rfl (fun _ => rfl) fun v25 => (
      r_iload (pc2 := 79) rfl rfl rfl (
      r_b1 (R1 := (fun (q : Int64) (c : Option jm_R) => c = jm_sup cd_16 (jm_cl jm_CD km_n (d + 1)) (96, [some (.ref (bA i6)), some (gv c8), some (.ref (bA i9)), some (gv c11), some (gv c12), some (gv c13), some (gv v14), some (gv c15), some (gv v16), some (.long v25), none, j18, none], [.long q], gm_h s g))) (
      jr_g fun h27 => r_iflt (pc2 := 82) (t := 90) rfl h27 rfl (fun _ =>
      r_lload (pc2 := 92) rfl rfl rfl (
      r_iload (pc2 := 94) rfl rfl rfl (
      r_ineg (pc2 := 95) rfl rfl (
      r_lushr (pc2 := 96) rfl rfl (
      jr_leaf rfl))))) (fun _ =>
      r_lload (pc2 := 84) rfl rfl rfl (
      r_iload (pc2 := 86) rfl rfl rfl (
      r_lshl (pc2 := 87) rfl rfl (
      r_goto (t := 96) rfl (
      jr_leaf rfl)))))) (fun v26 c h => match c, h with | _, rfl => (
      r_lstore (L2 := [some (.ref (bA i6)), some (gv c8), some (.ref (bA i9)), some (gv c11), some (gv c12), some (gv c13), some (gv v14), some (gv c15), some (gv v16), some (.long v25), none, some (.long v26), none]) (pc2 := 98) rfl rfl rfl (
      r_iload (pc2 := 100) rfl rfl rfl (
      r_aload (pc2 := 101) rfl rfl rfl (
      r_getA (pc2 := 104) rfl rfl (sh_b0 hs hi7) (sh_bA hs hi7 rfl rfl) (
      r_iload (pc2 := 105) rfl rfl rfl (
      r_ic (x := 40) (pc2 := 107) rfl ic_40 rfl (
      r_imul (pc2 := 108) rfl rfl (
      r_iload (pc2 := 110) rfl rfl rfl (
      r_iadd (pc2 := 111) rfl rfl (
      jr_g fun h28 => r_lald (len := 160) (pc2 := 112) rfl rfl (sh_bT hs hi7 rfl rfl) (sh_bL hs hi7 rfl rfl) rfl h28 (
      r_lload (pc2 := 114) rfl rfl rfl (
      r_land (pc2 := 115) rfl rfl (
      r_callSP (pc2 := 118) (args := [.long ((gm_J g (bA i6 + 1) (((c8 * 40) + v16)).toNat) &&& v26)]) (st2 := [gv v14]) rfl rfl rfl rfl rfl rfl (rf_je_bitCount hs d g ((gm_J g (bA i6 + 1) (((c8 * 40) + v16)).toNat) &&& v26) ) fun v29 => (
      r_iadd (pc2 := 119) rfl rfl (
      r_istoreL (L3 := fun v30 => [some (.ref (bA i6)), some (gv c8), some (.ref (bA i9)), some (gv c11), some (gv c12), some (gv c13), some (gv v30), some (gv c15), some (gv v16), some (.long v25), none, some (.long v26), none]) (pc2 := 121) rfl rfl (fun _ => rfl) fun v30 => (
      r_iinc (kk := 1) (L2 := [some (.ref (bA i6)), some (gv c8), some (.ref (bA i9)), some (gv c11), some (gv c12), some (gv c13), some (gv v30), some (gv c15), some (gv (v16 + 1)), some (.long v25), none, some (.long v26), none]) (pc2 := 124) rfl ic_1 rfl rfl rfl (
      r_goto (t := 53) rfl (
      ih v30 (v16 + 1) _ _)))))))))))))))))))))))))))))))) (fun _ =>
      jr_leaf ⟨_, _, _, rfl, rfl⟩))))
theorem rf_cb_common {s : gm_S} {n m : Nat} (hs : gm_sh s n m) (d : Nat)  (g : gm_T) (i0 : Nat) (a1 : Int) (i2 : Nat) (a3 : Int) (a4 : Int) (a5 : Int) (hi0 : i0 < m) (hi2 : i2 < m) : jr (pI s g) (cb_common g i0 a1 i2 a3 a4 a5) (jm_cl jm_CD km_n (d + 2) 16 [.ref (bA i0), gv a1, .ref (bA i2), gv a3, gv a4, gv a5] (gm_h s g)) := by
  unfold cb_common
  exact (r_ent (cd := cd_16) (n := 13) (L0 := [some (.ref (bA i0)), some (gv a1), some (.ref (bA i2)), some (gv a3), some (gv a4), some (gv a5), none, none, none, none, none, none, none]) rfl rfl rfl rfl (
      r_iload (pc2 := 2) rfl rfl rfl (
      r_ic (x := -40) (pc2 := 4) rfl ic_m40 rfl (
      jr_g fun h1 => r_cle (pc2 := 7) (t := 28) rfl h1 (rgk rfl) rfl (fun _ =>
      r_ic (x := 0) (pc2 := 29) rfl ic_0 rfl (
      r_iret rfl rfl)) (fun _ =>
      r_iload (pc2 := 9) rfl rfl rfl (
      r_ic (x := 40) (pc2 := 11) rfl ic_40 rfl (
      r_cge (pc2 := 14) (t := 28) rfl h1 (rgk rfl) rfl (fun _ =>
      r_iload (pc2 := 16) rfl rfl rfl (
      r_ic (x := -40) (pc2 := 18) rfl ic_m40 rfl (
      jr_g fun h2 => r_cle (pc2 := 21) (t := 28) rfl h2 (rgk rfl) rfl (fun _ =>
      r_ic (x := 0) (pc2 := 29) rfl ic_0 rfl (
      r_iret rfl rfl)) (fun _ =>
      r_iload (pc2 := 23) rfl rfl rfl (
      r_ic (x := 40) (pc2 := 25) rfl ic_40 rfl (
      r_clt (pc2 := 28) (t := 30) rfl h2 (rgk rfl) rfl (fun _ =>
      r_ic (x := 0) (pc2 := 31) rfl ic_0 rfl (
      r_istore (L2 := [some (.ref (bA i0)), some (gv a1), some (.ref (bA i2)), some (gv a3), some (gv a4), some (gv a5), some (gv 0), none, none, none, none, none, none]) (pc2 := 33) rfl rfl rfl (
      r_ic (x := 40) (pc2 := 35) rfl ic_40 rfl (
      r_ic (x := 40) (pc2 := 37) rfl ic_40 rfl (
      r_iload (pc2 := 39) rfl rfl rfl (
      r_iadd (pc2 := 40) rfl rfl (
      jr_g fun h3 => r_mmin (pc2 := 43) rfl rfl rfl (rgk rfl) h3 (
      r_istoreL (L3 := fun v4 => [some (.ref (bA i0)), some (gv a1), some (.ref (bA i2)), some (gv a3), some (gv a4), some (gv a5), some (gv 0), some (gv v4), none, none, none, none, none]) (pc2 := 45) rfl rfl (fun _ => rfl) fun v4 => (
      r_ic (x := 0) (pc2 := 46) rfl ic_0 rfl (
      r_iload (pc2 := 48) rfl rfl rfl (
      r_mmax (pc2 := 51) rfl rfl rfl (rgk rfl) h2 (
      r_istoreL (L3 := fun v5 => [some (.ref (bA i0)), some (gv a1), some (.ref (bA i2)), some (gv a3), some (gv a4), some (gv a5), some (gv 0), some (gv v4), some (gv v5), none, none, none, none]) (pc2 := 53) rfl rfl (fun _ => rfl) fun v5 => (
      r_b1 (rl_cb_common_l53 hs d  g i0 a1 i2 a3 a4 a5 v4 hi0 hi2 fz 0 v5 _ _ ) (fun v32 c h => match c, h with | _, ⟨j33, j34, j35, hj33, rfl⟩ => (
      r_iload (pc2 := 129) rfl rfl rfl (
      r_iret rfl rfl)))))))))))))))) (fun _ =>
      r_ic (x := 0) (pc2 := 29) rfl ic_0 rfl (
      r_iret rfl rfl)))))))) (fun _ =>
      r_ic (x := 0) (pc2 := 29) rfl ic_0 rfl (
      r_iret rfl rfl)))))))))
theorem rf_cc_of {s : gm_S} {n m : Nat} (hs : gm_sh s n m) (d : Nat)  (g : gm_T) (a0 : Int) (a1 : Int) (a2 : Int)  : jr (pJ s g) (cc_of g a0 a1 a2) (jm_cl jm_CD km_n (d + 1) 305 [gv a0, gv a1, gv a2] (gm_h s g)) := by
  unfold cc_of
  exact (r_ent (cd := cd_305) (n := 3) (L0 := [some (gv a0), some (gv a1), some (gv a2)]) rfl rfl rfl rfl (
      r_iload (pc2 := 1) rfl rfl rfl (
      r_ic (x := 3) (pc2 := 2) rfl ic_3 rfl (
      r_iand (pc2 := 3) rfl rfl (
      r_i2l (pc2 := 4) rfl rfl (
      r_ic (x := 40) (pc2 := 6) rfl ic_40 rfl (
      r_lshl (pc2 := 7) rfl rfl (
      r_iload (pc2 := 8) rfl rfl rfl (
      r_ic (x := 524288) (pc2 := 10) rfl ic_524288 rfl (
      r_iadd (pc2 := 11) rfl rfl (
      r_i2l (pc2 := 12) rfl rfl (
      r_lc (pc2 := 15) rfl rfl (
      r_land (pc2 := 16) rfl rfl (
      r_ic (x := 20) (pc2 := 18) rfl ic_20 rfl (
      r_lshl (pc2 := 19) rfl rfl (
      r_lor (pc2 := 20) rfl rfl (
      r_iload (pc2 := 21) rfl rfl rfl (
      r_ic (x := 524288) (pc2 := 23) rfl ic_524288 rfl (
      r_iadd (pc2 := 24) rfl rfl (
      r_i2l (pc2 := 25) rfl rfl (
      r_lc (pc2 := 28) rfl rfl (
      r_land (pc2 := 29) rfl rfl (
      r_lor (pc2 := 30) rfl rfl (
      r_lret rfl rfl))))))))))))))))))))))))
theorem rf_cf_fitting {s : gm_S} {n m : Nat} (hs : gm_sh s n m) (d : Nat)  (g : gm_T) (a1 : Int) (a2 : Int) (a3 : Int) (a4 : Int)  : jr (pJ s g) (cf_fitting n g a1 a2 a3 a4) (jm_cl jm_CD km_n (d + 3) 32 [.ref 10, gv a1, gv a2, gv a3, gv a4] (gm_h s g)) := by
  unfold cf_fitting
  exact (r_ent (cd := cd_32) (n := 11) (L0 := [some (.ref 10), some (gv a1), some (gv a2), some (gv a3), some (gv a4), none, none, none, none, none, none]) rfl rfl rfl rfl (
      r_aload (pc2 := 1) rfl rfl rfl (
      r_getA (pc2 := 4) rfl rfl (sh_T hs rfl rfl) (sh_A hs rfl rfl) (
      r_iload (pc2 := 5) rfl rfl rfl (
      jr_g fun h1 => r_aald (pc2 := 6) rfl rfl hs h1 (
      r_astore (L2 := [some (.ref 10), some (gv a1), some (gv a2), some (gv a3), some (gv a4), some (.ref (bA a1.toNat)), none, none, none, none, none]) (pc2 := 8) rfl rfl rfl (
      r_aload (pc2 := 9) rfl rfl rfl (
      r_getA (pc2 := 12) rfl rfl (sh_T hs rfl rfl) (sh_A hs rfl rfl) (
      r_iload (pc2 := 13) rfl rfl rfl (
      jr_g fun h2 => r_aald (pc2 := 14) rfl rfl hs h2 (
      r_astore (L2 := [some (.ref 10), some (gv a1), some (gv a2), some (gv a3), some (gv a4), some (.ref (bA a1.toNat)), some (.ref (bA a3.toNat)), none, none, none, none]) (pc2 := 16) rfl rfl rfl (
      r_iload (pc2 := 17) rfl rfl rfl (
      r_iload (pc2 := 18) rfl rfl rfl (
      r_b1 (R1 := (fun (q : Int) (c : Option jm_R) => c = jm_sup cd_32 (jm_cl jm_CD km_n (d + 2)) (48, [some (.ref 10), some (gv a1), some (gv a2), some (gv a3), some (gv a4), some (.ref (bA a1.toNat)), some (.ref (bA a3.toNat)), none, none, none, none], [gv q], gm_h s g))) (
      jr_g fun h4 => r_ceq (pc2 := 21) (t := 34) rfl h4.1 h4.2 rfl (fun _ =>
      r_ic (x := -1) (pc2 := 35) rfl ic_m1 rfl (
      r_goto (t := 48) rfl (
      jr_leaf rfl))) (fun _ =>
      r_aload (pc2 := 23) rfl rfl rfl (
      r_getI (pc2 := 26) rfl rfl (sh_b0 hs (bn_lt hs h1)) (
      r_aload (pc2 := 28) rfl rfl rfl (
      r_getI (pc2 := 31) rfl rfl (sh_b0 hs (bn_lt hs h2)) (
      jr_g fun h5 => r_ceq (pc2 := 34) (t := 38) rfl h5.1 h5.2 rfl (fun _ =>
      r_aload (pc2 := 40) rfl rfl rfl (
      r_iload (pc2 := 41) rfl rfl rfl (
      r_aload (pc2 := 43) rfl rfl rfl (
      r_iload (pc2 := 45) rfl rfl rfl (
      r_callVP (pc2 := 48) (args := [.ref (bA a1.toNat), gv a2, .ref (bA a3.toNat), gv a4]) (st2 := []) rfl rfl rfl rfl rfl rfl (rc_of (sh_b0 hs (bn_lt hs h1))) (rf_cb_turnFor hs d g a1.toNat a2 a3.toNat a4 (bn_lt hs h1) (bn_lt hs h2)) fun v6 => (
      jr_leaf rfl)))))) (fun _ =>
      r_ic (x := -1) (pc2 := 35) rfl ic_m1 rfl (
      r_goto (t := 48) rfl (
      jr_leaf rfl))))))))) (fun v3 c h => match c, h with | _, rfl => (
      r_istore (L2 := [some (.ref 10), some (gv a1), some (gv a2), some (gv a3), some (gv a4), some (.ref (bA a1.toNat)), some (.ref (bA a3.toNat)), some (gv v3), none, none, none]) (pc2 := 50) rfl rfl rfl (
      r_iload (pc2 := 52) rfl rfl rfl (
      jr_g fun h7 => r_ifge (pc2 := 55) (t := 59) rfl h7 rfl (fun _ =>
      r_lc (pc2 := 58) rfl rfl (
      r_lret rfl rfl)) (fun _ =>
      r_aload (pc2 := 61) rfl rfl rfl (
      r_iload (pc2 := 62) rfl rfl rfl (
      r_callVP (pc2 := 65) (args := [.ref (bA a1.toNat), gv a2]) (st2 := []) rfl rfl rfl rfl rfl rfl (rc_of (sh_b0 hs (bn_lt hs h1))) (rf_cb_next hs (d + 1) g a1.toNat a2 (bn_lt hs h1)) fun v8 => (
      r_istore (L2 := [some (.ref 10), some (gv a1), some (gv a2), some (gv a3), some (gv a4), some (.ref (bA a1.toNat)), some (.ref (bA a3.toNat)), some (gv v3), some (gv v8), none, none]) (pc2 := 67) rfl rfl rfl (
      r_aload (pc2 := 69) rfl rfl rfl (
      r_getA (pc2 := 72) rfl rfl (sh_b0 hs (bn_lt hs h1)) (sh_bA hs (bn_lt hs h1) rfl rfl) (
      r_iload (pc2 := 74) rfl rfl rfl (
      jr_g fun h9 => r_iald (len := 8) (pc2 := 75) rfl rfl (sh_bT hs (bn_lt hs h1) rfl rfl) (sh_bL hs (bn_lt hs h1) rfl rfl) rfl h9 (
      r_iload (pc2 := 77) rfl rfl rfl (
      r_aload (pc2 := 79) rfl rfl rfl (
      r_getA (pc2 := 82) rfl rfl (sh_b0 hs (bn_lt hs h2)) (sh_bA hs (bn_lt hs h2) rfl rfl) (
      r_iload (pc2 := 84) rfl rfl rfl (
      jr_g fun h10 => r_iald (len := 8) (pc2 := 85) rfl rfl (sh_bT hs (bn_lt hs h2) rfl rfl) (sh_bL hs (bn_lt hs h2) rfl rfl) rfl h10 (
      r_aload (pc2 := 87) rfl rfl rfl (
      r_getA (pc2 := 90) rfl rfl (sh_b0 hs (bn_lt hs h2)) (sh_bA hs (bn_lt hs h2) rfl rfl) (
      r_iload (pc2 := 92) rfl rfl rfl (
      r_iald (len := 8) (pc2 := 93) rfl rfl (sh_bT hs (bn_lt hs h2) rfl rfl) (sh_bL hs (bn_lt hs h2) rfl rfl) rfl h10 (
      r_callSP (pc2 := 96) (args := [gv v3, gv (gm_I g (bA a3.toNat + 2) a4.toNat), gv (gm_I g (bA a3.toNat + 3) a4.toNat)]) (st2 := [gv (gm_I g (bA a1.toNat + 2) v8.toNat)]) rfl rfl rfl rfl rfl rfl (rf_cc_turnedX hs (d + 1) g v3 (gm_I g (bA a3.toNat + 2) a4.toNat) (gm_I g (bA a3.toNat + 3) a4.toNat) ) fun v11 => (
      r_isub (pc2 := 97) rfl rfl (
      r_istoreL (L3 := fun v12 => [some (.ref 10), some (gv a1), some (gv a2), some (gv a3), some (gv a4), some (.ref (bA a1.toNat)), some (.ref (bA a3.toNat)), some (gv v3), some (gv v8), some (gv v12), none]) (pc2 := 99) rfl rfl (fun _ => rfl) fun v12 => (
      r_aload (pc2 := 101) rfl rfl rfl (
      r_getA (pc2 := 104) rfl rfl (sh_b0 hs (bn_lt hs h1)) (sh_bA hs (bn_lt hs h1) rfl rfl) (
      r_iload (pc2 := 106) rfl rfl rfl (
      r_iald (len := 8) (pc2 := 107) rfl rfl (sh_bT hs (bn_lt hs h1) rfl rfl) (sh_bL hs (bn_lt hs h1) rfl rfl) rfl h9 (
      r_iload (pc2 := 109) rfl rfl rfl (
      r_aload (pc2 := 111) rfl rfl rfl (
      r_getA (pc2 := 114) rfl rfl (sh_b0 hs (bn_lt hs h2)) (sh_bA hs (bn_lt hs h2) rfl rfl) (
      r_iload (pc2 := 116) rfl rfl rfl (
      r_iald (len := 8) (pc2 := 117) rfl rfl (sh_bT hs (bn_lt hs h2) rfl rfl) (sh_bL hs (bn_lt hs h2) rfl rfl) rfl h10 (
      r_aload (pc2 := 119) rfl rfl rfl (
      r_getA (pc2 := 122) rfl rfl (sh_b0 hs (bn_lt hs h2)) (sh_bA hs (bn_lt hs h2) rfl rfl) (
      r_iload (pc2 := 124) rfl rfl rfl (
      r_iald (len := 8) (pc2 := 125) rfl rfl (sh_bT hs (bn_lt hs h2) rfl rfl) (sh_bL hs (bn_lt hs h2) rfl rfl) rfl h10 (
      r_callSP (pc2 := 128) (args := [gv v3, gv (gm_I g (bA a3.toNat + 2) a4.toNat), gv (gm_I g (bA a3.toNat + 3) a4.toNat)]) (st2 := [gv (gm_I g (bA a1.toNat + 3) v8.toNat)]) rfl rfl rfl rfl rfl rfl (rf_cc_turnedY hs (d + 1) g v3 (gm_I g (bA a3.toNat + 2) a4.toNat) (gm_I g (bA a3.toNat + 3) a4.toNat) ) fun v13 => (
      r_isub (pc2 := 129) rfl rfl (
      r_istoreL (L3 := fun v14 => [some (.ref 10), some (gv a1), some (gv a2), some (gv a3), some (gv a4), some (.ref (bA a1.toNat)), some (.ref (bA a3.toNat)), some (gv v3), some (gv v8), some (gv v12), some (gv v14)]) (pc2 := 131) rfl rfl (fun _ => rfl) fun v14 => (
      r_aload (pc2 := 133) rfl rfl rfl (
      r_ic (x := 0) (pc2 := 134) rfl ic_0 rfl (
      r_aload (pc2 := 136) rfl rfl rfl (
      r_iload (pc2 := 138) rfl rfl rfl (
      r_iload (pc2 := 140) rfl rfl rfl (
      r_iload (pc2 := 142) rfl rfl rfl (
      r_callVP (pc2 := 145) (args := [.ref (bA a1.toNat), gv 0, .ref (bA a3.toNat), gv v3, gv v12, gv v14]) (st2 := []) rfl rfl rfl rfl rfl rfl (rc_of (sh_b0 hs (bn_lt hs h1))) (rf_cb_common hs d g a1.toNat 0 a3.toNat v3 v12 v14 (bn_lt hs h1) (bn_lt hs h2)) fun v15 => (
      r_aload (pc2 := 146) rfl rfl rfl (
      r_getI (pc2 := 149) rfl rfl (sh_T hs rfl rfl) (
      jr_g fun h16 => r_cgt (pc2 := 152) (t := 164) rfl h16.1 h16.2 rfl (fun _ =>
      r_iload (pc2 := 154) rfl rfl rfl (
      r_iload (pc2 := 156) rfl rfl rfl (
      r_iload (pc2 := 158) rfl rfl rfl (
      r_callSL (pc2 := 161) (args := [gv v3, gv v12, gv v14]) (st2 := []) rfl rfl rfl rfl rfl rfl (rf_cc_of hs (d + 1) g v3 v12 v14 ) fun v17 => (
      r_goto (t := 167) rfl (
      r_lret rfl rfl)))))) (fun _ =>
      r_lc (pc2 := 167) rfl rfl (
      r_lret rfl rfl))))))))))))))))))))))))))))))))))))))))))))))))))))))))))))))))))
theorem rf_cc_turn {s : gm_S} {n m : Nat} (hs : gm_sh s n m) (d : Nat)  (g : gm_T) (a0 : Int64)  : jr (pI s g) (cc_turn g a0) (jm_cl jm_CD km_n (d + 1) 306 [.long a0] (gm_h s g)) := by
  unfold cc_turn
  exact (r_ent (cd := cd_306) (n := 2) (L0 := [some (.long a0), none]) rfl rfl rfl rfl (
      r_lload (pc2 := 1) rfl rfl rfl (
      r_ic (x := 40) (pc2 := 3) rfl ic_40 rfl (
      r_lshr (pc2 := 4) rfl rfl (
      r_l2i (pc2 := 5) rfl rfl (
      r_ic (x := 3) (pc2 := 6) rfl ic_3 rfl (
      r_iand (pc2 := 7) rfl rfl (
      r_iret rfl rfl))))))))
theorem rf_cf_scoreOf {s : gm_S} {n m : Nat} (hs : gm_sh s n m) (d : Nat)  (g : gm_T) (a1 : Int) (a2 : Int) (a3 : Int) (a4 : Int) (a5 : Int)  : jr (pI s g) (cf_scoreOf n g a1 a2 a3 a4 a5) (jm_cl jm_CD km_n (d + 1) 33 [.ref 10, gv a1, gv a2, gv a3, gv a4, gv a5] (gm_h s g)) := by
  unfold cf_scoreOf
  exact (r_ent (cd := cd_33) (n := 9) (L0 := [some (.ref 10), some (gv a1), some (gv a2), some (gv a3), some (gv a4), some (gv a5), none, none, none]) rfl rfl rfl rfl (
      r_aload (pc2 := 1) rfl rfl rfl (
      r_getA (pc2 := 4) rfl rfl (sh_T hs rfl rfl) (sh_A hs rfl rfl) (
      r_iload (pc2 := 5) rfl rfl rfl (
      jr_g fun h1 => r_aald (pc2 := 6) rfl rfl hs h1 (
      r_astore (L2 := [some (.ref 10), some (gv a1), some (gv a2), some (gv a3), some (gv a4), some (gv a5), some (.ref (bA a1.toNat)), none, none]) (pc2 := 8) rfl rfl rfl (
      r_aload (pc2 := 9) rfl rfl rfl (
      r_getA (pc2 := 12) rfl rfl (sh_T hs rfl rfl) (sh_A hs rfl rfl) (
      r_iload (pc2 := 13) rfl rfl rfl (
      jr_g fun h2 => r_aald (pc2 := 14) rfl rfl hs h2 (
      r_astore (L2 := [some (.ref 10), some (gv a1), some (gv a2), some (gv a3), some (gv a4), some (gv a5), some (.ref (bA a1.toNat)), some (.ref (bA a3.toNat)), none]) (pc2 := 16) rfl rfl rfl (
      r_ic (x := 2) (pc2 := 17) rfl ic_2 rfl (
      r_aload (pc2 := 18) rfl rfl rfl (
      r_getA (pc2 := 21) rfl rfl (sh_T hs rfl rfl) (sh_A hs rfl rfl) (
      r_ic (x := 10) (pc2 := 23) rfl ic_10 rfl (
      r_aload (pc2 := 25) rfl rfl rfl (
      r_getA (pc2 := 28) rfl rfl (sh_b0 hs (bn_lt hs h1)) (sh_bA hs (bn_lt hs h1) rfl rfl) (
      r_iload (pc2 := 29) rfl rfl rfl (
      jr_g fun h3 => r_iald (len := 8) (pc2 := 30) rfl rfl (sh_bT hs (bn_lt hs h1) rfl rfl) (sh_bL hs (bn_lt hs h1) rfl rfl) rfl h3 (
      r_imul (pc2 := 31) rfl rfl (
      r_aload (pc2 := 33) rfl rfl rfl (
      r_getA (pc2 := 36) rfl rfl (sh_b0 hs (bn_lt hs h2)) (sh_bA hs (bn_lt hs h2) rfl rfl) (
      r_iload (pc2 := 38) rfl rfl rfl (
      jr_g fun h4 => r_iald (len := 8) (pc2 := 39) rfl rfl (sh_bT hs (bn_lt hs h2) rfl rfl) (sh_bL hs (bn_lt hs h2) rfl rfl) rfl h4 (
      r_iadd (pc2 := 40) rfl rfl (
      jr_g fun h5 => r_iald (len := 100) (pc2 := 41) rfl rfl (sh_T hs rfl rfl) (sh_L hs rfl rfl) rfl h5 (
      r_imul (pc2 := 42) rfl rfl (
      r_istoreL (L3 := fun v6 => [some (.ref 10), some (gv a1), some (gv a2), some (gv a3), some (gv a4), some (gv a5), some (.ref (bA a1.toNat)), some (.ref (bA a3.toNat)), some (gv v6)]) (pc2 := 44) rfl rfl (fun _ => rfl) fun v6 => (
      r_iload (pc2 := 46) rfl rfl rfl (
      r_ic (x := 0) (pc2 := 47) rfl ic_0 rfl (
      r_ic (x := 9) (pc2 := 49) rfl ic_9 rfl (
      r_aload (pc2 := 51) rfl rfl rfl (
      r_getI (pc2 := 54) rfl rfl (sh_b0 hs (bn_lt hs h1)) (
      r_aload (pc2 := 56) rfl rfl rfl (
      r_getI (pc2 := 59) rfl rfl (sh_b0 hs (bn_lt hs h2)) (
      r_isub (pc2 := 60) rfl rfl (
      jr_g fun h7 => r_mabs (pc2 := 63) rfl rfl rfl h7 (
      r_isub (pc2 := 64) rfl rfl (
      jr_g fun h8 => r_mmax (pc2 := 67) rfl rfl rfl (rgk rfl) h8 (
      r_iadd (pc2 := 68) rfl rfl (
      r_istoreL (L3 := fun v9 => [some (.ref 10), some (gv a1), some (gv a2), some (gv a3), some (gv a4), some (gv a5), some (.ref (bA a1.toNat)), some (.ref (bA a3.toNat)), some (gv v9)]) (pc2 := 70) rfl rfl (fun _ => rfl) fun v9 => (
      r_aload (pc2 := 72) rfl rfl rfl (
      r_getI (pc2 := 75) rfl rfl (sh_b0 hs (bn_lt hs h1)) (
      jr_g fun h10 => r_iflt (pc2 := 78) (t := 109) rfl h10 rfl (fun _ =>
      r_iload (pc2 := 111) rfl rfl rfl (
      r_iret rfl rfl)) (fun _ =>
      r_aload (pc2 := 80) rfl rfl rfl (
      r_getI (pc2 := 83) rfl rfl (sh_b0 hs (bn_lt hs h2)) (
      jr_g fun h11 => r_iflt (pc2 := 86) (t := 109) rfl h11 rfl (fun _ =>
      r_iload (pc2 := 111) rfl rfl rfl (
      r_iret rfl rfl)) (fun _ =>
      r_aload (pc2 := 88) rfl rfl rfl (
      r_getI (pc2 := 91) rfl rfl (sh_b0 hs (bn_lt hs h1)) (
      r_aload (pc2 := 93) rfl rfl rfl (
      r_getI (pc2 := 96) rfl rfl (sh_b0 hs (bn_lt hs h2)) (
      r_ic (x := 2) (pc2 := 97) rfl ic_2 rfl (
      r_iload (pc2 := 99) rfl rfl rfl (
      r_imul (pc2 := 100) rfl rfl (
      r_iadd (pc2 := 101) rfl rfl (
      r_ic (x := 3) (pc2 := 102) rfl ic_3 rfl (
      r_iand (pc2 := 103) rfl rfl (
      r_cne (pc2 := 106) (t := 109) rfl h10 (rg_toInt _) rfl (fun _ =>
      r_iinc (kk := 5) (L2 := [some (.ref 10), some (gv a1), some (gv a2), some (gv a3), some (gv a4), some (gv a5), some (.ref (bA a1.toNat)), some (.ref (bA a3.toNat)), some (gv (v9 + 5))]) (pc2 := 109) rfl ic_5 rfl rfl rfl (
      r_iload (pc2 := 111) rfl rfl rfl (
      r_iret rfl rfl))) (fun _ =>
      r_iload (pc2 := 111) rfl rfl rfl (
      r_iret rfl rfl))))))))))))))))))))))))))))))))))))))))))))))))))))))))))))
theorem rl_ca_indexOf_l10 {s : gm_S} {n m : Nat} (hs : gm_sh s n m) (d : Nat)  (g : gm_T) (c2 : Int) (c3 : Int64) (c4 : Int)  : ∀ (fuel : Nat) (v5 : Int), jr (pI s g) (ca_indexOf_l10 g c2 c3 c4 fuel v5) (jm_sup cd_6 (jm_cl jm_CD km_n d) (10, [some (.ref 27), some (gv c2), some (.long c3), none, some (gv c4), some (gv v5)], [], gm_h s g)) := by
  intro fuel
  induction fuel with
  | zero => intros; exact jr_none
  | succ fuel ih =>
    intro v5  
    unfold ca_indexOf_l10
    exact (
      r_iload (pc2 := 12) rfl rfl rfl (
      r_iload (pc2 := 14) rfl rfl rfl (
      r_aload (pc2 := 15) rfl rfl rfl (
      r_getA (pc2 := 18) rfl rfl (sh_T hs rfl rfl) (sh_A hs rfl rfl) (
      r_iload (pc2 := 19) rfl rfl rfl (
      jr_g fun h6 => r_iald (len := 3) (pc2 := 20) rfl rfl (sh_T hs rfl rfl) (sh_L hs rfl rfl) rfl h6 (
      r_iadd (pc2 := 21) rfl rfl (
      jr_g fun h7 => r_cge (pc2 := 24) (t := 45) rfl h7.1 h7.2 rfl (fun _ =>
      r_aload (pc2 := 25) rfl rfl rfl (
      r_getA (pc2 := 28) rfl rfl (sh_T hs rfl rfl) (sh_A hs rfl rfl) (
      r_iload (pc2 := 30) rfl rfl rfl (
      jr_g fun h8 => r_lald (len := 192) (pc2 := 31) rfl rfl (sh_T hs rfl rfl) (sh_L hs rfl rfl) rfl h8 (
      r_lload (pc2 := 32) rfl rfl rfl (
      r_lcmp (pc2 := 33) rfl rfl (
      r_ifne (pc2 := 36) (t := 39) rfl (rg_toInt _) rfl (fun _ =>
      r_iload (pc2 := 38) rfl rfl rfl (
      r_iret rfl rfl)) (fun _ =>
      r_iinc (kk := 1) (L2 := [some (.ref 27), some (gv c2), some (.long c3), none, some (gv c4), some (gv (v5 + 1))]) (pc2 := 42) rfl ic_1 rfl rfl rfl (
      r_goto (t := 10) rfl (
      ih (v5 + 1))))))))))) (fun _ =>
      r_ic (x := -1) (pc2 := 46) rfl ic_m1 rfl (
      r_iret rfl rfl))))))))))
theorem rf_ca_indexOf {s : gm_S} {n m : Nat} (hs : gm_sh s n m) (d : Nat)  (g : gm_T) (a1 : Int) (a2 : Int64)  : jr (pI s g) (ca_indexOf g a1 a2) (jm_cl jm_CD km_n (d + 1) 6 [.ref 27, gv a1, .long a2] (gm_h s g)) := by
  unfold ca_indexOf
  exact (r_ent (cd := cd_6) (n := 6) (L0 := [some (.ref 27), some (gv a1), some (.long a2), none, none, none]) rfl rfl rfl rfl (
      r_iload (pc2 := 1) rfl rfl rfl (
      r_ic (x := 64) (pc2 := 3) rfl ic_64 rfl (
      r_imul (pc2 := 4) rfl rfl (
      r_istoreL (L3 := fun v1 => [some (.ref 27), some (gv a1), some (.long a2), none, some (gv v1), none]) (pc2 := 6) rfl rfl (fun _ => rfl) fun v1 => (
      r_iload (pc2 := 8) rfl rfl rfl (
      r_istore (L2 := [some (.ref 27), some (gv a1), some (.long a2), none, some (gv v1), some (gv v1)]) (pc2 := 10) rfl rfl rfl (
      rl_ca_indexOf_l10 hs d  g a1 a2 v1  fz v1  ))))))))
theorem rf_ca_enlist {s : gm_S} {n m : Nat} (hs : gm_sh s n m) (d : Nat)  (g : gm_T) (a1 : Int) (a2 : Int64) (a4 : Int)  : jr (eV s) (ca_enlist g a1 a2 a4) (jm_cl jm_CD km_n (d + 2) 5 [.ref 27, gv a1, .long a2, gv a4] (gm_h s g)) := by
  unfold ca_enlist
  exact (r_ent (cd := cd_5) (n := 6) (L0 := [some (.ref 27), some (gv a1), some (.long a2), none, some (gv a4), none]) rfl rfl rfl rfl (
      r_aload (pc2 := 1) rfl rfl rfl (
      r_iload (pc2 := 2) rfl rfl rfl (
      r_lload (pc2 := 3) rfl rfl rfl (
      r_callVP (pc2 := 6) (args := [.ref 27, gv a1, .long a2]) (st2 := []) rfl rfl rfl rfl rfl rfl (rc_of (sh_T hs rfl rfl)) (rf_ca_indexOf hs d g a1 a2 ) fun v1 => (
      r_istore (L2 := [some (.ref 27), some (gv a1), some (.long a2), none, some (gv a4), some (gv v1)]) (pc2 := 8) rfl rfl rfl (
      r_iload (pc2 := 10) rfl rfl rfl (
      r_b2 (R1 := (fun (q : Int × gm_T) (c : Option jm_R) => c = jm_sup cd_5 (jm_cl jm_CD km_n (d + 1)) (52, [some (.ref 27), some (gv a1), some (.long a2), none, some (gv a4), some (gv q.1)], [], gm_h s q.2))) (
      jr_g fun h4 => r_ifge (pc2 := 13) (t := 52) rfl h4 rfl (fun _ =>
      r_iload (pc2 := 14) rfl rfl rfl (
      r_ic (x := 64) (pc2 := 16) rfl ic_64 rfl (
      r_imul (pc2 := 17) rfl rfl (
      r_aload (pc2 := 18) rfl rfl rfl (
      r_getA (pc2 := 21) rfl rfl (sh_T hs rfl rfl) (sh_A hs rfl rfl) (
      r_iload (pc2 := 22) rfl rfl rfl (
      jr_g fun h5 => r_iald (len := 3) (pc2 := 23) rfl rfl (sh_T hs rfl rfl) (sh_L hs rfl rfl) rfl h5 (
      r_iadd (pc2 := 24) rfl rfl (
      r_istoreL (L3 := fun v6 => [some (.ref 27), some (gv a1), some (.long a2), none, some (gv a4), some (gv v6)]) (pc2 := 26) rfl rfl (fun _ => rfl) fun v6 => (
      r_aload (pc2 := 27) rfl rfl rfl (
      r_getA (pc2 := 30) rfl rfl (sh_T hs rfl rfl) (sh_A hs rfl rfl) (
      r_iload (pc2 := 32) rfl rfl rfl (
      r_lload (pc2 := 33) rfl rfl rfl (
      jr_g fun h8 => r_last (len := 192) (pc2 := 34) rfl rfl (sh_T hs rfl rfl) (sh_L hs rfl rfl) rfl h8 fun g7 => (
      r_aload (pc2 := 35) rfl rfl rfl (
      r_getA (pc2 := 38) rfl rfl (sh_T hs rfl rfl) (sh_A hs rfl rfl) (
      r_iload (pc2 := 40) rfl rfl rfl (
      r_ic (x := 0) (pc2 := 41) rfl ic_0 rfl (
      r_iast (len := 192) (pc2 := 42) rfl rfl (sh_T hs rfl rfl) (sh_L hs rfl rfl) rfl h8 fun g9 => (
      r_aload (pc2 := 43) rfl rfl rfl (
      r_getA (pc2 := 46) rfl rfl (sh_T hs rfl rfl) (sh_A hs rfl rfl) (
      r_iload (pc2 := 47) rfl rfl rfl (
      r_dup2 (pc2 := 48) rfl rfl ⟨rfl, rfl⟩ (
      r_iald (len := 3) (pc2 := 49) rfl rfl (sh_T hs rfl rfl) (sh_L hs rfl rfl) rfl h5 (
      r_ic (x := 1) (pc2 := 50) rfl ic_1 rfl (
      r_iadd (pc2 := 51) rfl rfl (
      r_iast (len := 3) (pc2 := 52) rfl rfl (sh_T hs rfl rfl) (sh_L hs rfl rfl) rfl h5 fun g10 => (
      jr_leaf rfl)))))))))))))))))))))))))))) (fun _ =>
      jr_leaf rfl)) (fun v2 g3 c h => match c, h with | _, rfl => (
      r_aload (pc2 := 53) rfl rfl rfl (
      r_getA (pc2 := 56) rfl rfl (sh_T hs rfl rfl) (sh_A hs rfl rfl) (
      r_iload (pc2 := 58) rfl rfl rfl (
      r_dup2 (pc2 := 59) rfl rfl ⟨rfl, rfl⟩ (
      jr_g fun h11 => r_iald (len := 192) (pc2 := 60) rfl rfl (sh_T hs rfl rfl) (sh_L hs rfl rfl) rfl h11 (
      r_iload (pc2 := 62) rfl rfl rfl (
      r_iadd (pc2 := 63) rfl rfl (
      r_iast (len := 192) (pc2 := 64) rfl rfl (sh_T hs rfl rfl) (sh_L hs rfl rfl) rfl h11 fun g12 => (
      r_vret rfl rfl))))))))))))))))))
theorem rl_ca_list_l30 {s : gm_S} {n m : Nat} (hs : gm_sh s n m) (d : Nat)  (c16 : Int) (c17 : Int) (c18 : Int) (c19 : Int)  : ∀ (fuel : Nat) (v20 : Int) (g22 : gm_T) (j21 : Option Value), jr (fun (q : gm_T) (c : Option jm_R) => ∃ (j23 : Option Value) (j24 : Option Value), jm_lg j23 = false ∧ c = jm_sup cd_4 (jm_cl jm_CD km_n (d + 3)) (100, [some (.ref 27), some (gv c16), some (gv c17), some (gv c18), some (gv c19), j23, j24, none], [], gm_h s q)) (ca_list_l30 n  c16 c17 c18 c19 fuel v20 g22) (jm_sup cd_4 (jm_cl jm_CD km_n (d + 3)) (30, [some (.ref 27), some (gv c16), some (gv c17), some (gv c18), some (gv c19), some (gv v20), j21, none], [], gm_h s g22)) := by
  intro fuel
  induction fuel with
  | zero => intros; exact jr_none
  | succ fuel ih =>
    intro v20 g22 j21 
    unfold ca_list_l30
    exact (
      r_iload (pc2 := 32) rfl rfl rfl (
      r_aload (pc2 := 33) rfl rfl rfl (
      r_getA (pc2 := 36) rfl rfl (sh_T hs rfl rfl) (sh_A hs rfl rfl) (
      r_getA (pc2 := 39) rfl rfl (sh_T hs rfl rfl) (sh_A hs rfl rfl) (
      r_iload (pc2 := 40) rfl rfl rfl (
      jr_g fun h26 => r_aald (pc2 := 41) rfl rfl hs h26 (
      r_getI (pc2 := 44) rfl rfl (sh_b0 hs (bn_lt hs h26)) (
      jr_g fun h27 => r_cge (pc2 := 47) (t := 100) rfl h27.1 h27.2 rfl (fun _ =>
      r_aload (pc2 := 48) rfl rfl rfl (
      r_getA (pc2 := 51) rfl rfl (sh_T hs rfl rfl) (sh_A hs rfl rfl) (
      r_iload (pc2 := 52) rfl rfl rfl (
      r_iload (pc2 := 54) rfl rfl rfl (
      r_iload (pc2 := 55) rfl rfl rfl (
      r_iload (pc2 := 57) rfl rfl rfl (
      r_callVL (pc2 := 60) (args := [.ref 10, gv c17, gv c19, gv c18, gv v20]) (st2 := []) rfl rfl rfl rfl rfl rfl (rc_of (sh_T hs rfl rfl)) (rf_cf_fitting hs d g22 c17 c19 c18 v20 ) fun v28 => (
      r_lstore (L2 := [some (.ref 27), some (gv c16), some (gv c17), some (gv c18), some (gv c19), some (gv v20), some (.long v28), none]) (pc2 := 62) rfl rfl rfl (
      r_lload (pc2 := 64) rfl rfl rfl (
      r_lc (pc2 := 65) rfl rfl (
      r_lcmp (pc2 := 66) rfl rfl (
      r_iflt (pc2 := 69) (t := 94) rfl (rg_toInt _) rfl (fun _ =>
      r_iinc (kk := 1) (L2 := [some (.ref 27), some (gv c16), some (gv c17), some (gv c18), some (gv c19), some (gv (v20 + 1)), some (.long v28), none]) (pc2 := 97) rfl ic_1 rfl rfl rfl (
      r_goto (t := 30) rfl (
      ih (v20 + 1) g22 _))) (fun _ =>
      r_aload (pc2 := 70) rfl rfl rfl (
      r_iload (pc2 := 71) rfl rfl rfl (
      r_lload (pc2 := 73) rfl rfl rfl (
      r_aload (pc2 := 74) rfl rfl rfl (
      r_getA (pc2 := 77) rfl rfl (sh_T hs rfl rfl) (sh_A hs rfl rfl) (
      r_iload (pc2 := 78) rfl rfl rfl (
      r_iload (pc2 := 80) rfl rfl rfl (
      r_iload (pc2 := 81) rfl rfl rfl (
      r_iload (pc2 := 83) rfl rfl rfl (
      r_lload (pc2 := 85) rfl rfl rfl (
      r_callTP (pc2 := 88) (args := [.long v28]) (st2 := [gv v20, gv c18, gv c19, gv c17, .ref 10, .long v28, gv c16, .ref 27]) rfl rfl rfl rfl rfl rfl (rf_cc_turn hs (d + 2) g22 v28 ) fun v30 => (
      r_callVP (pc2 := 91) (args := [.ref 10, gv c17, gv c19, gv c18, gv v20, gv v30]) (st2 := [.long v28, gv c16, .ref 27]) rfl rfl rfl rfl rfl rfl (rc_of (sh_T hs rfl rfl)) (rf_cf_scoreOf hs (d + 2) g22 c17 c19 c18 v20 v30 ) fun v31 => (
      r_callVV (pc2 := 94) (args := [.ref 27, gv c16, .long v28, gv v31]) (st2 := []) rfl rfl rfl rfl rfl rfl (rc_of (sh_T hs rfl rfl)) (rf_ca_enlist hs (d + 1) g22 c16 v28 v31 ) fun g32 => (
      r_iinc (kk := 1) (L2 := [some (.ref 27), some (gv c16), some (gv c17), some (gv c18), some (gv c19), some (gv (v20 + 1)), some (.long v28), none]) (pc2 := 97) rfl ic_1 rfl rfl rfl (
      r_goto (t := 30) rfl (
      ih (v20 + 1) g32 _)))))))))))))))))))))))))))) (fun _ =>
      jr_leaf ⟨_, _, rfl, rfl⟩)))))))))
theorem rl_ca_list_l10 {s : gm_S} {n m : Nat} (hs : gm_sh s n m) (d : Nat)  (c3 : Int) (c4 : Int) (c5 : Int)  : ∀ (fuel : Nat) (v6 : Int) (g9 : gm_T) (j7 : Option Value) (j8 : Option Value) (hj7 : jm_lg j7 = false), jr (fun (q : gm_T) (c : Option jm_R) => ∃ (j10 : Option Value) (j11 : Option Value) (j12 : Option Value), jm_lg j10 = false ∧ jm_lg j11 = false ∧ c = jm_sup cd_4 (jm_cl jm_CD km_n (d + 3)) (106, [some (.ref 27), some (gv c3), some (gv c4), some (gv c5), j10, j11, j12, none], [], gm_h s q)) (ca_list_l10 n  c3 c4 c5 fuel v6 g9) (jm_sup cd_4 (jm_cl jm_CD km_n (d + 3)) (10, [some (.ref 27), some (gv c3), some (gv c4), some (gv c5), some (gv v6), j7, j8, none], [], gm_h s g9)) := by
  intro fuel
  induction fuel with
  | zero => intros; exact jr_none
  | succ fuel ih =>
    intro v6 g9 j7 j8 hj7
    unfold ca_list_l10
    exact (
      r_iload (pc2 := 12) rfl rfl rfl (
      r_aload (pc2 := 13) rfl rfl rfl (
      r_getA (pc2 := 16) rfl rfl (sh_T hs rfl rfl) (sh_A hs rfl rfl) (
      r_getA (pc2 := 19) rfl rfl (sh_T hs rfl rfl) (sh_A hs rfl rfl) (
      r_iload (pc2 := 20) rfl rfl rfl (
      jr_g fun h14 => r_aald (pc2 := 21) rfl rfl hs h14 (
      r_getI (pc2 := 24) rfl rfl (sh_b0 hs (bn_lt hs h14)) (
      jr_g fun h15 => r_cge (pc2 := 27) (t := 106) rfl h15.1 h15.2 rfl (fun _ =>
      r_ic (x := 0) (pc2 := 28) rfl ic_0 rfl (
      r_istore (L2 := [some (.ref 27), some (gv c3), some (gv c4), some (gv c5), some (gv v6), some (gv 0), j8, none]) (pc2 := 30) rfl rfl rfl (
      r_b1 (rl_ca_list_l30 hs d   c3 c4 c5 v6  fz 0 g9 _ ) (fun g36 c h => match c, h with | _, ⟨j34, j35, hj34, rfl⟩ => (
      r_iinc (kk := 1) (L2 := [some (.ref 27), some (gv c3), some (gv c4), some (gv c5), some (gv (v6 + 1)), j34, j35, none]) (pc2 := 103) rfl ic_1 rfl rfl rfl (
      r_goto (t := 10) rfl (
      ih (v6 + 1) g36 _ _ hj34))))))) (fun _ =>
      jr_leaf ⟨_, _, _, rfl, hj7, rfl⟩)))))))))
theorem rf_ca_list {s : gm_S} {n m : Nat} (hs : gm_sh s n m) (d : Nat)  (g : gm_T) (a1 : Int) (a2 : Int) (a3 : Int)  : jr (eV s) (ca_list n g a1 a2 a3) (jm_cl jm_CD km_n (d + 4) 4 [.ref 27, gv a1, gv a2, gv a3] (gm_h s g)) := by
  unfold ca_list
  exact (r_ent (cd := cd_4) (n := 8) (L0 := [some (.ref 27), some (gv a1), some (gv a2), some (gv a3), none, none, none, none]) rfl rfl rfl rfl (
      r_aload (pc2 := 1) rfl rfl rfl (
      r_getA (pc2 := 4) rfl rfl (sh_T hs rfl rfl) (sh_A hs rfl rfl) (
      r_iload (pc2 := 5) rfl rfl rfl (
      r_ic (x := 0) (pc2 := 6) rfl ic_0 rfl (
      jr_g fun h2 => r_iast (len := 3) (pc2 := 7) rfl rfl (sh_T hs rfl rfl) (sh_L hs rfl rfl) rfl h2 fun g1 => (
      r_ic (x := 0) (pc2 := 8) rfl ic_0 rfl (
      r_istore (L2 := [some (.ref 27), some (gv a1), some (gv a2), some (gv a3), some (gv 0), none, none, none]) (pc2 := 10) rfl rfl rfl (
      r_b1 (rl_ca_list_l10 hs d   a1 a2 a3  fz 0 g1 _ _ rfl) (fun g41 c h => match c, h with | _, ⟨j38, j39, j40, hj38, hj39, rfl⟩ => (
      r_vret rfl rfl)))))))))))
theorem rf_ca_isBetter {s : gm_S} {n m : Nat} (hs : gm_sh s n m) (d : Nat)  (g : gm_T) (a1 : Int) (a2 : Int64) (a4 : Int64)  : jr (pI s g) (ca_isBetter g a1 a2 a4) (jm_cl jm_CD km_n (d + 1) 11 [.ref 27, gv a1, .long a2, .long a4] (gm_h s g)) := by
  unfold ca_isBetter
  exact (r_ent (cd := cd_11) (n := 6) (L0 := [some (.ref 27), some (gv a1), some (.long a2), none, some (.long a4), none]) rfl rfl rfl rfl (
      r_iload (pc2 := 1) rfl rfl rfl (
      r_aload (pc2 := 2) rfl rfl rfl (
      r_getI (pc2 := 5) rfl rfl (sh_T hs rfl rfl) (
      jr_g fun h1 => r_ceq (pc2 := 8) (t := 22) rfl h1.1 h1.2 rfl (fun _ =>
      r_lload (pc2 := 23) rfl rfl rfl (
      r_aload (pc2 := 24) rfl rfl rfl (
      r_getJ (pc2 := 27) rfl rfl (sh_T hs rfl rfl) (
      r_lcmp (pc2 := 28) rfl rfl (
      r_iflt (pc2 := 31) (t := 50) rfl (rg_toInt _) rfl (fun _ =>
      r_ic (x := 1) (pc2 := 51) rfl ic_1 rfl (
      r_goto (t := 55) rfl (
      r_zret rfl (by decide) rfl))) (fun _ =>
      r_lload (pc2 := 32) rfl rfl rfl (
      r_aload (pc2 := 33) rfl rfl rfl (
      r_getJ (pc2 := 36) rfl rfl (sh_T hs rfl rfl) (
      r_lcmp (pc2 := 37) rfl rfl (
      r_ifne (pc2 := 40) (t := 54) rfl (rg_toInt _) rfl (fun _ =>
      r_lload (pc2 := 42) rfl rfl rfl (
      r_aload (pc2 := 43) rfl rfl rfl (
      r_getJ (pc2 := 46) rfl rfl (sh_T hs rfl rfl) (
      r_lcmp (pc2 := 47) rfl rfl (
      r_ifge (pc2 := 50) (t := 54) rfl (rg_toInt _) rfl (fun _ =>
      r_ic (x := 1) (pc2 := 51) rfl ic_1 rfl (
      r_goto (t := 55) rfl (
      r_zret rfl (by decide) rfl))) (fun _ =>
      r_ic (x := 0) (pc2 := 55) rfl ic_0 rfl (
      r_zret rfl (by decide) rfl))))))) (fun _ =>
      r_ic (x := 0) (pc2 := 55) rfl ic_0 rfl (
      r_zret rfl (by decide) rfl)))))))))))) (fun _ =>
      r_iload (pc2 := 9) rfl rfl rfl (
      r_aload (pc2 := 10) rfl rfl rfl (
      r_getI (pc2 := 13) rfl rfl (sh_T hs rfl rfl) (
      r_cle (pc2 := 16) (t := 20) rfl h1.1 h1.2 rfl (fun _ =>
      r_ic (x := 0) (pc2 := 21) rfl ic_0 rfl (
      r_zret rfl (by decide) rfl)) (fun _ =>
      r_ic (x := 1) (pc2 := 17) rfl ic_1 rfl (
      r_goto (t := 21) rfl (
      r_zret rfl (by decide) rfl))))))))))))
theorem rf_ca_offer {s : gm_S} {n m : Nat} (hs : gm_sh s n m) (d : Nat)  (g : gm_T) (a1 : Int) (a2 : Int64) (a4 : Int64)  : jr (eV s) (ca_offer g a1 a2 a4) (jm_cl jm_CD km_n (d + 2) 12 [.ref 27, gv a1, .long a2, .long a4] (gm_h s g)) := by
  unfold ca_offer
  exact (r_ent (cd := cd_12) (n := 6) (L0 := [some (.ref 27), some (gv a1), some (.long a2), none, some (.long a4), none]) rfl rfl rfl rfl (
      r_aload (pc2 := 1) rfl rfl rfl (
      r_iload (pc2 := 2) rfl rfl rfl (
      r_lload (pc2 := 3) rfl rfl rfl (
      r_lload (pc2 := 5) rfl rfl rfl (
      r_callVP (pc2 := 8) (args := [.ref 27, gv a1, .long a2, .long a4]) (st2 := []) rfl rfl rfl rfl rfl rfl (rc_of (sh_T hs rfl rfl)) (rf_ca_isBetter hs d g a1 a2 a4 ) fun v1 => (
      jr_g fun h2 => r_ifeq (pc2 := 11) (t := 27) rfl h2 rfl (fun _ =>
      r_vret rfl rfl) (fun _ =>
      r_aload (pc2 := 12) rfl rfl rfl (
      r_iload (pc2 := 13) rfl rfl rfl (
      r_putI (pc2 := 16) rfl rfl (sh_T hs rfl rfl) fun g3 => (
      r_aload (pc2 := 17) rfl rfl rfl (
      r_lload (pc2 := 18) rfl rfl rfl (
      r_putJ (pc2 := 21) rfl rfl (sh_T hs rfl rfl) fun g4 => (
      r_aload (pc2 := 22) rfl rfl rfl (
      r_lload (pc2 := 24) rfl rfl rfl (
      r_putJ (pc2 := 27) rfl rfl (sh_T hs rfl rfl) fun g5 => (
      r_vret rfl rfl)))))))))))))))))
theorem rl_ca_solveTwo_l2 {s : gm_S} {n m : Nat} (hs : gm_sh s n m) (d : Nat)    : ∀ (fuel : Nat) (v1 : Int) (g2 : gm_T), jr (fun (q : gm_T) (c : Option jm_R) => ∃ (j3 : Option Value), jm_lg j3 = false ∧ c = jm_sup cd_7 (jm_cl jm_CD km_n (d + 2)) (37, [some (.ref 27), j3], [], gm_h s q)) (ca_solveTwo_l2   fuel v1 g2) (jm_sup cd_7 (jm_cl jm_CD km_n (d + 2)) (2, [some (.ref 27), some (gv v1)], [], gm_h s g2)) := by
  intro fuel
  induction fuel with
  | zero => intros; exact jr_none
  | succ fuel ih =>
    intro v1 g2  
    unfold ca_solveTwo_l2
    exact (
      r_iload (pc2 := 3) rfl rfl rfl (
      r_aload (pc2 := 4) rfl rfl rfl (
      r_getA (pc2 := 7) rfl rfl (sh_T hs rfl rfl) (sh_A hs rfl rfl) (
      r_ic (x := 0) (pc2 := 8) rfl ic_0 rfl (
      r_iald (len := 3) (pc2 := 9) rfl rfl (sh_T hs rfl rfl) (sh_L hs rfl rfl) rfl ⟨by decide, by decide⟩ (
      jr_g fun h5 => r_cge (pc2 := 12) (t := 37) rfl h5.1 h5.2 rfl (fun _ =>
      r_aload (pc2 := 13) rfl rfl rfl (
      r_aload (pc2 := 14) rfl rfl rfl (
      r_getA (pc2 := 17) rfl rfl (sh_T hs rfl rfl) (sh_A hs rfl rfl) (
      r_iload (pc2 := 18) rfl rfl rfl (
      jr_g fun h6 => r_iald (len := 192) (pc2 := 19) rfl rfl (sh_T hs rfl rfl) (sh_L hs rfl rfl) rfl h6 (
      r_aload (pc2 := 20) rfl rfl rfl (
      r_getA (pc2 := 23) rfl rfl (sh_T hs rfl rfl) (sh_A hs rfl rfl) (
      r_iload (pc2 := 24) rfl rfl rfl (
      r_lald (len := 192) (pc2 := 25) rfl rfl (sh_T hs rfl rfl) (sh_L hs rfl rfl) rfl h6 (
      r_lc (pc2 := 28) rfl rfl (
      r_callVV (pc2 := 31) (args := [.ref 27, gv (gm_I g2 29 v1.toNat), .long (gm_J g2 28 v1.toNat), .long 549756338176]) (st2 := []) rfl rfl rfl rfl rfl rfl (rc_of (sh_T hs rfl rfl)) (rf_ca_offer hs d g2 (gm_I g2 29 v1.toNat) (gm_J g2 28 v1.toNat) 549756338176 ) fun g7 => (
      r_iinc (kk := 1) (L2 := [some (.ref 27), some (gv (v1 + 1))]) (pc2 := 34) rfl ic_1 rfl rfl rfl (
      r_goto (t := 2) rfl (
      ih (v1 + 1) g7)))))))))))))) (fun _ =>
      jr_leaf ⟨_, rfl, rfl⟩)))))))
theorem rf_ca_solveTwo {s : gm_S} {n m : Nat} (hs : gm_sh s n m) (d : Nat)  (g : gm_T)   : jr (eV s) (ca_solveTwo g ) (jm_cl jm_CD km_n (d + 3) 7 [.ref 27] (gm_h s g)) := by
  unfold ca_solveTwo
  exact (r_ent (cd := cd_7) (n := 2) (L0 := [some (.ref 27), none]) rfl rfl rfl rfl (
      r_ic (x := 0) (pc2 := 1) rfl ic_0 rfl (
      r_istore (L2 := [some (.ref 27), some (gv 0)]) (pc2 := 2) rfl rfl rfl (
      r_b1 (rl_ca_solveTwo_l2 hs d     fz 0 g  ) (fun g10 c h => match c, h with | _, ⟨j9, hj9, rfl⟩ => (
      r_vret rfl rfl))))))
theorem rf_cc_x {s : gm_S} {n m : Nat} (hs : gm_sh s n m) (d : Nat)  (g : gm_T) (a0 : Int64)  : jr (pI s g) (cc_x g a0) (jm_cl jm_CD km_n (d + 1) 307 [.long a0] (gm_h s g)) := by
  unfold cc_x
  exact (r_ent (cd := cd_307) (n := 2) (L0 := [some (.long a0), none]) rfl rfl rfl rfl (
      r_lload (pc2 := 1) rfl rfl rfl (
      r_ic (x := 20) (pc2 := 3) rfl ic_20 rfl (
      r_lshr (pc2 := 4) rfl rfl (
      r_lc (pc2 := 7) rfl rfl (
      r_land (pc2 := 8) rfl rfl (
      r_l2i (pc2 := 9) rfl rfl (
      r_ic (x := 524288) (pc2 := 11) rfl ic_524288 rfl (
      r_isub (pc2 := 12) rfl rfl (
      r_iret rfl rfl))))))))))
theorem rf_cc_y {s : gm_S} {n m : Nat} (hs : gm_sh s n m) (d : Nat)  (g : gm_T) (a0 : Int64)  : jr (pI s g) (cc_y g a0) (jm_cl jm_CD km_n (d + 1) 308 [.long a0] (gm_h s g)) := by
  unfold cc_y
  exact (r_ent (cd := cd_308) (n := 2) (L0 := [some (.long a0), none]) rfl rfl rfl rfl (
      r_lload (pc2 := 1) rfl rfl rfl (
      r_lc (pc2 := 4) rfl rfl (
      r_land (pc2 := 5) rfl rfl (
      r_l2i (pc2 := 6) rfl rfl (
      r_ic (x := 524288) (pc2 := 8) rfl ic_524288 rfl (
      r_isub (pc2 := 9) rfl rfl (
      r_iret rfl rfl))))))))
theorem rf_cc_inverse {s : gm_S} {n m : Nat} (hs : gm_sh s n m) (d : Nat)  (g : gm_T) (a0 : Int64)  : jr (pJ s g) (cc_inverse g a0) (jm_cl jm_CD km_n (d + 2) 314 [.long a0] (gm_h s g)) := by
  unfold cc_inverse
  exact (r_ent (cd := cd_314) (n := 5) (L0 := [some (.long a0), none, none, none, none]) rfl rfl rfl rfl (
      r_ic (x := 4) (pc2 := 1) rfl ic_4 rfl (
      r_lload (pc2 := 2) rfl rfl rfl (
      r_callSP (pc2 := 5) (args := [.long a0]) (st2 := [gv 4]) rfl rfl rfl rfl rfl rfl (rf_cc_turn hs d g a0 ) fun v1 => (
      r_isub (pc2 := 6) rfl rfl (
      r_istoreL (L3 := fun v2 => [some (.long a0), none, some (gv v2), none, none]) (pc2 := 7) rfl rfl (fun _ => rfl) fun v2 => (
      r_lload (pc2 := 8) rfl rfl rfl (
      r_callSP (pc2 := 11) (args := [.long a0]) (st2 := []) rfl rfl rfl rfl rfl rfl (rf_cc_x hs d g a0 ) fun v3 => (
      r_ineg (pc2 := 12) rfl rfl (
      r_istoreL (L3 := fun v4 => [some (.long a0), none, some (gv v2), some (gv v4), none]) (pc2 := 13) rfl rfl (fun _ => rfl) fun v4 => (
      r_lload (pc2 := 14) rfl rfl rfl (
      r_callSP (pc2 := 17) (args := [.long a0]) (st2 := []) rfl rfl rfl rfl rfl rfl (rf_cc_y hs d g a0 ) fun v5 => (
      r_ineg (pc2 := 18) rfl rfl (
      r_istoreL (L3 := fun v6 => [some (.long a0), none, some (gv v2), some (gv v4), some (gv v6)]) (pc2 := 20) rfl rfl (fun _ => rfl) fun v6 => (
      r_iload (pc2 := 21) rfl rfl rfl (
      r_iload (pc2 := 22) rfl rfl rfl (
      r_iload (pc2 := 23) rfl rfl rfl (
      r_iload (pc2 := 25) rfl rfl rfl (
      r_callSP (pc2 := 28) (args := [gv v2, gv v4, gv v6]) (st2 := [gv v2]) rfl rfl rfl rfl rfl rfl (rf_cc_turnedX hs d g v2 v4 v6 ) fun v7 => (
      r_iload (pc2 := 29) rfl rfl rfl (
      r_iload (pc2 := 30) rfl rfl rfl (
      r_iload (pc2 := 32) rfl rfl rfl (
      r_callSP (pc2 := 35) (args := [gv v2, gv v4, gv v6]) (st2 := [gv v7, gv v2]) rfl rfl rfl rfl rfl rfl (rf_cc_turnedY hs d g v2 v4 v6 ) fun v8 => (
      r_callSL (pc2 := 38) (args := [gv v2, gv v7, gv v8]) (st2 := []) rfl rfl rfl rfl rfl rfl (rf_cc_of hs d g v2 v7 v8 ) fun v9 => (
      r_lret rfl rfl)))))))))))))))))))))))))
theorem rf_cc_onto {s : gm_S} {n m : Nat} (hs : gm_sh s n m) (d : Nat)  (g : gm_T) (a0 : Int64) (a2 : Int64)  : jr (pJ s g) (cc_onto g a0 a2) (jm_cl jm_CD km_n (d + 2) 313 [.long a0, .long a2] (gm_h s g)) := by
  unfold cc_onto
  exact (r_ent (cd := cd_313) (n := 7) (L0 := [some (.long a0), none, some (.long a2), none, none, none, none]) rfl rfl rfl rfl (
      r_lload (pc2 := 1) rfl rfl rfl (
      r_callSP (pc2 := 4) (args := [.long a0]) (st2 := []) rfl rfl rfl rfl rfl rfl (rf_cc_turn hs d g a0 ) fun v1 => (
      r_istore (L2 := [some (.long a0), none, some (.long a2), none, some (gv v1), none, none]) (pc2 := 6) rfl rfl rfl (
      r_lload (pc2 := 7) rfl rfl rfl (
      r_callSP (pc2 := 10) (args := [.long a2]) (st2 := []) rfl rfl rfl rfl rfl rfl (rf_cc_x hs d g a2 ) fun v2 => (
      r_istore (L2 := [some (.long a0), none, some (.long a2), none, some (gv v1), some (gv v2), none]) (pc2 := 12) rfl rfl rfl (
      r_lload (pc2 := 13) rfl rfl rfl (
      r_callSP (pc2 := 16) (args := [.long a2]) (st2 := []) rfl rfl rfl rfl rfl rfl (rf_cc_y hs d g a2 ) fun v3 => (
      r_istore (L2 := [some (.long a0), none, some (.long a2), none, some (gv v1), some (gv v2), some (gv v3)]) (pc2 := 18) rfl rfl rfl (
      r_iload (pc2 := 20) rfl rfl rfl (
      r_lload (pc2 := 21) rfl rfl rfl (
      r_callSP (pc2 := 24) (args := [.long a2]) (st2 := [gv v1]) rfl rfl rfl rfl rfl rfl (rf_cc_turn hs d g a2 ) fun v4 => (
      r_iadd (pc2 := 25) rfl rfl (
      r_iload (pc2 := 27) rfl rfl rfl (
      r_iload (pc2 := 29) rfl rfl rfl (
      r_iload (pc2 := 31) rfl rfl rfl (
      r_callSP (pc2 := 34) (args := [gv v1, gv v2, gv v3]) (st2 := [gv (v1 + v4)]) rfl rfl rfl rfl rfl rfl (rf_cc_turnedX hs d g v1 v2 v3 ) fun v5 => (
      r_lload (pc2 := 35) rfl rfl rfl (
      r_callSP (pc2 := 38) (args := [.long a0]) (st2 := [gv v5, gv (v1 + v4)]) rfl rfl rfl rfl rfl rfl (rf_cc_x hs d g a0 ) fun v6 => (
      r_iadd (pc2 := 39) rfl rfl (
      r_iload (pc2 := 41) rfl rfl rfl (
      r_iload (pc2 := 43) rfl rfl rfl (
      r_iload (pc2 := 45) rfl rfl rfl (
      r_callSP (pc2 := 48) (args := [gv v1, gv v2, gv v3]) (st2 := [gv (v5 + v6), gv (v1 + v4)]) rfl rfl rfl rfl rfl rfl (rf_cc_turnedY hs d g v1 v2 v3 ) fun v7 => (
      r_lload (pc2 := 49) rfl rfl rfl (
      r_callSP (pc2 := 52) (args := [.long a0]) (st2 := [gv v7, gv (v5 + v6), gv (v1 + v4)]) rfl rfl rfl rfl rfl rfl (rf_cc_y hs d g a0 ) fun v8 => (
      r_iadd (pc2 := 53) rfl rfl (
      r_callSL (pc2 := 56) (args := [gv (v1 + v4), gv (v5 + v6), gv (v7 + v8)]) (st2 := []) rfl rfl rfl rfl rfl rfl (rf_cc_of hs d g (v1 + v4) (v5 + v6) (v7 + v8) ) fun v9 => (
      r_lret rfl rfl))))))))))))))))))))))))))))))
theorem rf_cc_against {s : gm_S} {n m : Nat} (hs : gm_sh s n m) (d : Nat)  (g : gm_T) (a0 : Int64) (a2 : Int64)  : jr (pJ s g) (cc_against g a0 a2) (jm_cl jm_CD km_n (d + 3) 315 [.long a0, .long a2] (gm_h s g)) := by
  unfold cc_against
  exact (r_ent (cd := cd_315) (n := 4) (L0 := [some (.long a0), none, some (.long a2), none]) rfl rfl rfl rfl (
      r_lload (pc2 := 1) rfl rfl rfl (
      r_callSL (pc2 := 4) (args := [.long a0]) (st2 := []) rfl rfl rfl rfl rfl rfl (rf_cc_inverse hs d g a0 ) fun v1 => (
      r_lload (pc2 := 5) rfl rfl rfl (
      r_callSL (pc2 := 8) (args := [.long v1, .long a2]) (st2 := []) rfl rfl rfl rfl rfl rfl (rf_cc_onto hs d g v1 a2 ) fun v2 => (
      r_lret rfl rfl))))))
theorem rf_ca_worthAt {s : gm_S} {n m : Nat} (hs : gm_sh s n m) (d : Nat)  (g : gm_T) (a1 : Int)  : jr (pI s g) (ca_worthAt g a1) (jm_cl jm_CD km_n (d + 1) 10 [.ref 27, gv a1] (gm_h s g)) := by
  unfold ca_worthAt
  exact (r_ent (cd := cd_10) (n := 2) (L0 := [some (.ref 27), some (gv a1)]) rfl rfl rfl rfl (
      r_iload (pc2 := 1) rfl rfl rfl (
      jr_g fun h1 => r_ifge (pc2 := 4) (t := 8) rfl h1 rfl (fun _ =>
      r_ic (x := 0) (pc2 := 5) rfl ic_0 rfl (
      r_goto (t := 14) rfl (
      r_iret rfl rfl))) (fun _ =>
      r_aload (pc2 := 9) rfl rfl rfl (
      r_getA (pc2 := 12) rfl rfl (sh_T hs rfl rfl) (sh_A hs rfl rfl) (
      r_iload (pc2 := 13) rfl rfl rfl (
      jr_g fun h2 => r_iald (len := 192) (pc2 := 14) rfl rfl (sh_T hs rfl rfl) (sh_L hs rfl rfl) rfl h2 (
      r_iret rfl rfl))))))))
theorem rf_cf_collide {s : gm_S} {n m : Nat} (hs : gm_sh s n m) (d : Nat)  (g : gm_T) (a1 : Int) (a2 : Int64) (a4 : Int) (a5 : Int64)  : jr (pI s g) (cf_collide n g a1 a2 a4 a5) (jm_cl jm_CD km_n (d + 3) 39 [.ref 10, gv a1, .long a2, gv a4, .long a5] (gm_h s g)) := by
  unfold cf_collide
  exact (r_ent (cd := cd_39) (n := 9) (L0 := [some (.ref 10), some (gv a1), some (.long a2), none, some (gv a4), some (.long a5), none, none, none]) rfl rfl rfl rfl (
      r_lload (pc2 := 2) rfl rfl rfl (
      r_callSP (pc2 := 5) (args := [.long a5]) (st2 := []) rfl rfl rfl rfl rfl rfl (rf_cc_x hs (d + 1) g a5 ) fun v1 => (
      r_lload (pc2 := 6) rfl rfl rfl (
      r_callSP (pc2 := 9) (args := [.long a2]) (st2 := [gv v1]) rfl rfl rfl rfl rfl rfl (rf_cc_x hs (d + 1) g a2 ) fun v2 => (
      r_isub (pc2 := 10) rfl rfl (
      r_istoreL (L3 := fun v3 => [some (.ref 10), some (gv a1), some (.long a2), none, some (gv a4), some (.long a5), none, some (gv v3), none]) (pc2 := 12) rfl rfl (fun _ => rfl) fun v3 => (
      r_lload (pc2 := 14) rfl rfl rfl (
      r_callSP (pc2 := 17) (args := [.long a5]) (st2 := []) rfl rfl rfl rfl rfl rfl (rf_cc_y hs (d + 1) g a5 ) fun v4 => (
      r_lload (pc2 := 18) rfl rfl rfl (
      r_callSP (pc2 := 21) (args := [.long a2]) (st2 := [gv v4]) rfl rfl rfl rfl rfl rfl (rf_cc_y hs (d + 1) g a2 ) fun v5 => (
      r_isub (pc2 := 22) rfl rfl (
      r_istoreL (L3 := fun v6 => [some (.ref 10), some (gv a1), some (.long a2), none, some (gv a4), some (.long a5), none, some (gv v3), some (gv v6)]) (pc2 := 24) rfl rfl (fun _ => rfl) fun v6 => (
      r_aload (pc2 := 25) rfl rfl rfl (
      r_getA (pc2 := 28) rfl rfl (sh_T hs rfl rfl) (sh_A hs rfl rfl) (
      r_iload (pc2 := 29) rfl rfl rfl (
      jr_g fun h7 => r_aald (pc2 := 30) rfl rfl hs h7 (
      r_lload (pc2 := 31) rfl rfl rfl (
      r_callSP (pc2 := 34) (args := [.long a2]) (st2 := [.ref (bA a1.toNat)]) rfl rfl rfl rfl rfl rfl (rf_cc_turn hs (d + 1) g a2 ) fun v8 => (
      r_aload (pc2 := 35) rfl rfl rfl (
      r_getA (pc2 := 38) rfl rfl (sh_T hs rfl rfl) (sh_A hs rfl rfl) (
      r_iload (pc2 := 40) rfl rfl rfl (
      jr_g fun h9 => r_aald (pc2 := 41) rfl rfl hs h9 (
      r_lload (pc2 := 43) rfl rfl rfl (
      r_callSP (pc2 := 46) (args := [.long a5]) (st2 := [.ref (bA a4.toNat), gv v8, .ref (bA a1.toNat)]) rfl rfl rfl rfl rfl rfl (rf_cc_turn hs (d + 1) g a5 ) fun v10 => (
      r_iload (pc2 := 48) rfl rfl rfl (
      r_iload (pc2 := 50) rfl rfl rfl (
      r_callVP (pc2 := 53) (args := [.ref (bA a1.toNat), gv v8, .ref (bA a4.toNat), gv v10, gv v3, gv v6]) (st2 := []) rfl rfl rfl rfl rfl rfl (rc_of (sh_b0 hs (bn_lt hs h7))) (rf_cb_common hs d g a1.toNat v8 a4.toNat v10 v3 v6 (bn_lt hs h7) (bn_lt hs h9)) fun v11 => (
      r_aload (pc2 := 54) rfl rfl rfl (
      r_getI (pc2 := 57) rfl rfl (sh_T hs rfl rfl) (
      jr_g fun h12 => r_cle (pc2 := 60) (t := 64) rfl h12.1 h12.2 rfl (fun _ =>
      r_ic (x := 0) (pc2 := 65) rfl ic_0 rfl (
      r_zret rfl (by decide) rfl)) (fun _ =>
      r_ic (x := 1) (pc2 := 61) rfl ic_1 rfl (
      r_goto (t := 65) rfl (
      r_zret rfl (by decide) rfl))))))))))))))))))))))))))))))))))
theorem rf_ca_consider {s : gm_S} {n m : Nat} (hs : gm_sh s n m) (d : Nat)  (g : gm_T) (a1 : Int64) (a3 : Int64)  : jr (eV s) (ca_consider n g a1 a3) (jm_cl jm_CD km_n (d + 4) 9 [.ref 27, .long a1, .long a3] (gm_h s g)) := by
  unfold ca_consider
  exact (r_ent (cd := cd_9) (n := 10) (L0 := [some (.ref 27), some (.long a1), none, some (.long a3), none, none, none, none, none, none]) rfl rfl rfl rfl (
      r_aload (pc2 := 1) rfl rfl rfl (
      r_ic (x := 0) (pc2 := 2) rfl ic_0 rfl (
      r_lload (pc2 := 3) rfl rfl rfl (
      r_callVP (pc2 := 6) (args := [.ref 27, gv 0, .long a1]) (st2 := []) rfl rfl rfl rfl rfl rfl (rc_of (sh_T hs rfl rfl)) (rf_ca_indexOf hs (d + 2) g 0 a1 ) fun v1 => (
      r_istore (L2 := [some (.ref 27), some (.long a1), none, some (.long a3), none, some (gv v1), none, none, none, none]) (pc2 := 8) rfl rfl rfl (
      r_aload (pc2 := 9) rfl rfl rfl (
      r_ic (x := 1) (pc2 := 10) rfl ic_1 rfl (
      r_lload (pc2 := 11) rfl rfl rfl (
      r_callVP (pc2 := 14) (args := [.ref 27, gv 1, .long a3]) (st2 := []) rfl rfl rfl rfl rfl rfl (rc_of (sh_T hs rfl rfl)) (rf_ca_indexOf hs (d + 2) g 1 a3 ) fun v2 => (
      r_istore (L2 := [some (.ref 27), some (.long a1), none, some (.long a3), none, some (gv v1), some (gv v2), none, none, none]) (pc2 := 16) rfl rfl rfl (
      r_aload (pc2 := 17) rfl rfl rfl (
      r_ic (x := 2) (pc2 := 18) rfl ic_2 rfl (
      r_lload (pc2 := 19) rfl rfl rfl (
      r_lload (pc2 := 20) rfl rfl rfl (
      r_callSL (pc2 := 23) (args := [.long a1, .long a3]) (st2 := [gv 2, .ref 27]) rfl rfl rfl rfl rfl rfl (rf_cc_against hs d g a1 a3 ) fun v3 => (
      r_callVP (pc2 := 26) (args := [.ref 27, gv 2, .long v3]) (st2 := []) rfl rfl rfl rfl rfl rfl (rc_of (sh_T hs rfl rfl)) (rf_ca_indexOf hs (d + 2) g 2 v3 ) fun v4 => (
      r_istore (L2 := [some (.ref 27), some (.long a1), none, some (.long a3), none, some (gv v1), some (gv v2), some (gv v4), none, none]) (pc2 := 28) rfl rfl rfl (
      r_aload (pc2 := 29) rfl rfl rfl (
      r_iload (pc2 := 31) rfl rfl rfl (
      r_callVP (pc2 := 34) (args := [.ref 27, gv v1]) (st2 := []) rfl rfl rfl rfl rfl rfl (rc_of (sh_T hs rfl rfl)) (rf_ca_worthAt hs (d + 2) g v1 ) fun v5 => (
      r_aload (pc2 := 35) rfl rfl rfl (
      r_iload (pc2 := 37) rfl rfl rfl (
      r_callVP (pc2 := 40) (args := [.ref 27, gv v2]) (st2 := [gv v5]) rfl rfl rfl rfl rfl rfl (rc_of (sh_T hs rfl rfl)) (rf_ca_worthAt hs (d + 2) g v2 ) fun v6 => (
      r_iadd (pc2 := 41) rfl rfl (
      r_aload (pc2 := 42) rfl rfl rfl (
      r_iload (pc2 := 44) rfl rfl rfl (
      r_callVP (pc2 := 47) (args := [.ref 27, gv v4]) (st2 := [gv (v5 + v6)]) rfl rfl rfl rfl rfl rfl (rc_of (sh_T hs rfl rfl)) (rf_ca_worthAt hs (d + 2) g v4 ) fun v7 => (
      r_iadd (pc2 := 48) rfl rfl (
      r_istoreL (L3 := fun v8 => [some (.ref 27), some (.long a1), none, some (.long a3), none, some (gv v1), some (gv v2), some (gv v4), some (gv v8), none]) (pc2 := 50) rfl rfl (fun _ => rfl) fun v8 => (
      r_aload (pc2 := 51) rfl rfl rfl (
      r_iload (pc2 := 53) rfl rfl rfl (
      r_lload (pc2 := 54) rfl rfl rfl (
      r_lload (pc2 := 55) rfl rfl rfl (
      r_callVP (pc2 := 58) (args := [.ref 27, gv v8, .long a1, .long a3]) (st2 := []) rfl rfl rfl rfl rfl rfl (rc_of (sh_T hs rfl rfl)) (rf_ca_isBetter hs (d + 2) g v8 a1 a3 ) fun v9 => (
      jr_g fun h10 => r_ifne (pc2 := 61) (t := 62) rfl h10 rfl (fun _ =>
      r_vret rfl rfl) (fun _ =>
      r_iload (pc2 := 64) rfl rfl rfl (
      r_b1 (R1 := (fun (q : Int) (c : Option jm_R) => c = jm_sup cd_9 (jm_cl jm_CD km_n (d + 3)) (158, [some (.ref 27), some (.long a1), none, some (.long a3), none, some (gv v1), some (gv v2), some (gv v4), some (gv v8), none], [gv q], gm_h s g))) (
      jr_g fun h12 => r_ifge (pc2 := 67) (t := 93) rfl h12 rfl (fun _ =>
      r_aload (pc2 := 68) rfl rfl rfl (
      r_getA (pc2 := 71) rfl rfl (sh_T hs rfl rfl) (sh_A hs rfl rfl) (
      r_aload (pc2 := 72) rfl rfl rfl (
      r_getA (pc2 := 75) rfl rfl (sh_T hs rfl rfl) (sh_A hs rfl rfl) (
      r_ic (x := 0) (pc2 := 76) rfl ic_0 rfl (
      r_iald (len := 3) (pc2 := 77) rfl rfl (sh_T hs rfl rfl) (sh_L hs rfl rfl) rfl ⟨by decide, by decide⟩ (
      r_lc (pc2 := 80) rfl rfl (
      r_aload (pc2 := 81) rfl rfl rfl (
      r_getA (pc2 := 84) rfl rfl (sh_T hs rfl rfl) (sh_A hs rfl rfl) (
      r_ic (x := 1) (pc2 := 85) rfl ic_1 rfl (
      r_iald (len := 3) (pc2 := 86) rfl rfl (sh_T hs rfl rfl) (sh_L hs rfl rfl) rfl ⟨by decide, by decide⟩ (
      r_lload (pc2 := 87) rfl rfl rfl (
      r_callVP (pc2 := 90) (args := [.ref 10, gv (gm_I g 31 0), .long 549756338176, gv (gm_I g 31 1), .long a1]) (st2 := []) rfl rfl rfl rfl rfl rfl (rc_of (sh_T hs rfl rfl)) (rf_cf_collide hs d g (gm_I g 31 0) 549756338176 (gm_I g 31 1) a1 ) fun v13 => (
      jr_g fun h14 => r_ifne (pc2 := 93) (t := 153) rfl h14 rfl (fun _ =>
      r_iload (pc2 := 95) rfl rfl rfl (
      jr_g fun h15 => r_ifge (pc2 := 98) (t := 124) rfl h15 rfl (fun _ =>
      r_aload (pc2 := 99) rfl rfl rfl (
      r_getA (pc2 := 102) rfl rfl (sh_T hs rfl rfl) (sh_A hs rfl rfl) (
      r_aload (pc2 := 103) rfl rfl rfl (
      r_getA (pc2 := 106) rfl rfl (sh_T hs rfl rfl) (sh_A hs rfl rfl) (
      r_ic (x := 0) (pc2 := 107) rfl ic_0 rfl (
      r_iald (len := 3) (pc2 := 108) rfl rfl (sh_T hs rfl rfl) (sh_L hs rfl rfl) rfl ⟨by decide, by decide⟩ (
      r_lc (pc2 := 111) rfl rfl (
      r_aload (pc2 := 112) rfl rfl rfl (
      r_getA (pc2 := 115) rfl rfl (sh_T hs rfl rfl) (sh_A hs rfl rfl) (
      r_ic (x := 2) (pc2 := 116) rfl ic_2 rfl (
      r_iald (len := 3) (pc2 := 117) rfl rfl (sh_T hs rfl rfl) (sh_L hs rfl rfl) rfl ⟨by decide, by decide⟩ (
      r_lload (pc2 := 118) rfl rfl rfl (
      r_callVP (pc2 := 121) (args := [.ref 10, gv (gm_I g 31 0), .long 549756338176, gv (gm_I g 31 2), .long a3]) (st2 := []) rfl rfl rfl rfl rfl rfl (rc_of (sh_T hs rfl rfl)) (rf_cf_collide hs d g (gm_I g 31 0) 549756338176 (gm_I g 31 2) a3 ) fun v16 => (
      jr_g fun h17 => r_ifne (pc2 := 124) (t := 153) rfl h17 rfl (fun _ =>
      r_iload (pc2 := 126) rfl rfl rfl (
      jr_g fun h18 => r_ifge (pc2 := 129) (t := 157) rfl h18 rfl (fun _ =>
      r_aload (pc2 := 130) rfl rfl rfl (
      r_getA (pc2 := 133) rfl rfl (sh_T hs rfl rfl) (sh_A hs rfl rfl) (
      r_aload (pc2 := 134) rfl rfl rfl (
      r_getA (pc2 := 137) rfl rfl (sh_T hs rfl rfl) (sh_A hs rfl rfl) (
      r_ic (x := 1) (pc2 := 138) rfl ic_1 rfl (
      r_iald (len := 3) (pc2 := 139) rfl rfl (sh_T hs rfl rfl) (sh_L hs rfl rfl) rfl ⟨by decide, by decide⟩ (
      r_lload (pc2 := 140) rfl rfl rfl (
      r_aload (pc2 := 141) rfl rfl rfl (
      r_getA (pc2 := 144) rfl rfl (sh_T hs rfl rfl) (sh_A hs rfl rfl) (
      r_ic (x := 2) (pc2 := 145) rfl ic_2 rfl (
      r_iald (len := 3) (pc2 := 146) rfl rfl (sh_T hs rfl rfl) (sh_L hs rfl rfl) rfl ⟨by decide, by decide⟩ (
      r_lload (pc2 := 147) rfl rfl rfl (
      r_callVP (pc2 := 150) (args := [.ref 10, gv (gm_I g 31 1), .long a1, gv (gm_I g 31 2), .long a3]) (st2 := []) rfl rfl rfl rfl rfl rfl (rc_of (sh_T hs rfl rfl)) (rf_cf_collide hs d g (gm_I g 31 1) a1 (gm_I g 31 2) a3 ) fun v19 => (
      jr_g fun h20 => r_ifeq (pc2 := 153) (t := 157) rfl h20 rfl (fun _ =>
      r_ic (x := 0) (pc2 := 158) rfl ic_0 rfl (
      jr_leaf rfl)) (fun _ =>
      r_ic (x := 1) (pc2 := 154) rfl ic_1 rfl (
      r_goto (t := 158) rfl (
      jr_leaf rfl))))))))))))))))) (fun _ =>
      r_ic (x := 0) (pc2 := 158) rfl ic_0 rfl (
      jr_leaf rfl)))) (fun _ =>
      r_ic (x := 1) (pc2 := 154) rfl ic_1 rfl (
      r_goto (t := 158) rfl (
      jr_leaf rfl))))))))))))))))) (fun _ =>
      r_iload (pc2 := 126) rfl rfl rfl (
      jr_g fun h21 => r_ifge (pc2 := 129) (t := 157) rfl h21 rfl (fun _ =>
      r_aload (pc2 := 130) rfl rfl rfl (
      r_getA (pc2 := 133) rfl rfl (sh_T hs rfl rfl) (sh_A hs rfl rfl) (
      r_aload (pc2 := 134) rfl rfl rfl (
      r_getA (pc2 := 137) rfl rfl (sh_T hs rfl rfl) (sh_A hs rfl rfl) (
      r_ic (x := 1) (pc2 := 138) rfl ic_1 rfl (
      r_iald (len := 3) (pc2 := 139) rfl rfl (sh_T hs rfl rfl) (sh_L hs rfl rfl) rfl ⟨by decide, by decide⟩ (
      r_lload (pc2 := 140) rfl rfl rfl (
      r_aload (pc2 := 141) rfl rfl rfl (
      r_getA (pc2 := 144) rfl rfl (sh_T hs rfl rfl) (sh_A hs rfl rfl) (
      r_ic (x := 2) (pc2 := 145) rfl ic_2 rfl (
      r_iald (len := 3) (pc2 := 146) rfl rfl (sh_T hs rfl rfl) (sh_L hs rfl rfl) rfl ⟨by decide, by decide⟩ (
      r_lload (pc2 := 147) rfl rfl rfl (
      r_callVP (pc2 := 150) (args := [.ref 10, gv (gm_I g 31 1), .long a1, gv (gm_I g 31 2), .long a3]) (st2 := []) rfl rfl rfl rfl rfl rfl (rc_of (sh_T hs rfl rfl)) (rf_cf_collide hs d g (gm_I g 31 1) a1 (gm_I g 31 2) a3 ) fun v22 => (
      jr_g fun h23 => r_ifeq (pc2 := 153) (t := 157) rfl h23 rfl (fun _ =>
      r_ic (x := 0) (pc2 := 158) rfl ic_0 rfl (
      jr_leaf rfl)) (fun _ =>
      r_ic (x := 1) (pc2 := 154) rfl ic_1 rfl (
      r_goto (t := 158) rfl (
      jr_leaf rfl))))))))))))))))) (fun _ =>
      r_ic (x := 0) (pc2 := 158) rfl ic_0 rfl (
      jr_leaf rfl)))))) (fun _ =>
      r_ic (x := 1) (pc2 := 154) rfl ic_1 rfl (
      r_goto (t := 158) rfl (
      jr_leaf rfl))))))))))))))))) (fun _ =>
      r_iload (pc2 := 95) rfl rfl rfl (
      jr_g fun h24 => r_ifge (pc2 := 98) (t := 124) rfl h24 rfl (fun _ =>
      r_aload (pc2 := 99) rfl rfl rfl (
      r_getA (pc2 := 102) rfl rfl (sh_T hs rfl rfl) (sh_A hs rfl rfl) (
      r_aload (pc2 := 103) rfl rfl rfl (
      r_getA (pc2 := 106) rfl rfl (sh_T hs rfl rfl) (sh_A hs rfl rfl) (
      r_ic (x := 0) (pc2 := 107) rfl ic_0 rfl (
      r_iald (len := 3) (pc2 := 108) rfl rfl (sh_T hs rfl rfl) (sh_L hs rfl rfl) rfl ⟨by decide, by decide⟩ (
      r_lc (pc2 := 111) rfl rfl (
      r_aload (pc2 := 112) rfl rfl rfl (
      r_getA (pc2 := 115) rfl rfl (sh_T hs rfl rfl) (sh_A hs rfl rfl) (
      r_ic (x := 2) (pc2 := 116) rfl ic_2 rfl (
      r_iald (len := 3) (pc2 := 117) rfl rfl (sh_T hs rfl rfl) (sh_L hs rfl rfl) rfl ⟨by decide, by decide⟩ (
      r_lload (pc2 := 118) rfl rfl rfl (
      r_callVP (pc2 := 121) (args := [.ref 10, gv (gm_I g 31 0), .long 549756338176, gv (gm_I g 31 2), .long a3]) (st2 := []) rfl rfl rfl rfl rfl rfl (rc_of (sh_T hs rfl rfl)) (rf_cf_collide hs d g (gm_I g 31 0) 549756338176 (gm_I g 31 2) a3 ) fun v25 => (
      jr_g fun h26 => r_ifne (pc2 := 124) (t := 153) rfl h26 rfl (fun _ =>
      r_iload (pc2 := 126) rfl rfl rfl (
      jr_g fun h27 => r_ifge (pc2 := 129) (t := 157) rfl h27 rfl (fun _ =>
      r_aload (pc2 := 130) rfl rfl rfl (
      r_getA (pc2 := 133) rfl rfl (sh_T hs rfl rfl) (sh_A hs rfl rfl) (
      r_aload (pc2 := 134) rfl rfl rfl (
      r_getA (pc2 := 137) rfl rfl (sh_T hs rfl rfl) (sh_A hs rfl rfl) (
      r_ic (x := 1) (pc2 := 138) rfl ic_1 rfl (
      r_iald (len := 3) (pc2 := 139) rfl rfl (sh_T hs rfl rfl) (sh_L hs rfl rfl) rfl ⟨by decide, by decide⟩ (
      r_lload (pc2 := 140) rfl rfl rfl (
      r_aload (pc2 := 141) rfl rfl rfl (
      r_getA (pc2 := 144) rfl rfl (sh_T hs rfl rfl) (sh_A hs rfl rfl) (
      r_ic (x := 2) (pc2 := 145) rfl ic_2 rfl (
      r_iald (len := 3) (pc2 := 146) rfl rfl (sh_T hs rfl rfl) (sh_L hs rfl rfl) rfl ⟨by decide, by decide⟩ (
      r_lload (pc2 := 147) rfl rfl rfl (
      r_callVP (pc2 := 150) (args := [.ref 10, gv (gm_I g 31 1), .long a1, gv (gm_I g 31 2), .long a3]) (st2 := []) rfl rfl rfl rfl rfl rfl (rc_of (sh_T hs rfl rfl)) (rf_cf_collide hs d g (gm_I g 31 1) a1 (gm_I g 31 2) a3 ) fun v28 => (
      jr_g fun h29 => r_ifeq (pc2 := 153) (t := 157) rfl h29 rfl (fun _ =>
      r_ic (x := 0) (pc2 := 158) rfl ic_0 rfl (
      jr_leaf rfl)) (fun _ =>
      r_ic (x := 1) (pc2 := 154) rfl ic_1 rfl (
      r_goto (t := 158) rfl (
      jr_leaf rfl))))))))))))))))) (fun _ =>
      r_ic (x := 0) (pc2 := 158) rfl ic_0 rfl (
      jr_leaf rfl)))) (fun _ =>
      r_ic (x := 1) (pc2 := 154) rfl ic_1 rfl (
      r_goto (t := 158) rfl (
      jr_leaf rfl))))))))))))))))) (fun _ =>
      r_iload (pc2 := 126) rfl rfl rfl (
      jr_g fun h30 => r_ifge (pc2 := 129) (t := 157) rfl h30 rfl (fun _ =>
      r_aload (pc2 := 130) rfl rfl rfl (
      r_getA (pc2 := 133) rfl rfl (sh_T hs rfl rfl) (sh_A hs rfl rfl) (
      r_aload (pc2 := 134) rfl rfl rfl (
      r_getA (pc2 := 137) rfl rfl (sh_T hs rfl rfl) (sh_A hs rfl rfl) (
      r_ic (x := 1) (pc2 := 138) rfl ic_1 rfl (
      r_iald (len := 3) (pc2 := 139) rfl rfl (sh_T hs rfl rfl) (sh_L hs rfl rfl) rfl ⟨by decide, by decide⟩ (
      r_lload (pc2 := 140) rfl rfl rfl (
      r_aload (pc2 := 141) rfl rfl rfl (
      r_getA (pc2 := 144) rfl rfl (sh_T hs rfl rfl) (sh_A hs rfl rfl) (
      r_ic (x := 2) (pc2 := 145) rfl ic_2 rfl (
      r_iald (len := 3) (pc2 := 146) rfl rfl (sh_T hs rfl rfl) (sh_L hs rfl rfl) rfl ⟨by decide, by decide⟩ (
      r_lload (pc2 := 147) rfl rfl rfl (
      r_callVP (pc2 := 150) (args := [.ref 10, gv (gm_I g 31 1), .long a1, gv (gm_I g 31 2), .long a3]) (st2 := []) rfl rfl rfl rfl rfl rfl (rc_of (sh_T hs rfl rfl)) (rf_cf_collide hs d g (gm_I g 31 1) a1 (gm_I g 31 2) a3 ) fun v31 => (
      jr_g fun h32 => r_ifeq (pc2 := 153) (t := 157) rfl h32 rfl (fun _ =>
      r_ic (x := 0) (pc2 := 158) rfl ic_0 rfl (
      jr_leaf rfl)) (fun _ =>
      r_ic (x := 1) (pc2 := 154) rfl ic_1 rfl (
      r_goto (t := 158) rfl (
      jr_leaf rfl))))))))))))))))) (fun _ =>
      r_ic (x := 0) (pc2 := 158) rfl ic_0 rfl (
      jr_leaf rfl))))))) (fun v11 c h => match c, h with | _, rfl => (
      r_istore (L2 := [some (.ref 27), some (.long a1), none, some (.long a3), none, some (gv v1), some (gv v2), some (gv v4), some (gv v8), some (gv v11)]) (pc2 := 160) rfl rfl rfl (
      r_iload (pc2 := 162) rfl rfl rfl (
      jr_g fun h33 => r_ifne (pc2 := 165) (t := 173) rfl h33 rfl (fun _ =>
      r_aload (pc2 := 166) rfl rfl rfl (
      r_iload (pc2 := 168) rfl rfl rfl (
      r_lload (pc2 := 169) rfl rfl rfl (
      r_lload (pc2 := 170) rfl rfl rfl (
      r_callVV (pc2 := 173) (args := [.ref 27, gv v8, .long a1, .long a3]) (st2 := []) rfl rfl rfl rfl rfl rfl (rc_of (sh_T hs rfl rfl)) (rf_ca_offer hs (d + 1) g v8 a1 a3 ) fun g34 => (
      r_vret rfl rfl)))))) (fun _ =>
      r_vret rfl rfl)))))))))))))))))))))))))))))))))))))))))))
theorem rl_ca_solveThree_l14 {s : gm_S} {n m : Nat} (hs : gm_sh s n m) (d : Nat)  (c8 : Int)  : ∀ (fuel : Nat) (v9 : Int) (g10 : gm_T), jr (fun (q : gm_T) (c : Option jm_R) => ∃ (j11 : Option Value), jm_lg j11 = false ∧ c = jm_sup cd_8 (jm_cl jm_CD km_n (d + 4)) (49, [some (.ref 27), some (gv c8), j11, none, none, none, none, none, none], [], gm_h s q)) (ca_solveThree_l14 n  c8 fuel v9 g10) (jm_sup cd_8 (jm_cl jm_CD km_n (d + 4)) (14, [some (.ref 27), some (gv c8), some (gv v9), none, none, none, none, none, none], [], gm_h s g10)) := by
  intro fuel
  induction fuel with
  | zero => intros; exact jr_none
  | succ fuel ih =>
    intro v9 g10  
    unfold ca_solveThree_l14
    exact (
      r_iload (pc2 := 15) rfl rfl rfl (
      r_aload (pc2 := 16) rfl rfl rfl (
      r_getA (pc2 := 19) rfl rfl (sh_T hs rfl rfl) (sh_A hs rfl rfl) (
      r_ic (x := 1) (pc2 := 20) rfl ic_1 rfl (
      r_iald (len := 3) (pc2 := 21) rfl rfl (sh_T hs rfl rfl) (sh_L hs rfl rfl) rfl ⟨by decide, by decide⟩ (
      jr_g fun h13 => r_cge (pc2 := 24) (t := 49) rfl h13.1 h13.2 rfl (fun _ =>
      r_aload (pc2 := 25) rfl rfl rfl (
      r_aload (pc2 := 26) rfl rfl rfl (
      r_getA (pc2 := 29) rfl rfl (sh_T hs rfl rfl) (sh_A hs rfl rfl) (
      r_iload (pc2 := 30) rfl rfl rfl (
      jr_g fun h14 => r_lald (len := 192) (pc2 := 31) rfl rfl (sh_T hs rfl rfl) (sh_L hs rfl rfl) rfl h14 (
      r_aload (pc2 := 32) rfl rfl rfl (
      r_getA (pc2 := 35) rfl rfl (sh_T hs rfl rfl) (sh_A hs rfl rfl) (
      r_ic (x := 64) (pc2 := 37) rfl ic_64 rfl (
      r_iload (pc2 := 38) rfl rfl rfl (
      r_iadd (pc2 := 39) rfl rfl (
      jr_g fun h15 => r_lald (len := 192) (pc2 := 40) rfl rfl (sh_T hs rfl rfl) (sh_L hs rfl rfl) rfl h15 (
      r_callVV (pc2 := 43) (args := [.ref 27, .long (gm_J g10 28 c8.toNat), .long (gm_J g10 28 ((64 + v9)).toNat)]) (st2 := []) rfl rfl rfl rfl rfl rfl (rc_of (sh_T hs rfl rfl)) (rf_ca_consider hs d g10 (gm_J g10 28 c8.toNat) (gm_J g10 28 ((64 + v9)).toNat) ) fun g16 => (
      r_iinc (kk := 1) (L2 := [some (.ref 27), some (gv c8), some (gv (v9 + 1)), none, none, none, none, none, none]) (pc2 := 46) rfl ic_1 rfl rfl rfl (
      r_goto (t := 14) rfl (
      ih (v9 + 1) g16))))))))))))))) (fun _ =>
      jr_leaf ⟨_, rfl, rfl⟩)))))))
theorem rl_ca_solveThree_l2 {s : gm_S} {n m : Nat} (hs : gm_sh s n m) (d : Nat)    : ∀ (fuel : Nat) (v1 : Int) (g3 : gm_T) (j2 : Option Value) (hj2 : jm_lg j2 = false), jr (fun (q : gm_T) (c : Option jm_R) => ∃ (j4 : Option Value) (j5 : Option Value), jm_lg j4 = false ∧ jm_lg j5 = false ∧ c = jm_sup cd_8 (jm_cl jm_CD km_n (d + 4)) (55, [some (.ref 27), j4, j5, none, none, none, none, none, none], [], gm_h s q)) (ca_solveThree_l2 n   fuel v1 g3) (jm_sup cd_8 (jm_cl jm_CD km_n (d + 4)) (2, [some (.ref 27), some (gv v1), j2, none, none, none, none, none, none], [], gm_h s g3)) := by
  intro fuel
  induction fuel with
  | zero => intros; exact jr_none
  | succ fuel ih =>
    intro v1 g3 j2 hj2
    unfold ca_solveThree_l2
    exact (
      r_iload (pc2 := 3) rfl rfl rfl (
      r_aload (pc2 := 4) rfl rfl rfl (
      r_getA (pc2 := 7) rfl rfl (sh_T hs rfl rfl) (sh_A hs rfl rfl) (
      r_ic (x := 0) (pc2 := 8) rfl ic_0 rfl (
      r_iald (len := 3) (pc2 := 9) rfl rfl (sh_T hs rfl rfl) (sh_L hs rfl rfl) rfl ⟨by decide, by decide⟩ (
      jr_g fun h7 => r_cge (pc2 := 12) (t := 55) rfl h7.1 h7.2 rfl (fun _ =>
      r_ic (x := 0) (pc2 := 13) rfl ic_0 rfl (
      r_istore (L2 := [some (.ref 27), some (gv v1), some (gv 0), none, none, none, none, none, none]) (pc2 := 14) rfl rfl rfl (
      r_b1 (rl_ca_solveThree_l14 hs d   v1  fz 0 g3  ) (fun g19 c h => match c, h with | _, ⟨j18, hj18, rfl⟩ => (
      r_iinc (kk := 1) (L2 := [some (.ref 27), some (gv (v1 + 1)), j18, none, none, none, none, none, none]) (pc2 := 52) rfl ic_1 rfl rfl rfl (
      r_goto (t := 2) rfl (
      ih (v1 + 1) g19 _ hj18))))))) (fun _ =>
      jr_leaf ⟨_, _, rfl, hj2, rfl⟩)))))))
theorem rl_ca_solveThree_l87 {s : gm_S} {n m : Nat} (hs : gm_sh s n m) (d : Nat)  (c40 : Int) (c41 : Int64) (c42 : Int64)  : ∀ (fuel : Nat) (v43 : Int) (g45 : gm_T) (j44 : Option Value), jr (fun (q : gm_T) (c : Option jm_R) => ∃ (j46 : Option Value), jm_lg j46 = false ∧ c = jm_sup cd_8 (jm_cl jm_CD km_n (d + 4)) (126, [some (.ref 27), some (gv c40), some (.long c41), none, some (.long c42), none, j46, j44, none], [], gm_h s q)) (ca_solveThree_l87 n  c40 c41 c42 fuel v43 g45) (jm_sup cd_8 (jm_cl jm_CD km_n (d + 4)) (87, [some (.ref 27), some (gv c40), some (.long c41), none, some (.long c42), none, some (gv v43), j44, none], [], gm_h s g45)) := by
  intro fuel
  induction fuel with
  | zero => intros; exact jr_none
  | succ fuel ih =>
    intro v43 g45 j44 
    unfold ca_solveThree_l87
    exact (
      r_iload (pc2 := 89) rfl rfl rfl (
      r_aload (pc2 := 90) rfl rfl rfl (
      r_getA (pc2 := 93) rfl rfl (sh_T hs rfl rfl) (sh_A hs rfl rfl) (
      r_ic (x := 0) (pc2 := 94) rfl ic_0 rfl (
      r_iald (len := 3) (pc2 := 95) rfl rfl (sh_T hs rfl rfl) (sh_L hs rfl rfl) rfl ⟨by decide, by decide⟩ (
      jr_g fun h48 => r_cge (pc2 := 98) (t := 126) rfl h48.1 h48.2 rfl (fun _ =>
      r_aload (pc2 := 99) rfl rfl rfl (
      r_aload (pc2 := 100) rfl rfl rfl (
      r_getA (pc2 := 103) rfl rfl (sh_T hs rfl rfl) (sh_A hs rfl rfl) (
      r_iload (pc2 := 105) rfl rfl rfl (
      jr_g fun h49 => r_lald (len := 192) (pc2 := 106) rfl rfl (sh_T hs rfl rfl) (sh_L hs rfl rfl) rfl h49 (
      r_aload (pc2 := 107) rfl rfl rfl (
      r_getA (pc2 := 110) rfl rfl (sh_T hs rfl rfl) (sh_A hs rfl rfl) (
      r_iload (pc2 := 112) rfl rfl rfl (
      r_lald (len := 192) (pc2 := 113) rfl rfl (sh_T hs rfl rfl) (sh_L hs rfl rfl) rfl h49 (
      r_lload (pc2 := 114) rfl rfl rfl (
      r_callSL (pc2 := 117) (args := [.long (gm_J g45 28 v43.toNat), .long c41]) (st2 := [.long (gm_J g45 28 v43.toNat), .ref 27]) rfl rfl rfl rfl rfl rfl (rf_cc_onto hs (d + 2) g45 (gm_J g45 28 v43.toNat) c41 ) fun v50 => (
      r_callVV (pc2 := 120) (args := [.ref 27, .long (gm_J g45 28 v43.toNat), .long v50]) (st2 := []) rfl rfl rfl rfl rfl rfl (rc_of (sh_T hs rfl rfl)) (rf_ca_consider hs d g45 (gm_J g45 28 v43.toNat) v50 ) fun g51 => (
      r_iinc (kk := 1) (L2 := [some (.ref 27), some (gv c40), some (.long c41), none, some (.long c42), none, some (gv (v43 + 1)), j44, none]) (pc2 := 123) rfl ic_1 rfl rfl rfl (
      r_goto (t := 87) rfl (
      ih (v43 + 1) g51 _))))))))))))))) (fun _ =>
      jr_leaf ⟨_, rfl, rfl⟩)))))))
theorem rl_ca_solveThree_l129 {s : gm_S} {n m : Nat} (hs : gm_sh s n m) (d : Nat)  (c56 : Int) (c58 : Int64)  : ∀ (fuel : Nat) (v59 : Int) (g61 : gm_T) (j57 : Option Value) (j60 : Option Value), jr (fun (q : gm_T) (c : Option jm_R) => ∃ (j62 : Option Value) (j63 : Option Value), jm_lg j62 = false ∧ c = jm_sup cd_8 (jm_cl jm_CD km_n (d + 4)) (171, [some (.ref 27), some (gv c56), j57, none, some (.long c58), none, j62, j63, none], [], gm_h s q)) (ca_solveThree_l129 n  c56 c58 fuel v59 g61) (jm_sup cd_8 (jm_cl jm_CD km_n (d + 4)) (129, [some (.ref 27), some (gv c56), j57, none, some (.long c58), none, some (gv v59), j60, none], [], gm_h s g61)) := by
  intro fuel
  induction fuel with
  | zero => intros; exact jr_none
  | succ fuel ih =>
    intro v59 g61 j57 j60 
    unfold ca_solveThree_l129
    exact (
      r_iload (pc2 := 131) rfl rfl rfl (
      r_aload (pc2 := 132) rfl rfl rfl (
      r_getA (pc2 := 135) rfl rfl (sh_T hs rfl rfl) (sh_A hs rfl rfl) (
      r_ic (x := 1) (pc2 := 136) rfl ic_1 rfl (
      r_iald (len := 3) (pc2 := 137) rfl rfl (sh_T hs rfl rfl) (sh_L hs rfl rfl) rfl ⟨by decide, by decide⟩ (
      jr_g fun h65 => r_cge (pc2 := 140) (t := 171) rfl h65.1 h65.2 rfl (fun _ =>
      r_aload (pc2 := 141) rfl rfl rfl (
      r_getA (pc2 := 144) rfl rfl (sh_T hs rfl rfl) (sh_A hs rfl rfl) (
      r_ic (x := 64) (pc2 := 146) rfl ic_64 rfl (
      r_iload (pc2 := 148) rfl rfl rfl (
      r_iadd (pc2 := 149) rfl rfl (
      jr_g fun h66 => r_lald (len := 192) (pc2 := 150) rfl rfl (sh_T hs rfl rfl) (sh_L hs rfl rfl) rfl h66 (
      r_lstoreL (L3 := fun v67 => [some (.ref 27), some (gv c56), j57, none, some (.long c58), none, some (gv v59), some (.long v67), none]) (pc2 := 152) rfl rfl (fun _ => rfl) fun v67 => (
      r_aload (pc2 := 153) rfl rfl rfl (
      r_lload (pc2 := 155) rfl rfl rfl (
      r_lload (pc2 := 157) rfl rfl rfl (
      r_callSL (pc2 := 160) (args := [.long v67, .long c58]) (st2 := [.ref 27]) rfl rfl rfl rfl rfl rfl (rf_cc_onto hs (d + 2) g61 v67 c58 ) fun v68 => (
      r_lload (pc2 := 162) rfl rfl rfl (
      r_callVV (pc2 := 165) (args := [.ref 27, .long v68, .long v67]) (st2 := []) rfl rfl rfl rfl rfl rfl (rc_of (sh_T hs rfl rfl)) (rf_ca_consider hs d g61 v68 v67 ) fun g69 => (
      r_iinc (kk := 1) (L2 := [some (.ref 27), some (gv c56), j57, none, some (.long c58), none, some (gv (v59 + 1)), some (.long v67), none]) (pc2 := 168) rfl ic_1 rfl rfl rfl (
      r_goto (t := 129) rfl (
      ih (v59 + 1) g69 _ _)))))))))))))))) (fun _ =>
      jr_leaf ⟨_, _, rfl, rfl⟩)))))))
theorem rl_ca_solveThree_l57 {s : gm_S} {n m : Nat} (hs : gm_sh s n m) (d : Nat)    : ∀ (fuel : Nat) (v24 : Int) (g29 : gm_T) (j25 : Option Value) (j26 : Option Value) (j27 : Option Value) (j28 : Option Value) (hj27 : jm_lg j27 = false), jr (fun (q : gm_T) (c : Option jm_R) => ∃ (j30 : Option Value) (j31 : Option Value) (j32 : Option Value) (j33 : Option Value) (j34 : Option Value), jm_lg j30 = false ∧ jm_lg j33 = false ∧ c = jm_sup cd_8 (jm_cl jm_CD km_n (d + 4)) (177, [some (.ref 27), j30, j31, none, j32, none, j33, j34, none], [], gm_h s q)) (ca_solveThree_l57 n   fuel v24 g29) (jm_sup cd_8 (jm_cl jm_CD km_n (d + 4)) (57, [some (.ref 27), some (gv v24), j25, none, j26, none, j27, j28, none], [], gm_h s g29)) := by
  intro fuel
  induction fuel with
  | zero => intros; exact jr_none
  | succ fuel ih =>
    intro v24 g29 j25 j26 j27 j28 hj27
    unfold ca_solveThree_l57
    exact (
      r_iload (pc2 := 58) rfl rfl rfl (
      r_aload (pc2 := 59) rfl rfl rfl (
      r_getA (pc2 := 62) rfl rfl (sh_T hs rfl rfl) (sh_A hs rfl rfl) (
      r_ic (x := 2) (pc2 := 63) rfl ic_2 rfl (
      r_iald (len := 3) (pc2 := 64) rfl rfl (sh_T hs rfl rfl) (sh_L hs rfl rfl) rfl ⟨by decide, by decide⟩ (
      jr_g fun h36 => r_cge (pc2 := 67) (t := 177) rfl h36.1 h36.2 rfl (fun _ =>
      r_aload (pc2 := 68) rfl rfl rfl (
      r_getA (pc2 := 71) rfl rfl (sh_T hs rfl rfl) (sh_A hs rfl rfl) (
      r_ic (x := 128) (pc2 := 74) rfl ic_128 rfl (
      r_iload (pc2 := 75) rfl rfl rfl (
      r_iadd (pc2 := 76) rfl rfl (
      jr_g fun h37 => r_lald (len := 192) (pc2 := 77) rfl rfl (sh_T hs rfl rfl) (sh_L hs rfl rfl) rfl h37 (
      r_lstoreL (L3 := fun v38 => [some (.ref 27), some (gv v24), some (.long v38), none, j26, none, j27, j28, none]) (pc2 := 78) rfl rfl (fun _ => rfl) fun v38 => (
      r_lload (pc2 := 79) rfl rfl rfl (
      r_callSL (pc2 := 82) (args := [.long v38]) (st2 := []) rfl rfl rfl rfl rfl rfl (rf_cc_inverse hs (d + 2) g29 v38 ) fun v39 => (
      r_lstore (L2 := [some (.ref 27), some (gv v24), some (.long v38), none, some (.long v39), none, j27, j28, none]) (pc2 := 84) rfl rfl rfl (
      r_ic (x := 0) (pc2 := 85) rfl ic_0 rfl (
      r_istore (L2 := [some (.ref 27), some (gv v24), some (.long v38), none, some (.long v39), none, some (gv 0), j28, none]) (pc2 := 87) rfl rfl rfl (
      r_b1 (rl_ca_solveThree_l87 hs d   v24 v38 v39  fz 0 g29 _ ) (fun g55 c h => match c, h with | _, ⟨j53, hj53, rfl⟩ => (
      r_ic (x := 0) (pc2 := 127) rfl ic_0 rfl (
      r_istore (L2 := [some (.ref 27), some (gv v24), some (.long v38), none, some (.long v39), none, some (gv 0), j28, none]) (pc2 := 129) rfl rfl rfl (
      r_b1 (rl_ca_solveThree_l129 hs d   v24 v39  fz 0 g55 _ _ ) (fun g74 c h => match c, h with | _, ⟨j72, j73, hj72, rfl⟩ => (
      r_iinc (kk := 1) (L2 := [some (.ref 27), some (gv (v24 + 1)), some (.long v38), none, some (.long v39), none, j72, j73, none]) (pc2 := 174) rfl ic_1 rfl rfl rfl (
      r_goto (t := 57) rfl (
      ih (v24 + 1) g74 _ _ _ _ hj72))))))))))))))))))))) (fun _ =>
      jr_leaf ⟨_, _, _, _, _, rfl, hj27, rfl⟩)))))))
theorem rf_ca_solveThree {s : gm_S} {n m : Nat} (hs : gm_sh s n m) (d : Nat)  (g : gm_T)   : jr (eV s) (ca_solveThree n g ) (jm_cl jm_CD km_n (d + 5) 8 [.ref 27] (gm_h s g)) := by
  unfold ca_solveThree
  exact (r_ent (cd := cd_8) (n := 9) (L0 := [some (.ref 27), none, none, none, none, none, none, none, none]) rfl rfl rfl rfl (
      r_ic (x := 0) (pc2 := 1) rfl ic_0 rfl (
      r_istore (L2 := [some (.ref 27), some (gv 0), none, none, none, none, none, none, none]) (pc2 := 2) rfl rfl rfl (
      r_b1 (rl_ca_solveThree_l2 hs d     fz 0 g _ rfl) (fun g23 c h => match c, h with | _, ⟨j21, j22, hj21, hj22, rfl⟩ => (
      r_ic (x := 0) (pc2 := 56) rfl ic_0 rfl (
      r_istore (L2 := [some (.ref 27), some (gv 0), j22, none, none, none, none, none, none]) (pc2 := 57) rfl rfl rfl (
      r_b1 (rl_ca_solveThree_l57 hs d     fz 0 g23 _ _ _ _ rfl) (fun g81 c h => match c, h with | _, ⟨j76, j77, j78, j79, j80, hj76, hj79, rfl⟩ => (
      r_vret rfl rfl))))))))))
theorem rl_ca_solve_l4 {s : gm_S} {n m : Nat} (hs : gm_sh s n m) (d : Nat)  (c1 : Int)  : ∀ (fuel : Nat) (v2 : Int) (v3 : Int) (g4 : gm_T), jr (fun (q : gm_T) (c : Option jm_R) => ∃ (j5 : Option Value) (j6 : Option Value), jm_lg j5 = false ∧ jm_lg j6 = false ∧ c = jm_sup cd_3 (jm_cl jm_CD km_n (d + 5)) (39, [some (.ref 27), some (gv c1), j5, j6], [], gm_h s q)) (ca_solve_l4 n  c1 fuel v2 v3 g4) (jm_sup cd_3 (jm_cl jm_CD km_n (d + 5)) (4, [some (.ref 27), some (gv c1), some (gv v2), some (gv v3)], [], gm_h s g4)) := by
  intro fuel
  induction fuel with
  | zero => intros; exact jr_none
  | succ fuel ih =>
    intro v2 v3 g4  
    unfold ca_solve_l4
    exact (
      r_iload (pc2 := 5) rfl rfl rfl (
      r_ic (x := 3) (pc2 := 6) rfl ic_3 rfl (
      jr_g fun h8 => r_cge (pc2 := 9) (t := 39) rfl h8 (rgk rfl) rfl (fun _ =>
      r_aload (pc2 := 10) rfl rfl rfl (
      r_getA (pc2 := 13) rfl rfl (sh_T hs rfl rfl) (sh_A hs rfl rfl) (
      r_iload (pc2 := 14) rfl rfl rfl (
      r_iload (pc2 := 15) rfl rfl rfl (
      r_b1 (R1 := (fun (q : Int) (c : Option jm_R) => c = jm_sup cd_3 (jm_cl jm_CD km_n (d + 5)) (26, [some (.ref 27), some (gv c1), some (gv v2), some (gv v3)], [gv q, gv v3, .ref 31], gm_h s g4))) (
      jr_g fun h10 => r_ifne (pc2 := 18) (t := 22) rfl h10 rfl (fun _ =>
      r_ic (x := -1) (pc2 := 19) rfl ic_m1 rfl (
      r_goto (t := 26) rfl (
      jr_leaf rfl))) (fun _ =>
      r_iload (pc2 := 23) rfl rfl rfl (
      r_callSP (pc2 := 26) (args := [gv v2]) (st2 := [gv v3, .ref 31]) rfl rfl rfl rfl rfl rfl (rf_jd_numberOfTrailingZeros hs (d + 4) g4 v2 ) fun v11 => (
      jr_leaf rfl)))) (fun v9 c h => match c, h with | _, rfl => (
      jr_g fun h13 => r_iast (len := 3) (pc2 := 27) rfl rfl (sh_T hs rfl rfl) (sh_L hs rfl rfl) rfl h13 fun g12 => (
      r_iload (pc2 := 28) rfl rfl rfl (
      r_iload (pc2 := 29) rfl rfl rfl (
      r_ic (x := 1) (pc2 := 30) rfl ic_1 rfl (
      r_isub (pc2 := 31) rfl rfl (
      r_iand (pc2 := 32) rfl rfl (
      r_istoreL (L3 := fun v14 => [some (.ref 27), some (gv c1), some (gv v14), some (gv v3)]) (pc2 := 33) rfl rfl (fun _ => rfl) fun v14 => (
      r_iinc (kk := 1) (L2 := [some (.ref 27), some (gv c1), some (gv v14), some (gv (v3 + 1))]) (pc2 := 36) rfl ic_1 rfl rfl rfl (
      r_goto (t := 4) rfl (
      ih v14 (v3 + 1) g12)))))))))))))))) (fun _ =>
      jr_leaf ⟨_, _, rfl, rfl, rfl⟩))))
theorem rf_ca_solve {s : gm_S} {n m : Nat} (hs : gm_sh s n m) (d : Nat)  (g : gm_T) (a1 : Int)  : jr (eI s) (ca_solve n g a1) (jm_cl jm_CD km_n (d + 6) 3 [.ref 27, gv a1] (gm_h s g)) := by
  unfold ca_solve
  exact (r_ent (cd := cd_3) (n := 4) (L0 := [some (.ref 27), some (gv a1), none, none]) rfl rfl rfl rfl (
      r_iload (pc2 := 1) rfl rfl rfl (
      r_istore (L2 := [some (.ref 27), some (gv a1), some (gv a1), none]) (pc2 := 2) rfl rfl rfl (
      r_ic (x := 0) (pc2 := 3) rfl ic_0 rfl (
      r_istore (L2 := [some (.ref 27), some (gv a1), some (gv a1), some (gv 0)]) (pc2 := 4) rfl rfl rfl (
      r_b1 (rl_ca_solve_l4 hs d   a1  fz a1 0 g  ) (fun g18 c h => match c, h with | _, ⟨j16, j17, hj16, hj17, rfl⟩ => (
      r_aload (pc2 := 40) rfl rfl rfl (
      r_ic (x := -1) (pc2 := 41) rfl ic_m1 rfl (
      r_putI (pc2 := 44) rfl rfl (sh_T hs rfl rfl) fun g19 => (
      r_aload (pc2 := 45) rfl rfl rfl (
      r_ic (x := 0) (pc2 := 46) rfl ic_0 rfl (
      r_aload (pc2 := 47) rfl rfl rfl (
      r_getA (pc2 := 50) rfl rfl (sh_T hs rfl rfl) (sh_A hs rfl rfl) (
      r_ic (x := 0) (pc2 := 51) rfl ic_0 rfl (
      r_iald (len := 3) (pc2 := 52) rfl rfl (sh_T hs rfl rfl) (sh_L hs rfl rfl) rfl ⟨by decide, by decide⟩ (
      r_aload (pc2 := 53) rfl rfl rfl (
      r_getA (pc2 := 56) rfl rfl (sh_T hs rfl rfl) (sh_A hs rfl rfl) (
      r_ic (x := 1) (pc2 := 57) rfl ic_1 rfl (
      r_iald (len := 3) (pc2 := 58) rfl rfl (sh_T hs rfl rfl) (sh_L hs rfl rfl) rfl ⟨by decide, by decide⟩ (
      r_callVV (pc2 := 61) (args := [.ref 27, gv 0, gv (gm_I g19 31 0), gv (gm_I g19 31 1)]) (st2 := []) rfl rfl rfl rfl rfl rfl (rc_of (sh_T hs rfl rfl)) (rf_ca_list hs (d + 1) g19 0 (gm_I g19 31 0) (gm_I g19 31 1) ) fun g20 => (
      r_aload (pc2 := 62) rfl rfl rfl (
      r_getA (pc2 := 65) rfl rfl (sh_T hs rfl rfl) (sh_A hs rfl rfl) (
      r_ic (x := 2) (pc2 := 66) rfl ic_2 rfl (
      r_iald (len := 3) (pc2 := 67) rfl rfl (sh_T hs rfl rfl) (sh_L hs rfl rfl) rfl ⟨by decide, by decide⟩ (
      r_b1 (R1 := (fun (q : gm_T) (c : Option jm_R) => c = jm_sup cd_3 (jm_cl jm_CD km_n (d + 5)) (115, [some (.ref 27), some (gv a1), j16, j17], [], gm_h s q))) (
      jr_g fun h22 => r_ifge (pc2 := 70) (t := 77) rfl h22 rfl (fun _ =>
      r_aload (pc2 := 71) rfl rfl rfl (
      r_callVV (pc2 := 74) (args := [.ref 27]) (st2 := []) rfl rfl rfl rfl rfl rfl (rc_of (sh_T hs rfl rfl)) (rf_ca_solveTwo hs (d + 2) g20 ) fun g23 => (
      r_goto (t := 115) rfl (
      jr_leaf rfl)))) (fun _ =>
      r_aload (pc2 := 78) rfl rfl rfl (
      r_ic (x := 1) (pc2 := 79) rfl ic_1 rfl (
      r_aload (pc2 := 80) rfl rfl rfl (
      r_getA (pc2 := 83) rfl rfl (sh_T hs rfl rfl) (sh_A hs rfl rfl) (
      r_ic (x := 0) (pc2 := 84) rfl ic_0 rfl (
      r_iald (len := 3) (pc2 := 85) rfl rfl (sh_T hs rfl rfl) (sh_L hs rfl rfl) rfl ⟨by decide, by decide⟩ (
      r_aload (pc2 := 86) rfl rfl rfl (
      r_getA (pc2 := 89) rfl rfl (sh_T hs rfl rfl) (sh_A hs rfl rfl) (
      r_ic (x := 2) (pc2 := 90) rfl ic_2 rfl (
      r_iald (len := 3) (pc2 := 91) rfl rfl (sh_T hs rfl rfl) (sh_L hs rfl rfl) rfl ⟨by decide, by decide⟩ (
      r_callVV (pc2 := 94) (args := [.ref 27, gv 1, gv (gm_I g20 31 0), gv (gm_I g20 31 2)]) (st2 := []) rfl rfl rfl rfl rfl rfl (rc_of (sh_T hs rfl rfl)) (rf_ca_list hs (d + 1) g20 1 (gm_I g20 31 0) (gm_I g20 31 2) ) fun g24 => (
      r_aload (pc2 := 95) rfl rfl rfl (
      r_ic (x := 2) (pc2 := 96) rfl ic_2 rfl (
      r_aload (pc2 := 97) rfl rfl rfl (
      r_getA (pc2 := 100) rfl rfl (sh_T hs rfl rfl) (sh_A hs rfl rfl) (
      r_ic (x := 1) (pc2 := 101) rfl ic_1 rfl (
      r_iald (len := 3) (pc2 := 102) rfl rfl (sh_T hs rfl rfl) (sh_L hs rfl rfl) rfl ⟨by decide, by decide⟩ (
      r_aload (pc2 := 103) rfl rfl rfl (
      r_getA (pc2 := 106) rfl rfl (sh_T hs rfl rfl) (sh_A hs rfl rfl) (
      r_ic (x := 2) (pc2 := 107) rfl ic_2 rfl (
      r_iald (len := 3) (pc2 := 108) rfl rfl (sh_T hs rfl rfl) (sh_L hs rfl rfl) rfl ⟨by decide, by decide⟩ (
      r_callVV (pc2 := 111) (args := [.ref 27, gv 2, gv (gm_I g24 31 1), gv (gm_I g24 31 2)]) (st2 := []) rfl rfl rfl rfl rfl rfl (rc_of (sh_T hs rfl rfl)) (rf_ca_list hs (d + 1) g24 2 (gm_I g24 31 1) (gm_I g24 31 2) ) fun g25 => (
      r_aload (pc2 := 112) rfl rfl rfl (
      r_callVV (pc2 := 115) (args := [.ref 27]) (st2 := []) rfl rfl rfl rfl rfl rfl (rc_of (sh_T hs rfl rfl)) (rf_ca_solveThree hs d g25 ) fun g26 => (
      jr_leaf rfl)))))))))))))))))))))))))) (fun g21 c h => match c, h with | _, rfl => (
      r_aload (pc2 := 116) rfl rfl rfl (
      r_getI (pc2 := 119) rfl rfl (sh_T hs rfl rfl) (
      jr_g fun h27 => r_ifge (pc2 := 122) (t := 124) rfl h27 rfl (fun _ =>
      r_ic (x := 0) (pc2 := 123) rfl ic_0 rfl (
      r_zret rfl (by decide) rfl)) (fun _ =>
      r_aload (pc2 := 125) rfl rfl rfl (
      r_iload (pc2 := 126) rfl rfl rfl (
      r_putI (pc2 := 129) rfl rfl (sh_T hs rfl rfl) fun g28 => (
      r_aload (pc2 := 130) rfl rfl rfl (
      r_aload (pc2 := 131) rfl rfl rfl (
      r_getJ (pc2 := 134) rfl rfl (sh_T hs rfl rfl) (
      r_putJ (pc2 := 137) rfl rfl (sh_T hs rfl rfl) fun g29 => (
      r_aload (pc2 := 138) rfl rfl rfl (
      r_aload (pc2 := 139) rfl rfl rfl (
      r_getJ (pc2 := 142) rfl rfl (sh_T hs rfl rfl) (
      r_putJ (pc2 := 145) rfl rfl (sh_T hs rfl rfl) fun g30 => (
      r_ic (x := 1) (pc2 := 146) rfl ic_1 rfl (
      r_zret rfl (by decide) rfl)))))))))))))))))))))))))))))))))))))))))))
theorem rf_cc_cellY {s : gm_S} {n m : Nat} (hs : gm_sh s n m) (d : Nat)  (g : gm_T) (a0 : Int) (a1 : Int) (a2 : Int)  : jr (pI s g) (cc_cellY g a0 a1 a2) (jm_cl jm_CD km_n (d + 2) 312 [gv a0, gv a1, gv a2] (gm_h s g)) := by
  unfold cc_cellY
  exact (r_ent (cd := cd_312) (n := 3) (L0 := [some (gv a0), some (gv a1), some (gv a2)]) rfl rfl rfl rfl (
      r_iload (pc2 := 1) rfl rfl rfl (
      r_iload (pc2 := 2) rfl rfl rfl (
      r_iload (pc2 := 3) rfl rfl rfl (
      r_callSP (pc2 := 6) (args := [gv a0, gv a1, gv a2]) (st2 := []) rfl rfl rfl rfl rfl rfl (rf_cc_turnedY hs d g a0 a1 a2 ) fun v1 => (
      r_iload (pc2 := 7) rfl rfl rfl (
      r_ic (x := 2) (pc2 := 8) rfl ic_2 rfl (
      jr_g fun h2 => r_ceq (pc2 := 11) (t := 16) rfl h2 (rgk rfl) rfl (fun _ =>
      r_ic (x := 1) (pc2 := 17) rfl ic_1 rfl (
      r_goto (t := 21) rfl (
      r_isub (pc2 := 22) rfl rfl (
      r_iret rfl rfl)))) (fun _ =>
      r_iload (pc2 := 12) rfl rfl rfl (
      r_ic (x := 3) (pc2 := 13) rfl ic_3 rfl (
      r_cne (pc2 := 16) (t := 20) rfl h2 (rgk rfl) rfl (fun _ =>
      r_ic (x := 1) (pc2 := 17) rfl ic_1 rfl (
      r_goto (t := 21) rfl (
      r_isub (pc2 := 22) rfl rfl (
      r_iret rfl rfl)))) (fun _ =>
      r_ic (x := 0) (pc2 := 21) rfl ic_0 rfl (
      r_isub (pc2 := 22) rfl rfl (
      r_iret rfl rfl))))))))))))))
theorem rf_cc_cellX {s : gm_S} {n m : Nat} (hs : gm_sh s n m) (d : Nat)  (g : gm_T) (a0 : Int) (a1 : Int) (a2 : Int)  : jr (pI s g) (cc_cellX g a0 a1 a2) (jm_cl jm_CD km_n (d + 2) 311 [gv a0, gv a1, gv a2] (gm_h s g)) := by
  unfold cc_cellX
  exact (r_ent (cd := cd_311) (n := 3) (L0 := [some (gv a0), some (gv a1), some (gv a2)]) rfl rfl rfl rfl (
      r_iload (pc2 := 1) rfl rfl rfl (
      r_iload (pc2 := 2) rfl rfl rfl (
      r_iload (pc2 := 3) rfl rfl rfl (
      r_callSP (pc2 := 6) (args := [gv a0, gv a1, gv a2]) (st2 := []) rfl rfl rfl rfl rfl rfl (rf_cc_turnedX hs d g a0 a1 a2 ) fun v1 => (
      r_iload (pc2 := 7) rfl rfl rfl (
      r_ic (x := 1) (pc2 := 8) rfl ic_1 rfl (
      jr_g fun h2 => r_ceq (pc2 := 11) (t := 16) rfl h2 (rgk rfl) rfl (fun _ =>
      r_ic (x := 1) (pc2 := 17) rfl ic_1 rfl (
      r_goto (t := 21) rfl (
      r_isub (pc2 := 22) rfl rfl (
      r_iret rfl rfl)))) (fun _ =>
      r_iload (pc2 := 12) rfl rfl rfl (
      r_ic (x := 2) (pc2 := 13) rfl ic_2 rfl (
      r_cne (pc2 := 16) (t := 20) rfl h2 (rgk rfl) rfl (fun _ =>
      r_ic (x := 1) (pc2 := 17) rfl ic_1 rfl (
      r_goto (t := 21) rfl (
      r_isub (pc2 := 22) rfl rfl (
      r_iret rfl rfl)))) (fun _ =>
      r_ic (x := 0) (pc2 := 21) rfl ic_0 rfl (
      r_isub (pc2 := 22) rfl rfl (
      r_iret rfl rfl))))))))))))))
theorem rl_cb_markCell_l2 {s : gm_S} {n m : Nat} (hs : gm_sh s n m) (d : Nat)  (i1 : Nat) (c3 : Int) (c4 : Int) (hi2 : i1 < m) : ∀ (fuel : Nat) (v5 : Int) (g7 : gm_T) (j6 : Option Value) (hj6 : jm_lg j6 = false), jr (fun (q : gm_T) (c : Option jm_R) => ∃ (j8 : Option Value) (j9 : Option Value), jm_lg j8 = false ∧ jm_lg j9 = false ∧ c = jm_sup cd_14 (jm_cl jm_CD km_n (d + 2)) (50, [some (.ref (bA i1)), some (gv c3), some (gv c4), j8, j9], [], gm_h s q)) (cb_markCell_l2  i1 c3 c4 fuel v5 g7) (jm_sup cd_14 (jm_cl jm_CD km_n (d + 2)) (2, [some (.ref (bA i1)), some (gv c3), some (gv c4), some (gv v5), j6], [], gm_h s g7)) := by
  intro fuel
  induction fuel with
  | zero => intros; exact jr_none
  | succ fuel ih =>
    intro v5 g7 j6 hj6
    unfold cb_markCell_l2
    exact (
      r_iload (pc2 := 3) rfl rfl rfl (
      r_ic (x := 4) (pc2 := 4) rfl ic_4 rfl (
      jr_g fun h11 => r_cge (pc2 := 7) (t := 50) rfl h11 (rgk rfl) rfl (fun _ =>
      r_iload (pc2 := 8) rfl rfl rfl (
      r_ic (x := 40) (pc2 := 10) rfl ic_40 rfl (
      r_imul (pc2 := 11) rfl rfl (
      r_ic (x := 20) (pc2 := 13) rfl ic_20 rfl (
      r_iadd (pc2 := 14) rfl rfl (
      r_iload (pc2 := 15) rfl rfl rfl (
      r_iload (pc2 := 16) rfl rfl rfl (
      r_iload (pc2 := 17) rfl rfl rfl (
      r_callSP (pc2 := 20) (args := [gv v5, gv c3, gv c4]) (st2 := [gv ((v5 * 40) + 20)]) rfl rfl rfl rfl rfl rfl (rf_cc_cellY hs d g7 v5 c3 c4 ) fun v12 => (
      r_iadd (pc2 := 21) rfl rfl (
      r_istoreL (L3 := fun v13 => [some (.ref (bA i1)), some (gv c3), some (gv c4), some (gv v5), some (gv v13)]) (pc2 := 23) rfl rfl (fun _ => rfl) fun v13 => (
      r_aload (pc2 := 24) rfl rfl rfl (
      r_getA (pc2 := 27) rfl rfl (sh_b0 hs hi2) (sh_bA hs hi2 rfl rfl) (
      r_iload (pc2 := 29) rfl rfl rfl (
      r_dup2 (pc2 := 30) rfl rfl ⟨rfl, rfl⟩ (
      jr_g fun h14 => r_lald (len := 160) (pc2 := 31) rfl rfl (sh_bT hs hi2 rfl rfl) (sh_bL hs hi2 rfl rfl) rfl h14 (
      r_lc (pc2 := 32) rfl rfl (
      r_ic (x := 20) (pc2 := 34) rfl ic_20 rfl (
      r_iload (pc2 := 35) rfl rfl rfl (
      r_iload (pc2 := 36) rfl rfl rfl (
      r_iload (pc2 := 37) rfl rfl rfl (
      r_callSP (pc2 := 40) (args := [gv v5, gv c3, gv c4]) (st2 := [gv 20, .long 1, .long (gm_J g7 (bA i1 + 1) v13.toNat), gv v13, .ref (bA i1 + 1)]) rfl rfl rfl rfl rfl rfl (rf_cc_cellX hs d g7 v5 c3 c4 ) fun v15 => (
      r_iadd (pc2 := 41) rfl rfl (
      r_lshl (pc2 := 42) rfl rfl (
      r_lor (pc2 := 43) rfl rfl (
      r_last (len := 160) (pc2 := 44) rfl rfl (sh_bT hs hi2 rfl rfl) (sh_bL hs hi2 rfl rfl) rfl h14 fun g16 => (
      r_iinc (kk := 1) (L2 := [some (.ref (bA i1)), some (gv c3), some (gv c4), some (gv (v5 + 1)), some (gv v13)]) (pc2 := 47) rfl ic_1 rfl rfl rfl (
      r_goto (t := 2) rfl (
      ih (v5 + 1) g16 _ rfl))))))))))))))))))))))))))))) (fun _ =>
      jr_leaf ⟨_, _, rfl, hj6, rfl⟩))))
theorem rf_cb_markCell {s : gm_S} {n m : Nat} (hs : gm_sh s n m) (d : Nat)  (g : gm_T) (i0 : Nat) (a1 : Int) (a2 : Int) (hi0 : i0 < m) : jr (eV s) (cb_markCell g i0 a1 a2) (jm_cl jm_CD km_n (d + 3) 14 [.ref (bA i0), gv a1, gv a2] (gm_h s g)) := by
  unfold cb_markCell
  exact (r_ent (cd := cd_14) (n := 5) (L0 := [some (.ref (bA i0)), some (gv a1), some (gv a2), none, none]) rfl rfl rfl rfl (
      r_ic (x := 0) (pc2 := 1) rfl ic_0 rfl (
      r_istore (L2 := [some (.ref (bA i0)), some (gv a1), some (gv a2), some (gv 0), none]) (pc2 := 2) rfl rfl rfl (
      r_b1 (rl_cb_markCell_l2 hs d   i0 a1 a2 hi0 fz 0 g _ rfl) (fun g20 c h => match c, h with | _, ⟨j18, j19, hj18, hj19, rfl⟩ => (
      r_vret rfl rfl))))))
theorem rf_cb_hasCell {s : gm_S} {n m : Nat} (hs : gm_sh s n m) (d : Nat)  (g : gm_T) (i0 : Nat) (a1 : Int) (a2 : Int64) (a4 : Int64) (hi0 : i0 < m) : jr (pI s g) (cb_hasCell g i0 a1 a2 a4) (jm_cl jm_CD km_n (d + 1) 17 [.ref (bA i0), gv a1, .long a2, .long a4] (gm_h s g)) := by
  unfold cb_hasCell
  exact (r_ent (cd := cd_17) (n := 6) (L0 := [some (.ref (bA i0)), some (gv a1), some (.long a2), none, some (.long a4), none]) rfl rfl rfl rfl (
      r_lload (pc2 := 1) rfl rfl rfl (
      r_lc (pc2 := 4) rfl rfl (
      r_lcmp (pc2 := 5) rfl rfl (
      r_iflt (pc2 := 8) (t := 34) rfl (rg_toInt _) rfl (fun _ =>
      r_ic (x := 0) (pc2 := 35) rfl ic_0 rfl (
      r_zret rfl (by decide) rfl)) (fun _ =>
      r_lload (pc2 := 9) rfl rfl rfl (
      r_lc (pc2 := 12) rfl rfl (
      r_lcmp (pc2 := 13) rfl rfl (
      r_ifge (pc2 := 16) (t := 34) rfl (rg_toInt _) rfl (fun _ =>
      r_lload (pc2 := 18) rfl rfl rfl (
      r_lc (pc2 := 21) rfl rfl (
      r_lcmp (pc2 := 22) rfl rfl (
      r_iflt (pc2 := 25) (t := 34) rfl (rg_toInt _) rfl (fun _ =>
      r_ic (x := 0) (pc2 := 35) rfl ic_0 rfl (
      r_zret rfl (by decide) rfl)) (fun _ =>
      r_lload (pc2 := 27) rfl rfl rfl (
      r_lc (pc2 := 30) rfl rfl (
      r_lcmp (pc2 := 31) rfl rfl (
      r_iflt (pc2 := 34) (t := 36) rfl (rg_toInt _) rfl (fun _ =>
      r_aload (pc2 := 37) rfl rfl rfl (
      r_getA (pc2 := 40) rfl rfl (sh_b0 hs hi0) (sh_bA hs hi0 rfl rfl) (
      r_iload (pc2 := 41) rfl rfl rfl (
      r_ic (x := 40) (pc2 := 43) rfl ic_40 rfl (
      r_imul (pc2 := 44) rfl rfl (
      r_ic (x := 20) (pc2 := 46) rfl ic_20 rfl (
      r_iadd (pc2 := 47) rfl rfl (
      r_lload (pc2 := 49) rfl rfl rfl (
      r_l2i (pc2 := 50) rfl rfl (
      r_iadd (pc2 := 51) rfl rfl (
      jr_g fun h1 => r_lald (len := 160) (pc2 := 52) rfl rfl (sh_bT hs hi0 rfl rfl) (sh_bL hs hi0 rfl rfl) rfl h1 (
      r_ic (x := 20) (pc2 := 54) rfl ic_20 rfl (
      r_lload (pc2 := 55) rfl rfl rfl (
      r_l2i (pc2 := 56) rfl rfl (
      r_iadd (pc2 := 57) rfl rfl (
      r_lshr (pc2 := 58) rfl rfl (
      r_lc (pc2 := 59) rfl rfl (
      r_land (pc2 := 60) rfl rfl (
      r_lc (pc2 := 61) rfl rfl (
      r_lcmp (pc2 := 62) rfl rfl (
      r_ifeq (pc2 := 65) (t := 69) rfl (rg_toInt _) rfl (fun _ =>
      r_ic (x := 0) (pc2 := 70) rfl ic_0 rfl (
      r_zret rfl (by decide) rfl)) (fun _ =>
      r_ic (x := 1) (pc2 := 66) rfl ic_1 rfl (
      r_goto (t := 70) rfl (
      r_zret rfl (by decide) rfl)))))))))))))))))))))))) (fun _ =>
      r_ic (x := 0) (pc2 := 35) rfl ic_0 rfl (
      r_zret rfl (by decide) rfl)))))))))) (fun _ =>
      r_ic (x := 0) (pc2 := 35) rfl ic_0 rfl (
      r_zret rfl (by decide) rfl)))))))))))
theorem rf_cx_isFull {s : gm_S} {n m : Nat} (hs : gm_sh s n m) (d : Nat)  (g : gm_T)   : jr (pI s g) (cx_isFull g ) (jm_cl jm_CD km_n (d + 1) 20 [.ref 32] (gm_h s g)) := by
  unfold cx_isFull
  exact (r_ent (cd := cd_20) (n := 1) (L0 := [some (.ref 32)]) rfl rfl rfl rfl (
      r_aload (pc2 := 1) rfl rfl rfl (
      r_getI (pc2 := 4) rfl rfl (sh_T hs rfl rfl) (
      r_ic (x := 100) (pc2 := 6) rfl ic_100 rfl (
      jr_g fun h1 => r_clt (pc2 := 9) (t := 13) rfl h1 (rgk rfl) rfl (fun _ =>
      r_ic (x := 0) (pc2 := 14) rfl ic_0 rfl (
      r_zret rfl (by decide) rfl)) (fun _ =>
      r_ic (x := 1) (pc2 := 10) rfl ic_1 rfl (
      r_goto (t := 14) rfl (
      r_zret rfl (by decide) rfl))))))))
theorem rf_cx_addEntry {s : gm_S} {n m : Nat} (hs : gm_sh s n m) (d : Nat)  (g : gm_T) (a1 : Int) (a2 : Int) (a3 : Int)  : jr (eI s) (cx_addEntry g a1 a2 a3) (jm_cl jm_CD km_n (d + 2) 21 [.ref 32, gv a1, gv a2, gv a3] (gm_h s g)) := by
  unfold cx_addEntry
  exact (r_ent (cd := cd_21) (n := 4) (L0 := [some (.ref 32), some (gv a1), some (gv a2), some (gv a3)]) rfl rfl rfl rfl (
      r_aload (pc2 := 1) rfl rfl rfl (
      r_callVP (pc2 := 4) (args := [.ref 32]) (st2 := []) rfl rfl rfl rfl rfl rfl (rc_of (sh_T hs rfl rfl)) (rf_cx_isFull hs d g ) fun v1 => (
      jr_g fun h2 => r_ifne (pc2 := 7) (t := 47) rfl h2 rfl (fun _ =>
      r_aload (pc2 := 8) rfl rfl rfl (
      r_getA (pc2 := 11) rfl rfl (sh_T hs rfl rfl) (sh_A hs rfl rfl) (
      r_aload (pc2 := 12) rfl rfl rfl (
      r_getI (pc2 := 15) rfl rfl (sh_T hs rfl rfl) (
      r_iload (pc2 := 16) rfl rfl rfl (
      jr_g fun h4 => r_iast (len := 100) (pc2 := 17) rfl rfl (sh_T hs rfl rfl) (sh_L hs rfl rfl) rfl h4 fun g3 => (
      r_aload (pc2 := 18) rfl rfl rfl (
      r_getA (pc2 := 21) rfl rfl (sh_T hs rfl rfl) (sh_A hs rfl rfl) (
      r_aload (pc2 := 22) rfl rfl rfl (
      r_getI (pc2 := 25) rfl rfl (sh_T hs rfl rfl) (
      r_iload (pc2 := 26) rfl rfl rfl (
      jr_g fun h6 => r_iast (len := 100) (pc2 := 27) rfl rfl (sh_T hs rfl rfl) (sh_L hs rfl rfl) rfl h6 fun g5 => (
      r_aload (pc2 := 28) rfl rfl rfl (
      r_getA (pc2 := 31) rfl rfl (sh_T hs rfl rfl) (sh_A hs rfl rfl) (
      r_aload (pc2 := 32) rfl rfl rfl (
      r_getI (pc2 := 35) rfl rfl (sh_T hs rfl rfl) (
      r_iload (pc2 := 36) rfl rfl rfl (
      jr_g fun h8 => r_iast (len := 100) (pc2 := 37) rfl rfl (sh_T hs rfl rfl) (sh_L hs rfl rfl) rfl h8 fun g7 => (
      r_aload (pc2 := 38) rfl rfl rfl (
      r_dup (pc2 := 39) rfl rfl rfl (
      r_getI (pc2 := 42) rfl rfl (sh_T hs rfl rfl) (
      r_ic (x := 1) (pc2 := 43) rfl ic_1 rfl (
      r_iadd (pc2 := 44) rfl rfl (
      r_putI (pc2 := 47) rfl rfl (sh_T hs rfl rfl) fun g9 => (
      r_aload (pc2 := 48) rfl rfl rfl (
      r_getI (pc2 := 51) rfl rfl (sh_T hs rfl rfl) (
      r_iret rfl rfl))))))))))))))))))))))))))) (fun _ =>
      r_aload (pc2 := 48) rfl rfl rfl (
      r_getI (pc2 := 51) rfl rfl (sh_T hs rfl rfl) (
      r_iret rfl rfl)))))))
theorem rl_cx_boxOf_l9 {s : gm_S} {n m : Nat} (hs : gm_sh s n m) (d : Nat)  (g : gm_T) (c1 : Int) (c2 : Int) (c3 : Int)  : ∀ (fuel : Nat) (v4 : Int) (v5 : Int) (v6 : Int), jr (fun (q : Int) (c : Option jm_R) => ∃ (j8 : Option Value) (j9 : Option Value), jm_lg j8 = false ∧ jm_lg j9 = false ∧ c = jm_sup cd_22 (jm_cl jm_CD km_n d) (82, [some (.ref 32), some (gv c1), some (gv c2), some (gv c3), some (gv q), j8, j9], [], gm_h s g)) (cx_boxOf_l9 g c1 c2 c3 fuel v4 v5 v6) (jm_sup cd_22 (jm_cl jm_CD km_n d) (9, [some (.ref 32), some (gv c1), some (gv c2), some (gv c3), some (gv v4), some (gv v5), some (gv v6)], [], gm_h s g)) := by
  intro fuel
  induction fuel with
  | zero => intros; exact jr_none
  | succ fuel ih =>
    intro v4 v5 v6  
    unfold cx_boxOf_l9
    exact (
      r_iload (pc2 := 11) rfl rfl rfl (
      r_iload (pc2 := 12) rfl rfl rfl (
      jr_g fun h10 => r_cge (pc2 := 15) (t := 82) rfl h10.1 h10.2 rfl (fun _ =>
      r_iload (pc2 := 17) rfl rfl rfl (
      r_aload (pc2 := 18) rfl rfl rfl (
      r_getI (pc2 := 21) rfl rfl (sh_T hs rfl rfl) (
      jr_g fun h11 => r_cge (pc2 := 24) (t := 82) rfl h10.1 h11 rfl (fun _ =>
      r_aload (pc2 := 25) rfl rfl rfl (
      r_getA (pc2 := 28) rfl rfl (sh_T hs rfl rfl) (sh_A hs rfl rfl) (
      r_iload (pc2 := 30) rfl rfl rfl (
      jr_g fun h12 => r_iald (len := 100) (pc2 := 31) rfl rfl (sh_T hs rfl rfl) (sh_L hs rfl rfl) rfl h12 (
      r_iload (pc2 := 32) rfl rfl rfl (
      jr_g fun h13 => r_cne (pc2 := 35) (t := 76) rfl h13.1 h13.2 rfl (fun _ =>
      r_aload (pc2 := 36) rfl rfl rfl (
      r_getA (pc2 := 39) rfl rfl (sh_T hs rfl rfl) (sh_A hs rfl rfl) (
      r_iload (pc2 := 41) rfl rfl rfl (
      r_iald (len := 100) (pc2 := 42) rfl rfl (sh_T hs rfl rfl) (sh_L hs rfl rfl) rfl h12 (
      r_iload (pc2 := 43) rfl rfl rfl (
      jr_g fun h14 => r_cgt (pc2 := 46) (t := 76) rfl h14.1 h14.2 rfl (fun _ =>
      r_aload (pc2 := 47) rfl rfl rfl (
      r_getA (pc2 := 50) rfl rfl (sh_T hs rfl rfl) (sh_A hs rfl rfl) (
      r_iload (pc2 := 52) rfl rfl rfl (
      r_iald (len := 100) (pc2 := 53) rfl rfl (sh_T hs rfl rfl) (sh_L hs rfl rfl) rfl h12 (
      r_iload (pc2 := 55) rfl rfl rfl (
      jr_g fun h15 => r_clt (pc2 := 58) (t := 76) rfl h14.1 h15 rfl (fun _ =>
      r_iinc (kk := 1) (L2 := [some (.ref 32), some (gv c1), some (gv c2), some (gv c3), some (gv v4), some (gv v5), some (gv (v6 + 1))]) (pc2 := 79) rfl ic_1 rfl rfl rfl (
      r_goto (t := 9) rfl (
      ih v4 v5 (v6 + 1)))) (fun _ =>
      r_aload (pc2 := 59) rfl rfl rfl (
      r_getA (pc2 := 62) rfl rfl (sh_T hs rfl rfl) (sh_A hs rfl rfl) (
      r_iload (pc2 := 64) rfl rfl rfl (
      r_iald (len := 100) (pc2 := 65) rfl rfl (sh_T hs rfl rfl) (sh_L hs rfl rfl) rfl h12 (
      r_istoreL (L3 := fun v17 => [some (.ref 32), some (gv c1), some (gv c2), some (gv c3), some (gv v4), some (gv v17), some (gv v6)]) (pc2 := 67) rfl rfl (fun _ => rfl) fun v17 => (
      r_aload (pc2 := 68) rfl rfl rfl (
      r_getA (pc2 := 71) rfl rfl (sh_T hs rfl rfl) (sh_A hs rfl rfl) (
      r_iload (pc2 := 73) rfl rfl rfl (
      r_iald (len := 100) (pc2 := 74) rfl rfl (sh_T hs rfl rfl) (sh_L hs rfl rfl) rfl h12 (
      r_istoreL (L3 := fun v18 => [some (.ref 32), some (gv c1), some (gv c2), some (gv c3), some (gv v18), some (gv v17), some (gv v6)]) (pc2 := 76) rfl rfl (fun _ => rfl) fun v18 => (
      r_iinc (kk := 1) (L2 := [some (.ref 32), some (gv c1), some (gv c2), some (gv c3), some (gv v18), some (gv v17), some (gv (v6 + 1))]) (pc2 := 79) rfl ic_1 rfl rfl rfl (
      r_goto (t := 9) rfl (
      ih v18 v17 (v6 + 1)))))))))))))))))))) (fun _ =>
      r_iinc (kk := 1) (L2 := [some (.ref 32), some (gv c1), some (gv c2), some (gv c3), some (gv v4), some (gv v5), some (gv (v6 + 1))]) (pc2 := 79) rfl ic_1 rfl rfl rfl (
      r_goto (t := 9) rfl (
      ih v4 v5 (v6 + 1)))))))))) (fun _ =>
      r_iinc (kk := 1) (L2 := [some (.ref 32), some (gv c1), some (gv c2), some (gv c3), some (gv v4), some (gv v5), some (gv (v6 + 1))]) (pc2 := 79) rfl ic_1 rfl rfl rfl (
      r_goto (t := 9) rfl (
      ih v4 v5 (v6 + 1)))))))))) (fun _ =>
      jr_leaf ⟨_, _, rfl, rfl, rfl⟩))))) (fun _ =>
      jr_leaf ⟨_, _, rfl, rfl, rfl⟩))))
theorem rf_cx_boxOf {s : gm_S} {n m : Nat} (hs : gm_sh s n m) (d : Nat)  (g : gm_T) (a1 : Int) (a2 : Int) (a3 : Int)  : jr (pI s g) (cx_boxOf g a1 a2 a3) (jm_cl jm_CD km_n (d + 1) 22 [.ref 32, gv a1, gv a2, gv a3] (gm_h s g)) := by
  unfold cx_boxOf
  exact (r_ent (cd := cd_22) (n := 7) (L0 := [some (.ref 32), some (gv a1), some (gv a2), some (gv a3), none, none, none]) rfl rfl rfl rfl (
      r_ic (x := -1) (pc2 := 1) rfl ic_m1 rfl (
      r_istore (L2 := [some (.ref 32), some (gv a1), some (gv a2), some (gv a3), some (gv (-1)), none, none]) (pc2 := 3) rfl rfl rfl (
      r_ic (x := -1) (pc2 := 4) rfl ic_m1 rfl (
      r_istore (L2 := [some (.ref 32), some (gv a1), some (gv a2), some (gv a3), some (gv (-1)), some (gv (-1)), none]) (pc2 := 6) rfl rfl rfl (
      r_ic (x := 0) (pc2 := 7) rfl ic_0 rfl (
      r_istore (L2 := [some (.ref 32), some (gv a1), some (gv a2), some (gv a3), some (gv (-1)), some (gv (-1)), some (gv 0)]) (pc2 := 9) rfl rfl rfl (
      r_b1 (rl_cx_boxOf_l9 hs d  g a1 a2 a3  fz (-1) (-1) 0  ) (fun v22 c h => match c, h with | _, ⟨j23, j24, hj23, hj24, rfl⟩ => (
      r_iload (pc2 := 84) rfl rfl rfl (
      r_iret rfl rfl)))))))))))
theorem rf_cx_boxNow {s : gm_S} {n m : Nat} (hs : gm_sh s n m) (d : Nat)  (g : gm_T) (a1 : Int)  : jr (pI s g) (cx_boxNow g a1) (jm_cl jm_CD km_n (d + 2) 23 [.ref 32, gv a1] (gm_h s g)) := by
  unfold cx_boxNow
  exact (r_ent (cd := cd_23) (n := 2) (L0 := [some (.ref 32), some (gv a1)]) rfl rfl rfl rfl (
      r_aload (pc2 := 1) rfl rfl rfl (
      r_iload (pc2 := 2) rfl rfl rfl (
      r_ic (x := 999) (pc2 := 5) rfl ic_999 rfl (
      r_aload (pc2 := 6) rfl rfl rfl (
      r_getI (pc2 := 9) rfl rfl (sh_T hs rfl rfl) (
      r_callVP (pc2 := 12) (args := [.ref 32, gv a1, gv 999, gv (gm_I g 32 0)]) (st2 := []) rfl rfl rfl rfl rfl rfl (rc_of (sh_T hs rfl rfl)) (rf_cx_boxOf hs d g a1 999 (gm_I g 32 0) ) fun v1 => (
      r_iret rfl rfl))))))))
theorem rl_cx_weigh_l2 {s : gm_S} {n m : Nat} (hs : gm_sh s n m) (d : Nat)    : ∀ (fuel : Nat) (v1 : Int) (g2 : gm_T), jr (fun (q : gm_T) (c : Option jm_R) => ∃ (j3 : Option Value), jm_lg j3 = false ∧ c = jm_sup cd_25 (jm_cl jm_CD km_n (d + 2)) (21, [some (.ref 32), some (.ref 10), j3, none, none], [], gm_h s q)) (cx_weigh_l2 n   fuel v1 g2) (jm_sup cd_25 (jm_cl jm_CD km_n (d + 2)) (2, [some (.ref 32), some (.ref 10), some (gv v1), none, none], [], gm_h s g2)) := by
  intro fuel
  induction fuel with
  | zero => intros; exact jr_none
  | succ fuel ih =>
    intro v1 g2  
    unfold cx_weigh_l2
    exact (
      r_iload (pc2 := 3) rfl rfl rfl (
      r_ic (x := 60) (pc2 := 5) rfl ic_60 rfl (
      jr_g fun h5 => r_cge (pc2 := 8) (t := 21) rfl h5 (rgk rfl) rfl (fun _ =>
      r_aload (pc2 := 9) rfl rfl rfl (
      r_getA (pc2 := 12) rfl rfl (sh_T hs rfl rfl) (sh_A hs rfl rfl) (
      r_iload (pc2 := 13) rfl rfl rfl (
      r_ic (x := 0) (pc2 := 14) rfl ic_0 rfl (
      jr_g fun h7 => r_iast (len := 60) (pc2 := 15) rfl rfl (sh_T hs rfl rfl) (sh_L hs rfl rfl) rfl h7 fun g6 => (
      r_iinc (kk := 1) (L2 := [some (.ref 32), some (.ref 10), some (gv (v1 + 1)), none, none]) (pc2 := 18) rfl ic_1 rfl rfl rfl (
      r_goto (t := 2) rfl (
      ih (v1 + 1) g6)))))))) (fun _ =>
      jr_leaf ⟨_, rfl, rfl⟩))))
theorem rl_cx_weigh_l40 {s : gm_S} {n m : Nat} (hs : gm_sh s n m) (d : Nat)  (c21 : Int) (c22 : Int)  : ∀ (fuel : Nat) (v23 : Int) (g24 : gm_T), jr (fun (q : gm_T) (c : Option jm_R) => ∃ (j25 : Option Value), jm_lg j25 = false ∧ c = jm_sup cd_25 (jm_cl jm_CD km_n (d + 2)) (92, [some (.ref 32), some (.ref 10), some (gv c21), some (gv c22), j25], [], gm_h s q)) (cx_weigh_l40 n  c21 c22 fuel v23 g24) (jm_sup cd_25 (jm_cl jm_CD km_n (d + 2)) (40, [some (.ref 32), some (.ref 10), some (gv c21), some (gv c22), some (gv v23)], [], gm_h s g24)) := by
  intro fuel
  induction fuel with
  | zero => intros; exact jr_none
  | succ fuel ih =>
    intro v23 g24  
    unfold cx_weigh_l40
    exact (
      r_iload (pc2 := 41) rfl rfl rfl (
      jr_g fun h27 => r_iflt (pc2 := 44) (t := 92) rfl h27 rfl (fun _ =>
      jr_leaf ⟨_, rfl, rfl⟩) (fun _ =>
      r_iload (pc2 := 46) rfl rfl rfl (
      r_ic (x := 6) (pc2 := 48) rfl ic_6 rfl (
      jr_g fun h28 => r_cge (pc2 := 51) (t := 92) rfl h28 (rgk rfl) rfl (fun _ =>
      r_aload (pc2 := 52) rfl rfl rfl (
      r_getA (pc2 := 55) rfl rfl (sh_T hs rfl rfl) (sh_A hs rfl rfl) (
      r_iload (pc2 := 57) rfl rfl rfl (
      r_ic (x := 10) (pc2 := 59) rfl ic_10 rfl (
      r_imul (pc2 := 60) rfl rfl (
      r_iload (pc2 := 61) rfl rfl rfl (
      r_iadd (pc2 := 62) rfl rfl (
      r_dup2 (pc2 := 63) rfl rfl ⟨rfl, rfl⟩ (
      jr_g fun h29 => r_iald (len := 60) (pc2 := 64) rfl rfl (sh_T hs rfl rfl) (sh_L hs rfl rfl) rfl h29 (
      r_aload (pc2 := 65) rfl rfl rfl (
      r_getA (pc2 := 68) rfl rfl (sh_T hs rfl rfl) (sh_A hs rfl rfl) (
      r_ic (x := 10) (pc2 := 70) rfl ic_10 rfl (
      r_iload (pc2 := 72) rfl rfl rfl (
      r_imul (pc2 := 73) rfl rfl (
      r_aload (pc2 := 74) rfl rfl rfl (
      r_getA (pc2 := 77) rfl rfl (sh_T hs rfl rfl) (sh_A hs rfl rfl) (
      r_iload (pc2 := 78) rfl rfl rfl (
      jr_g fun h30 => r_aald (pc2 := 79) rfl rfl hs h30 (
      r_getI (pc2 := 82) rfl rfl (sh_b0 hs (bn_lt hs h30)) (
      r_iadd (pc2 := 83) rfl rfl (
      jr_g fun h31 => r_iald (len := 60) (pc2 := 84) rfl rfl (sh_T hs rfl rfl) (sh_L hs rfl rfl) rfl h31 (
      r_iadd (pc2 := 85) rfl rfl (
      r_iast (len := 60) (pc2 := 86) rfl rfl (sh_T hs rfl rfl) (sh_L hs rfl rfl) rfl h29 fun g32 => (
      r_iinc (kk := 1) (L2 := [some (.ref 32), some (.ref 10), some (gv c21), some (gv c22), some (gv (v23 + 1))]) (pc2 := 89) rfl ic_1 rfl rfl rfl (
      r_goto (t := 40) rfl (
      ih (v23 + 1) g32)))))))))))))))))))))))))) (fun _ =>
      jr_leaf ⟨_, rfl, rfl⟩))))))
theorem rl_cx_weigh_l23 {s : gm_S} {n m : Nat} (hs : gm_sh s n m) (d : Nat)    : ∀ (fuel : Nat) (v11 : Int) (g14 : gm_T) (j12 : Option Value) (j13 : Option Value) (hj12 : jm_lg j12 = false) (hj13 : jm_lg j13 = false), jr (fun (q : gm_T) (c : Option jm_R) => ∃ (j15 : Option Value) (j16 : Option Value) (j17 : Option Value), jm_lg j15 = false ∧ jm_lg j16 = false ∧ jm_lg j17 = false ∧ c = jm_sup cd_25 (jm_cl jm_CD km_n (d + 2)) (98, [some (.ref 32), some (.ref 10), j15, j16, j17], [], gm_h s q)) (cx_weigh_l23 n   fuel v11 g14) (jm_sup cd_25 (jm_cl jm_CD km_n (d + 2)) (23, [some (.ref 32), some (.ref 10), some (gv v11), j12, j13], [], gm_h s g14)) := by
  intro fuel
  induction fuel with
  | zero => intros; exact jr_none
  | succ fuel ih =>
    intro v11 g14 j12 j13 hj12 hj13
    unfold cx_weigh_l23
    exact (
      r_iload (pc2 := 24) rfl rfl rfl (
      r_aload (pc2 := 25) rfl rfl rfl (
      r_getI (pc2 := 28) rfl rfl (sh_T hs rfl rfl) (
      jr_g fun h19 => r_cge (pc2 := 31) (t := 98) rfl h19.1 h19.2 rfl (fun _ =>
      r_aload (pc2 := 32) rfl rfl rfl (
      r_iload (pc2 := 33) rfl rfl rfl (
      r_callVP (pc2 := 36) (args := [.ref 32, gv v11]) (st2 := []) rfl rfl rfl rfl rfl rfl (rc_of (sh_T hs rfl rfl)) (rf_cx_boxNow hs d g14 v11 ) fun v20 => (
      r_istore (L2 := [some (.ref 32), some (.ref 10), some (gv v11), some (gv v20), j13]) (pc2 := 37) rfl rfl rfl (
      r_ic (x := 0) (pc2 := 38) rfl ic_0 rfl (
      r_istore (L2 := [some (.ref 32), some (.ref 10), some (gv v11), some (gv v20), some (gv 0)]) (pc2 := 40) rfl rfl rfl (
      r_b1 (rl_cx_weigh_l40 hs d   v11 v20  fz 0 g14  ) (fun g35 c h => match c, h with | _, ⟨j34, hj34, rfl⟩ => (
      r_iinc (kk := 1) (L2 := [some (.ref 32), some (.ref 10), some (gv (v11 + 1)), some (gv v20), j34]) (pc2 := 95) rfl ic_1 rfl rfl rfl (
      r_goto (t := 23) rfl (
      ih (v11 + 1) g35 _ _ rfl hj34))))))))))) (fun _ =>
      jr_leaf ⟨_, _, _, rfl, hj12, hj13, rfl⟩)))))
theorem rf_cx_weigh {s : gm_S} {n m : Nat} (hs : gm_sh s n m) (d : Nat)  (g : gm_T)   : jr (eV s) (cx_weigh n g ) (jm_cl jm_CD km_n (d + 3) 25 [.ref 32, .ref 10] (gm_h s g)) := by
  unfold cx_weigh
  exact (r_ent (cd := cd_25) (n := 5) (L0 := [some (.ref 32), some (.ref 10), none, none, none]) rfl rfl rfl rfl (
      r_ic (x := 0) (pc2 := 1) rfl ic_0 rfl (
      r_istore (L2 := [some (.ref 32), some (.ref 10), some (gv 0), none, none]) (pc2 := 2) rfl rfl rfl (
      r_b1 (rl_cx_weigh_l2 hs d     fz 0 g  ) (fun g10 c h => match c, h with | _, ⟨j9, hj9, rfl⟩ => (
      r_ic (x := 0) (pc2 := 22) rfl ic_0 rfl (
      r_istore (L2 := [some (.ref 32), some (.ref 10), some (gv 0), none, none]) (pc2 := 23) rfl rfl rfl (
      r_b1 (rl_cx_weigh_l23 hs d     fz 0 g10 _ _ rfl rfl) (fun g40 c h => match c, h with | _, ⟨j37, j38, j39, hj37, hj38, hj39, rfl⟩ => (
      r_vret rfl rfl))))))))))
theorem rf_cx_worthWith {s : gm_S} {n m : Nat} (hs : gm_sh s n m) (d : Nat)  (g : gm_T) (a1 : Int) (a2 : Int) (a3 : Int)  : jr (pI s g) (cx_worthWith g a1 a2 a3) (jm_cl jm_CD km_n (d + 1) 27 [.ref 32, gv a1, gv a2, gv a3] (gm_h s g)) := by
  unfold cx_worthWith
  exact (r_ent (cd := cd_27) (n := 4) (L0 := [some (.ref 32), some (gv a1), some (gv a2), some (gv a3)]) rfl rfl rfl rfl (
      r_aload (pc2 := 1) rfl rfl rfl (
      r_getA (pc2 := 4) rfl rfl (sh_T hs rfl rfl) (sh_A hs rfl rfl) (
      r_iload (pc2 := 5) rfl rfl rfl (
      r_ic (x := 10) (pc2 := 7) rfl ic_10 rfl (
      r_imul (pc2 := 8) rfl rfl (
      r_iload (pc2 := 9) rfl rfl rfl (
      r_iadd (pc2 := 10) rfl rfl (
      jr_g fun h1 => r_iald (len := 60) (pc2 := 11) rfl rfl (sh_T hs rfl rfl) (sh_L hs rfl rfl) rfl h1 (
      r_aload (pc2 := 12) rfl rfl rfl (
      r_getA (pc2 := 15) rfl rfl (sh_T hs rfl rfl) (sh_A hs rfl rfl) (
      r_iload (pc2 := 16) rfl rfl rfl (
      r_ic (x := 1) (pc2 := 17) rfl ic_1 rfl (
      r_iadd (pc2 := 18) rfl rfl (
      r_ic (x := 1024) (pc2 := 21) rfl ic_1024 rfl (
      r_imul (pc2 := 22) rfl rfl (
      r_iload (pc2 := 23) rfl rfl rfl (
      r_ic (x := 1) (pc2 := 24) rfl ic_1 rfl (
      r_iload (pc2 := 25) rfl rfl rfl (
      r_ishl (pc2 := 26) rfl rfl (
      r_ior (pc2 := 27) rfl rfl (
      r_iadd (pc2 := 28) rfl rfl (
      jr_g fun h2 => r_iald (len := 7168) (pc2 := 29) rfl rfl (sh_T hs rfl rfl) (sh_L hs rfl rfl) rfl h2 (
      r_iadd (pc2 := 30) rfl rfl (
      r_iret rfl rfl)))))))))))))))))))))))))
theorem rl_cx_mostFor_l18 {s : gm_S} {n m : Nat} (hs : gm_sh s n m) (d : Nat)  (g : gm_T) (c3 : Int) (c4 : Int)  : ∀ (fuel : Nat) (v5 : Int) (v6 : Int), jr (fun (q : Int) (c : Option jm_R) => ∃ (j8 : Option Value), jm_lg j8 = false ∧ c = jm_sup cd_26 (jm_cl jm_CD km_n (d + 1)) (53, [some (.ref 32), some (gv c3), some (gv c4), some (gv q), j8], [], gm_h s g)) (cx_mostFor_l18 g c3 c4 fuel v5 v6) (jm_sup cd_26 (jm_cl jm_CD km_n (d + 1)) (18, [some (.ref 32), some (gv c3), some (gv c4), some (gv v5), some (gv v6)], [], gm_h s g)) := by
  intro fuel
  induction fuel with
  | zero => intros; exact jr_none
  | succ fuel ih =>
    intro v5 v6  
    unfold cx_mostFor_l18
    exact (
      r_iload (pc2 := 20) rfl rfl rfl (
      r_ic (x := 10) (pc2 := 22) rfl ic_10 rfl (
      jr_g fun h9 => r_cge (pc2 := 25) (t := 53) rfl h9 (rgk rfl) rfl (fun _ =>
      r_iload (pc2 := 26) rfl rfl rfl (
      r_iload (pc2 := 28) rfl rfl rfl (
      r_ishr (pc2 := 29) rfl rfl (
      r_ic (x := 1) (pc2 := 30) rfl ic_1 rfl (
      r_iand (pc2 := 31) rfl rfl (
      r_ifne (pc2 := 34) (t := 47) rfl (rg_toInt _) rfl (fun _ =>
      r_iload (pc2 := 35) rfl rfl rfl (
      r_aload (pc2 := 36) rfl rfl rfl (
      r_iload (pc2 := 37) rfl rfl rfl (
      r_iload (pc2 := 39) rfl rfl rfl (
      r_iload (pc2 := 40) rfl rfl rfl (
      r_callVP (pc2 := 43) (args := [.ref 32, gv c3, gv v6, gv c4]) (st2 := [gv v5]) rfl rfl rfl rfl rfl rfl (rc_of (sh_T hs rfl rfl)) (rf_cx_worthWith hs d g c3 v6 c4 ) fun v10 => (
      jr_g fun h11 => r_mmax (pc2 := 46) rfl rfl rfl h11.1 h11.2 (
      r_istoreL (L3 := fun v12 => [some (.ref 32), some (gv c3), some (gv c4), some (gv v12), some (gv v6)]) (pc2 := 47) rfl rfl (fun _ => rfl) fun v12 => (
      r_iinc (kk := 1) (L2 := [some (.ref 32), some (gv c3), some (gv c4), some (gv v12), some (gv (v6 + 1))]) (pc2 := 50) rfl ic_1 rfl rfl rfl (
      r_goto (t := 18) rfl (
      ih v12 (v6 + 1)))))))))))) (fun _ =>
      r_iinc (kk := 1) (L2 := [some (.ref 32), some (gv c3), some (gv c4), some (gv v5), some (gv (v6 + 1))]) (pc2 := 50) rfl ic_1 rfl rfl rfl (
      r_goto (t := 18) rfl (
      ih v5 (v6 + 1)))))))))) (fun _ =>
      jr_leaf ⟨_, rfl, rfl⟩))))
theorem rf_cx_mostFor {s : gm_S} {n m : Nat} (hs : gm_sh s n m) (d : Nat)  (g : gm_T) (a1 : Int) (a2 : Int)  : jr (pI s g) (cx_mostFor g a1 a2) (jm_cl jm_CD km_n (d + 2) 26 [.ref 32, gv a1, gv a2] (gm_h s g)) := by
  unfold cx_mostFor
  exact (r_ent (cd := cd_26) (n := 5) (L0 := [some (.ref 32), some (gv a1), some (gv a2), none, none]) rfl rfl rfl rfl (
      r_aload (pc2 := 1) rfl rfl rfl (
      r_getA (pc2 := 4) rfl rfl (sh_T hs rfl rfl) (sh_A hs rfl rfl) (
      r_iload (pc2 := 5) rfl rfl rfl (
      r_ic (x := 1) (pc2 := 6) rfl ic_1 rfl (
      r_iadd (pc2 := 7) rfl rfl (
      r_ic (x := 1024) (pc2 := 10) rfl ic_1024 rfl (
      r_imul (pc2 := 11) rfl rfl (
      r_iload (pc2 := 12) rfl rfl rfl (
      r_iadd (pc2 := 13) rfl rfl (
      jr_g fun h1 => r_iald (len := 7168) (pc2 := 14) rfl rfl (sh_T hs rfl rfl) (sh_L hs rfl rfl) rfl h1 (
      r_istoreL (L3 := fun v2 => [some (.ref 32), some (gv a1), some (gv a2), some (gv v2), none]) (pc2 := 15) rfl rfl (fun _ => rfl) fun v2 => (
      r_ic (x := 0) (pc2 := 16) rfl ic_0 rfl (
      r_istore (L2 := [some (.ref 32), some (gv a1), some (gv a2), some (gv v2), some (gv 0)]) (pc2 := 18) rfl rfl rfl (
      r_b1 (rl_cx_mostFor_l18 hs d  g a1 a2  fz v2 0  ) (fun v15 c h => match c, h with | _, ⟨j16, hj16, rfl⟩ => (
      r_iload (pc2 := 54) rfl rfl rfl (
      r_iret rfl rfl))))))))))))))))))
theorem rl_cx_choose_l2 {s : gm_S} {n m : Nat} (hs : gm_sh s n m) (d : Nat)  (g : gm_T) (c1 : Int) (c2 : Int)  : ∀ (fuel : Nat) (v3 : Int), jr (pI s g) (cx_choose_l2 g c1 c2 fuel v3) (jm_sup cd_28 (jm_cl jm_CD km_n (d + 1)) (2, [some (.ref 32), some (gv c1), some (gv c2), some (gv v3)], [], gm_h s g)) := by
  intro fuel
  induction fuel with
  | zero => intros; exact jr_none
  | succ fuel ih =>
    intro v3  
    unfold cx_choose_l2
    exact (
      r_iload (pc2 := 3) rfl rfl rfl (
      r_ic (x := 10) (pc2 := 5) rfl ic_10 rfl (
      jr_g fun h4 => r_cge (pc2 := 8) (t := 46) rfl h4 (rgk rfl) rfl (fun _ =>
      r_iload (pc2 := 9) rfl rfl rfl (
      r_iload (pc2 := 10) rfl rfl rfl (
      r_ishr (pc2 := 11) rfl rfl (
      r_ic (x := 1) (pc2 := 12) rfl ic_1 rfl (
      r_iand (pc2 := 13) rfl rfl (
      r_ifne (pc2 := 16) (t := 40) rfl (rg_toInt _) rfl (fun _ =>
      r_aload (pc2 := 17) rfl rfl rfl (
      r_iload (pc2 := 18) rfl rfl rfl (
      r_iload (pc2 := 19) rfl rfl rfl (
      r_iload (pc2 := 20) rfl rfl rfl (
      r_callVP (pc2 := 23) (args := [.ref 32, gv c1, gv v3, gv c2]) (st2 := []) rfl rfl rfl rfl rfl rfl (rc_of (sh_T hs rfl rfl)) (rf_cx_worthWith hs d g c1 v3 c2 ) fun v5 => (
      r_aload (pc2 := 24) rfl rfl rfl (
      r_getA (pc2 := 27) rfl rfl (sh_T hs rfl rfl) (sh_A hs rfl rfl) (
      r_iload (pc2 := 28) rfl rfl rfl (
      r_ic (x := 1024) (pc2 := 31) rfl ic_1024 rfl (
      r_imul (pc2 := 32) rfl rfl (
      r_iload (pc2 := 33) rfl rfl rfl (
      r_iadd (pc2 := 34) rfl rfl (
      jr_g fun h6 => r_iald (len := 7168) (pc2 := 35) rfl rfl (sh_T hs rfl rfl) (sh_L hs rfl rfl) rfl h6 (
      jr_g fun h7 => r_cne (pc2 := 38) (t := 40) rfl h7.1 h7.2 rfl (fun _ =>
      r_iload (pc2 := 39) rfl rfl rfl (
      r_iret rfl rfl)) (fun _ =>
      r_iinc (kk := 1) (L2 := [some (.ref 32), some (gv c1), some (gv c2), some (gv (v3 + 1))]) (pc2 := 43) rfl ic_1 rfl rfl rfl (
      r_goto (t := 2) rfl (
      ih (v3 + 1)))))))))))))))))) (fun _ =>
      r_iinc (kk := 1) (L2 := [some (.ref 32), some (gv c1), some (gv c2), some (gv (v3 + 1))]) (pc2 := 43) rfl ic_1 rfl rfl rfl (
      r_goto (t := 2) rfl (
      ih (v3 + 1)))))))))) (fun _ =>
      r_ic (x := -1) (pc2 := 47) rfl ic_m1 rfl (
      r_iret rfl rfl)))))
theorem rf_cx_choose {s : gm_S} {n m : Nat} (hs : gm_sh s n m) (d : Nat)  (g : gm_T) (a1 : Int) (a2 : Int)  : jr (pI s g) (cx_choose g a1 a2) (jm_cl jm_CD km_n (d + 2) 28 [.ref 32, gv a1, gv a2] (gm_h s g)) := by
  unfold cx_choose
  exact (r_ent (cd := cd_28) (n := 4) (L0 := [some (.ref 32), some (gv a1), some (gv a2), none]) rfl rfl rfl rfl (
      r_ic (x := 0) (pc2 := 1) rfl ic_0 rfl (
      r_istore (L2 := [some (.ref 32), some (gv a1), some (gv a2), some (gv 0)]) (pc2 := 2) rfl rfl rfl (
      rl_cx_choose_l2 hs d  g a1 a2  fz 0  ))))
theorem rl_cx_shareOut_l13 {s : gm_S} {n m : Nat} (hs : gm_sh s n m) (d : Nat)  (c9 : Int)  : ∀ (fuel : Nat) (v10 : Int) (g11 : gm_T), jr (fun (q : gm_T) (c : Option jm_R) => ∃ (j12 : Option Value), jm_lg j12 = false ∧ c = jm_sup cd_24 (jm_cl jm_CD km_n (d + 3)) (52, [some (.ref 32), some (.ref 10), some (gv c9), j12, none], [], gm_h s q)) (cx_shareOut_l13 n  c9 fuel v10 g11) (jm_sup cd_24 (jm_cl jm_CD km_n (d + 3)) (13, [some (.ref 32), some (.ref 10), some (gv c9), some (gv v10), none], [], gm_h s g11)) := by
  intro fuel
  induction fuel with
  | zero => intros; exact jr_none
  | succ fuel ih =>
    intro v10 g11  
    unfold cx_shareOut_l13
    exact (
      r_iload (pc2 := 14) rfl rfl rfl (
      r_ic (x := 1024) (pc2 := 17) rfl ic_1024 rfl (
      jr_g fun h14 => r_cge (pc2 := 20) (t := 52) rfl h14 (rgk rfl) rfl (fun _ =>
      r_iload (pc2 := 21) rfl rfl rfl (
      r_callSP (pc2 := 24) (args := [gv v10]) (st2 := []) rfl rfl rfl rfl rfl rfl (rf_jd_bitCount hs (d + 2) g11 v10 ) fun v15 => (
      r_iload (pc2 := 25) rfl rfl rfl (
      jr_g fun h16 => r_cgt (pc2 := 28) (t := 46) rfl h16.1 h16.2 rfl (fun _ =>
      r_aload (pc2 := 29) rfl rfl rfl (
      r_getA (pc2 := 32) rfl rfl (sh_T hs rfl rfl) (sh_A hs rfl rfl) (
      r_iload (pc2 := 33) rfl rfl rfl (
      r_ic (x := 1024) (pc2 := 36) rfl ic_1024 rfl (
      r_imul (pc2 := 37) rfl rfl (
      r_iload (pc2 := 38) rfl rfl rfl (
      r_iadd (pc2 := 39) rfl rfl (
      r_aload (pc2 := 40) rfl rfl rfl (
      r_iload (pc2 := 41) rfl rfl rfl (
      r_iload (pc2 := 42) rfl rfl rfl (
      r_callVP (pc2 := 45) (args := [.ref 32, gv c9, gv v10]) (st2 := [gv ((c9 * 1024) + v10), .ref 38]) rfl rfl rfl rfl rfl rfl (rc_of (sh_T hs rfl rfl)) (rf_cx_mostFor hs (d + 1) g11 c9 v10 ) fun v17 => (
      jr_g fun h19 => r_iast (len := 7168) (pc2 := 46) rfl rfl (sh_T hs rfl rfl) (sh_L hs rfl rfl) rfl h19 fun g18 => (
      r_iinc (kk := 1) (L2 := [some (.ref 32), some (.ref 10), some (gv c9), some (gv (v10 + 1)), none]) (pc2 := 49) rfl ic_1 rfl rfl rfl (
      r_goto (t := 13) rfl (
      ih (v10 + 1) g18))))))))))))))) (fun _ =>
      r_iinc (kk := 1) (L2 := [some (.ref 32), some (.ref 10), some (gv c9), some (gv (v10 + 1)), none]) (pc2 := 49) rfl ic_1 rfl rfl rfl (
      r_goto (t := 13) rfl (
      ih (v10 + 1) g11))))))) (fun _ =>
      jr_leaf ⟨_, rfl, rfl⟩))))
theorem rl_cx_shareOut_l7 {s : gm_S} {n m : Nat} (hs : gm_sh s n m) (d : Nat)    : ∀ (fuel : Nat) (v2 : Int) (g4 : gm_T) (j3 : Option Value) (hj3 : jm_lg j3 = false), jr (fun (q : gm_T) (c : Option jm_R) => ∃ (j5 : Option Value) (j6 : Option Value), jm_lg j5 = false ∧ jm_lg j6 = false ∧ c = jm_sup cd_24 (jm_cl jm_CD km_n (d + 3)) (58, [some (.ref 32), some (.ref 10), j5, j6, none], [], gm_h s q)) (cx_shareOut_l7 n   fuel v2 g4) (jm_sup cd_24 (jm_cl jm_CD km_n (d + 3)) (7, [some (.ref 32), some (.ref 10), some (gv v2), j3, none], [], gm_h s g4)) := by
  intro fuel
  induction fuel with
  | zero => intros; exact jr_none
  | succ fuel ih =>
    intro v2 g4 j3 hj3
    unfold cx_shareOut_l7
    exact (
      r_iload (pc2 := 8) rfl rfl rfl (
      jr_g fun h8 => r_iflt (pc2 := 11) (t := 58) rfl h8 rfl (fun _ =>
      jr_leaf ⟨_, _, rfl, hj3, rfl⟩) (fun _ =>
      r_ic (x := 0) (pc2 := 12) rfl ic_0 rfl (
      r_istore (L2 := [some (.ref 32), some (.ref 10), some (gv v2), some (gv 0), none]) (pc2 := 13) rfl rfl rfl (
      r_b1 (rl_cx_shareOut_l13 hs d   v2  fz 0 g4  ) (fun g23 c h => match c, h with | _, ⟨j22, hj22, rfl⟩ => (
      r_iinc (kk := -1) (L2 := [some (.ref 32), some (.ref 10), some (gv (v2 + (-1))), j22, none]) (pc2 := 55) rfl ic_m1 rfl rfl rfl (
      r_goto (t := 7) rfl (
      ih (v2 + (-1)) g23 _ hj22)))))))))
theorem rl_cx_shareOut_l62 {s : gm_S} {n m : Nat} (hs : gm_sh s n m) (d : Nat)    : ∀ (fuel : Nat) (v28 : Int) (v29 : Int) (g31 : gm_T) (j30 : Option Value) (hj30 : jm_lg j30 = false), jr (fun (q : gm_T) (c : Option jm_R) => ∃ (j32 : Option Value) (j33 : Option Value) (j34 : Option Value), jm_lg j32 = false ∧ jm_lg j33 = false ∧ jm_lg j34 = false ∧ c = jm_sup cd_24 (jm_cl jm_CD km_n (d + 3)) (106, [some (.ref 32), some (.ref 10), j32, j33, j34], [], gm_h s q)) (cx_shareOut_l62 n   fuel v28 v29 g31) (jm_sup cd_24 (jm_cl jm_CD km_n (d + 3)) (62, [some (.ref 32), some (.ref 10), some (gv v28), some (gv v29), j30], [], gm_h s g31)) := by
  intro fuel
  induction fuel with
  | zero => intros; exact jr_none
  | succ fuel ih =>
    intro v28 v29 g31 j30 hj30
    unfold cx_shareOut_l62
    exact (
      r_iload (pc2 := 63) rfl rfl rfl (
      r_ic (x := 6) (pc2 := 65) rfl ic_6 rfl (
      jr_g fun h36 => r_cge (pc2 := 68) (t := 106) rfl h36 (rgk rfl) rfl (fun _ =>
      r_aload (pc2 := 69) rfl rfl rfl (
      r_iload (pc2 := 70) rfl rfl rfl (
      r_iload (pc2 := 71) rfl rfl rfl (
      r_callVP (pc2 := 74) (args := [.ref 32, gv v29, gv v28]) (st2 := []) rfl rfl rfl rfl rfl rfl (rc_of (sh_T hs rfl rfl)) (rf_cx_choose hs (d + 1) g31 v29 v28 ) fun v37 => (
      r_istore (L2 := [some (.ref 32), some (.ref 10), some (gv v28), some (gv v29), some (gv v37)]) (pc2 := 76) rfl rfl rfl (
      r_aload (pc2 := 77) rfl rfl rfl (
      r_getA (pc2 := 80) rfl rfl (sh_T hs rfl rfl) (sh_A hs rfl rfl) (
      r_iload (pc2 := 81) rfl rfl rfl (
      r_iload (pc2 := 83) rfl rfl rfl (
      jr_g fun h39 => r_iast (len := 6) (pc2 := 84) rfl rfl (sh_T hs rfl rfl) (sh_L hs rfl rfl) rfl h39 fun g38 => (
      r_iload (pc2 := 85) rfl rfl rfl (
      r_iload (pc2 := 87) rfl rfl rfl (
      jr_g fun h40 => r_ifge (pc2 := 90) (t := 94) rfl h40 rfl (fun _ =>
      r_ic (x := 0) (pc2 := 91) rfl ic_0 rfl (
      r_goto (t := 98) rfl (
      r_ior (pc2 := 99) rfl rfl (
      r_istoreL (L3 := fun v41 => [some (.ref 32), some (.ref 10), some (gv v41), some (gv v29), some (gv v37)]) (pc2 := 100) rfl rfl (fun _ => rfl) fun v41 => (
      r_iinc (kk := 1) (L2 := [some (.ref 32), some (.ref 10), some (gv v41), some (gv (v29 + 1)), some (gv v37)]) (pc2 := 103) rfl ic_1 rfl rfl rfl (
      r_goto (t := 62) rfl (
      ih v41 (v29 + 1) g38 _ rfl))))))) (fun _ =>
      r_ic (x := 1) (pc2 := 95) rfl ic_1 rfl (
      r_iload (pc2 := 97) rfl rfl rfl (
      r_ishl (pc2 := 98) rfl rfl (
      r_ior (pc2 := 99) rfl rfl (
      r_istoreL (L3 := fun v43 => [some (.ref 32), some (.ref 10), some (gv v43), some (gv v29), some (gv v37)]) (pc2 := 100) rfl rfl (fun _ => rfl) fun v43 => (
      r_iinc (kk := 1) (L2 := [some (.ref 32), some (.ref 10), some (gv v43), some (gv (v29 + 1)), some (gv v37)]) (pc2 := 103) rfl ic_1 rfl rfl rfl (
      r_goto (t := 62) rfl (
      ih v43 (v29 + 1) g38 _ rfl))))))))))))))))))))) (fun _ =>
      jr_leaf ⟨_, _, _, rfl, rfl, hj30, rfl⟩))))
theorem rf_cx_shareOut {s : gm_S} {n m : Nat} (hs : gm_sh s n m) (d : Nat)  (g : gm_T)   : jr (eI s) (cx_shareOut n g ) (jm_cl jm_CD km_n (d + 4) 24 [.ref 32, .ref 10] (gm_h s g)) := by
  unfold cx_shareOut
  exact (r_ent (cd := cd_24) (n := 5) (L0 := [some (.ref 32), some (.ref 10), none, none, none]) rfl rfl rfl rfl (
      r_aload (pc2 := 1) rfl rfl rfl (
      r_aload (pc2 := 2) rfl rfl rfl (
      r_callVV (pc2 := 5) (args := [.ref 32, .ref 10]) (st2 := []) rfl rfl rfl rfl rfl rfl (rc_of (sh_T hs rfl rfl)) (rf_cx_weigh hs d g ) fun g1 => (
      r_ic (x := 5) (pc2 := 6) rfl ic_5 rfl (
      r_istore (L2 := [some (.ref 32), some (.ref 10), some (gv 5), none, none]) (pc2 := 7) rfl rfl rfl (
      r_b1 (rl_cx_shareOut_l7 hs d     fz 5 g1 _ rfl) (fun g27 c h => match c, h with | _, ⟨j25, j26, hj25, hj26, rfl⟩ => (
      r_ic (x := 0) (pc2 := 59) rfl ic_0 rfl (
      r_istore (L2 := [some (.ref 32), some (.ref 10), some (gv 0), j26, none]) (pc2 := 60) rfl rfl rfl (
      r_ic (x := 0) (pc2 := 61) rfl ic_0 rfl (
      r_istore (L2 := [some (.ref 32), some (.ref 10), some (gv 0), some (gv 0), none]) (pc2 := 62) rfl rfl rfl (
      r_b1 (rl_cx_shareOut_l62 hs d     fz 0 0 g27 _ rfl) (fun g48 c h => match c, h with | _, ⟨j45, j46, j47, hj45, hj46, hj47, rfl⟩ => (
      r_aload (pc2 := 107) rfl rfl rfl (
      r_getA (pc2 := 110) rfl rfl (sh_T hs rfl rfl) (sh_A hs rfl rfl) (
      r_ic (x := 0) (pc2 := 111) rfl ic_0 rfl (
      r_iald (len := 7168) (pc2 := 112) rfl rfl (sh_T hs rfl rfl) (sh_L hs rfl rfl) rfl ⟨by decide, by decide⟩ (
      r_iret rfl rfl)))))))))))))))))))
theorem rf_cf_allBits {s : gm_S} {n m : Nat} (hs : gm_sh s n m) (d : Nat)  (g : gm_T)   : jr (pI s g) (cf_allBits g ) (jm_cl jm_CD km_n (d + 1) 31 [.ref 10] (gm_h s g)) := by
  unfold cf_allBits
  exact (r_ent (cd := cd_31) (n := 1) (L0 := [some (.ref 10)]) rfl rfl rfl rfl (
      r_ic (x := 1) (pc2 := 1) rfl ic_1 rfl (
      r_aload (pc2 := 2) rfl rfl rfl (
      r_getI (pc2 := 5) rfl rfl (sh_T hs rfl rfl) (
      r_ishl (pc2 := 6) rfl rfl (
      r_ic (x := 1) (pc2 := 7) rfl ic_1 rfl (
      r_isub (pc2 := 8) rfl rfl (
      r_iret rfl rfl))))))))
theorem rf_cf_keyOf {s : gm_S} {n m : Nat} (hs : gm_sh s n m) (d : Nat)  (g : gm_T) (a0 : Int) (a1 : Int) (a2 : Int)  : jr (pI s g) (cf_keyOf g a0 a1 a2) (jm_cl jm_CD km_n (d + 1) 35 [gv a0, gv a1, gv a2] (gm_h s g)) := by
  unfold cf_keyOf
  exact (r_ent (cd := cd_35) (n := 3) (L0 := [some (gv a0), some (gv a1), some (gv a2)]) rfl rfl rfl rfl (
      r_ic (x := 40) (pc2 := 2) rfl ic_40 rfl (
      r_iload (pc2 := 3) rfl rfl rfl (
      r_isub (pc2 := 4) rfl rfl (
      r_ic (x := 1000) (pc2 := 7) rfl ic_1000 rfl (
      r_imul (pc2 := 8) rfl rfl (
      r_ic (x := 10) (pc2 := 10) rfl ic_10 rfl (
      r_iload (pc2 := 11) rfl rfl rfl (
      r_imul (pc2 := 12) rfl rfl (
      r_iadd (pc2 := 13) rfl rfl (
      r_iload (pc2 := 14) rfl rfl rfl (
      r_iadd (pc2 := 15) rfl rfl (
      r_iret rfl rfl)))))))))))))
theorem rl_cf_insert_l2 {s : gm_S} {n m : Nat} (hs : gm_sh s n m) (d : Nat)  (c2 : Int)  : ∀ (fuel : Nat) (v3 : Int) (g4 : gm_T) (j1 : Option Value) (hj1 : jm_lg j1 = false), jr (fun (q : Int × gm_T) (c : Option jm_R) => c = jm_sup cd_36 (jm_cl jm_CD km_n d) (38, [some (.ref 10), j1, some (gv c2), some (gv q.1)], [], gm_h s q.2)) (cf_insert_l2  c2 fuel v3 g4) (jm_sup cd_36 (jm_cl jm_CD km_n d) (2, [some (.ref 10), j1, some (gv c2), some (gv v3)], [], gm_h s g4)) := by
  intro fuel
  induction fuel with
  | zero => intros; exact jr_none
  | succ fuel ih =>
    intro v3 g4 j1 hj1
    unfold cf_insert_l2
    exact (
      r_iload (pc2 := 3) rfl rfl rfl (
      jr_g fun h7 => r_ifle (pc2 := 6) (t := 38) rfl h7 rfl (fun _ =>
      jr_leaf rfl) (fun _ =>
      r_aload (pc2 := 7) rfl rfl rfl (
      r_getA (pc2 := 10) rfl rfl (sh_T hs rfl rfl) (sh_A hs rfl rfl) (
      r_iload (pc2 := 11) rfl rfl rfl (
      r_ic (x := 1) (pc2 := 12) rfl ic_1 rfl (
      r_isub (pc2 := 13) rfl rfl (
      jr_g fun h8 => r_iald (len := 240) (pc2 := 14) rfl rfl (sh_T hs rfl rfl) (sh_L hs rfl rfl) rfl h8 (
      r_iload (pc2 := 15) rfl rfl rfl (
      jr_g fun h9 => r_cle (pc2 := 18) (t := 38) rfl h9.1 h9.2 rfl (fun _ =>
      jr_leaf rfl) (fun _ =>
      r_aload (pc2 := 19) rfl rfl rfl (
      r_getA (pc2 := 22) rfl rfl (sh_T hs rfl rfl) (sh_A hs rfl rfl) (
      r_iload (pc2 := 23) rfl rfl rfl (
      r_aload (pc2 := 24) rfl rfl rfl (
      r_getA (pc2 := 27) rfl rfl (sh_T hs rfl rfl) (sh_A hs rfl rfl) (
      r_iload (pc2 := 28) rfl rfl rfl (
      r_ic (x := 1) (pc2 := 29) rfl ic_1 rfl (
      r_isub (pc2 := 30) rfl rfl (
      r_iald (len := 240) (pc2 := 31) rfl rfl (sh_T hs rfl rfl) (sh_L hs rfl rfl) rfl h8 (
      jr_g fun h11 => r_iast (len := 240) (pc2 := 32) rfl rfl (sh_T hs rfl rfl) (sh_L hs rfl rfl) rfl h11 fun g10 => (
      r_iinc (kk := -1) (L2 := [some (.ref 10), j1, some (gv c2), some (gv (v3 + (-1)))]) (pc2 := 35) rfl ic_m1 rfl rfl rfl (
      r_goto (t := 2) rfl (
      ih (v3 + (-1)) g10 _ hj1)))))))))))))))))))))))
theorem rf_cf_insert {s : gm_S} {n m : Nat} (hs : gm_sh s n m) (d : Nat)  (g : gm_T) (a1 : Int) (a2 : Int)  : jr (eV s) (cf_insert g a1 a2) (jm_cl jm_CD km_n (d + 1) 36 [.ref 10, gv a1, gv a2] (gm_h s g)) := by
  unfold cf_insert
  exact (r_ent (cd := cd_36) (n := 4) (L0 := [some (.ref 10), some (gv a1), some (gv a2), none]) rfl rfl rfl rfl (
      r_iload (pc2 := 1) rfl rfl rfl (
      r_istore (L2 := [some (.ref 10), some (gv a1), some (gv a2), some (gv a1)]) (pc2 := 2) rfl rfl rfl (
      r_b2 (rl_cf_insert_l2 hs d   a2  fz a1 g _ rfl) (fun v14 g15 c h => match c, h with | _, rfl => (
      r_aload (pc2 := 39) rfl rfl rfl (
      r_getA (pc2 := 42) rfl rfl (sh_T hs rfl rfl) (sh_A hs rfl rfl) (
      r_iload (pc2 := 43) rfl rfl rfl (
      r_iload (pc2 := 44) rfl rfl rfl (
      jr_g fun h17 => r_iast (len := 240) (pc2 := 45) rfl rfl (sh_T hs rfl rfl) (sh_L hs rfl rfl) rfl h17 fun g16 => (
      r_vret rfl rfl)))))))))))
theorem rl_cf_collect_l17 {s : gm_S} {n m : Nat} (hs : gm_sh s n m) (d : Nat)  (c14 : Int) (c15 : Int) (c17 : Int)  : ∀ (fuel : Nat) (v16 : Int) (v18 : Int) (g20 : gm_T) (j19 : Option Value), jr (fun (q : Int × gm_T) (c : Option jm_R) => ∃ (j22 : Option Value) (j23 : Option Value), jm_lg j22 = false ∧ c = jm_sup cd_34 (jm_cl jm_CD km_n (d + 3)) (87, [some (.ref 10), some (gv c14), some (gv c15), some (gv q.1), some (gv c17), j22, j23, none], [], gm_h s q.2)) (cf_collect_l17 n  c14 c15 c17 fuel v16 v18 g20) (jm_sup cd_34 (jm_cl jm_CD km_n (d + 3)) (17, [some (.ref 10), some (gv c14), some (gv c15), some (gv v16), some (gv c17), some (gv v18), j19, none], [], gm_h s g20)) := by
  intro fuel
  induction fuel with
  | zero => intros; exact jr_none
  | succ fuel ih =>
    intro v16 v18 g20 j19 
    unfold cf_collect_l17
    exact (
      r_iload (pc2 := 19) rfl rfl rfl (
      r_aload (pc2 := 20) rfl rfl rfl (
      r_getA (pc2 := 23) rfl rfl (sh_T hs rfl rfl) (sh_A hs rfl rfl) (
      r_iload (pc2 := 25) rfl rfl rfl (
      jr_g fun h25 => r_aald (pc2 := 26) rfl rfl hs h25 (
      r_getI (pc2 := 29) rfl rfl (sh_b0 hs (bn_lt hs h25)) (
      jr_g fun h26 => r_cge (pc2 := 32) (t := 87) rfl h26.1 h26.2 rfl (fun _ =>
      r_aload (pc2 := 33) rfl rfl rfl (
      r_iload (pc2 := 34) rfl rfl rfl (
      r_iload (pc2 := 35) rfl rfl rfl (
      r_iload (pc2 := 37) rfl rfl rfl (
      r_iload (pc2 := 39) rfl rfl rfl (
      r_callVL (pc2 := 42) (args := [.ref 10, gv c14, gv c15, gv c17, gv v18]) (st2 := []) rfl rfl rfl rfl rfl rfl (rc_of (sh_T hs rfl rfl)) (rf_cf_fitting hs d g20 c14 c15 c17 v18 ) fun v27 => (
      r_lstore (L2 := [some (.ref 10), some (gv c14), some (gv c15), some (gv v16), some (gv c17), some (gv v18), some (.long v27), none]) (pc2 := 44) rfl rfl rfl (
      r_lload (pc2 := 46) rfl rfl rfl (
      r_lc (pc2 := 47) rfl rfl (
      r_lcmp (pc2 := 48) rfl rfl (
      r_iflt (pc2 := 51) (t := 81) rfl (rg_toInt _) rfl (fun _ =>
      r_iinc (kk := 1) (L2 := [some (.ref 10), some (gv c14), some (gv c15), some (gv v16), some (gv c17), some (gv (v18 + 1)), some (.long v27), none]) (pc2 := 84) rfl ic_1 rfl rfl rfl (
      r_goto (t := 17) rfl (
      ih v16 (v18 + 1) g20 _))) (fun _ =>
      r_aload (pc2 := 52) rfl rfl rfl (
      r_iload (pc2 := 53) rfl rfl rfl (
      r_aload (pc2 := 54) rfl rfl rfl (
      r_iload (pc2 := 55) rfl rfl rfl (
      r_iload (pc2 := 56) rfl rfl rfl (
      r_iload (pc2 := 58) rfl rfl rfl (
      r_iload (pc2 := 60) rfl rfl rfl (
      r_lload (pc2 := 62) rfl rfl rfl (
      r_callSP (pc2 := 65) (args := [.long v27]) (st2 := [gv v18, gv c17, gv c15, gv c14, .ref 10, gv v16, .ref 10]) rfl rfl rfl rfl rfl rfl (rf_cc_turn hs (d + 2) g20 v27 ) fun v29 => (
      r_callVP (pc2 := 68) (args := [.ref 10, gv c14, gv c15, gv c17, gv v18, gv v29]) (st2 := [gv v16, .ref 10]) rfl rfl rfl rfl rfl rfl (rc_of (sh_T hs rfl rfl)) (rf_cf_scoreOf hs (d + 2) g20 c14 c15 c17 v18 v29 ) fun v30 => (
      r_iload (pc2 := 70) rfl rfl rfl (
      r_iload (pc2 := 72) rfl rfl rfl (
      r_callSP (pc2 := 75) (args := [gv v30, gv c17, gv v18]) (st2 := [gv v16, .ref 10]) rfl rfl rfl rfl rfl rfl (rf_cf_keyOf hs (d + 2) g20 v30 c17 v18 ) fun v31 => (
      r_callVV (pc2 := 78) (args := [.ref 10, gv v16, gv v31]) (st2 := []) rfl rfl rfl rfl rfl rfl (rc_of (sh_T hs rfl rfl)) (rf_cf_insert hs (d + 2) g20 v16 v31 ) fun g32 => (
      r_iinc (kk := 1) (L2 := [some (.ref 10), some (gv c14), some (gv c15), some (gv (v16 + 1)), some (gv c17), some (gv v18), some (.long v27), none]) (pc2 := 81) rfl ic_1 rfl rfl rfl (
      r_iinc (kk := 1) (L2 := [some (.ref 10), some (gv c14), some (gv c15), some (gv (v16 + 1)), some (gv c17), some (gv (v18 + 1)), some (.long v27), none]) (pc2 := 84) rfl ic_1 rfl rfl rfl (
      r_goto (t := 17) rfl (
      ih (v16 + 1) (v18 + 1) g32 _))))))))))))))))))))))))))))) (fun _ =>
      jr_leaf ⟨_, _, rfl, rfl⟩))))))))
theorem rl_cf_collect_l5 {s : gm_S} {n m : Nat} (hs : gm_sh s n m) (d : Nat)  (c1 : Int) (c2 : Int)  : ∀ (fuel : Nat) (v3 : Int) (v4 : Int) (g7 : gm_T) (j5 : Option Value) (j6 : Option Value) (hj5 : jm_lg j5 = false), jr (fun (q : Int × gm_T) (c : Option jm_R) => ∃ (j9 : Option Value) (j10 : Option Value) (j11 : Option Value), jm_lg j9 = false ∧ jm_lg j10 = false ∧ c = jm_sup cd_34 (jm_cl jm_CD km_n (d + 3)) (93, [some (.ref 10), some (gv c1), some (gv c2), some (gv q.1), j9, j10, j11, none], [], gm_h s q.2)) (cf_collect_l5 n  c1 c2 fuel v3 v4 g7) (jm_sup cd_34 (jm_cl jm_CD km_n (d + 3)) (5, [some (.ref 10), some (gv c1), some (gv c2), some (gv v3), some (gv v4), j5, j6, none], [], gm_h s g7)) := by
  intro fuel
  induction fuel with
  | zero => intros; exact jr_none
  | succ fuel ih =>
    intro v3 v4 g7 j5 j6 hj5
    unfold cf_collect_l5
    exact (
      r_iload (pc2 := 7) rfl rfl rfl (
      r_aload (pc2 := 8) rfl rfl rfl (
      r_getI (pc2 := 11) rfl rfl (sh_T hs rfl rfl) (
      jr_g fun h13 => r_cge (pc2 := 14) (t := 93) rfl h13.1 h13.2 rfl (fun _ =>
      r_ic (x := 0) (pc2 := 15) rfl ic_0 rfl (
      r_istore (L2 := [some (.ref 10), some (gv c1), some (gv c2), some (gv v3), some (gv v4), some (gv 0), j6, none]) (pc2 := 17) rfl rfl rfl (
      r_b2 (rl_cf_collect_l17 hs d   c1 c2 v4  fz v3 0 g7 _ ) (fun v35 g38 c h => match c, h with | _, ⟨j36, j37, hj36, rfl⟩ => (
      r_iinc (kk := 1) (L2 := [some (.ref 10), some (gv c1), some (gv c2), some (gv v35), some (gv (v4 + 1)), j36, j37, none]) (pc2 := 90) rfl ic_1 rfl rfl rfl (
      r_goto (t := 5) rfl (
      ih v35 (v4 + 1) g38 _ _ hj36))))))) (fun _ =>
      jr_leaf ⟨_, _, _, rfl, hj5, rfl⟩)))))
theorem rf_cf_collect {s : gm_S} {n m : Nat} (hs : gm_sh s n m) (d : Nat)  (g : gm_T) (a1 : Int) (a2 : Int)  : jr (eI s) (cf_collect n g a1 a2) (jm_cl jm_CD km_n (d + 4) 34 [.ref 10, gv a1, gv a2] (gm_h s g)) := by
  unfold cf_collect
  exact (r_ent (cd := cd_34) (n := 8) (L0 := [some (.ref 10), some (gv a1), some (gv a2), none, none, none, none, none]) rfl rfl rfl rfl (
      r_ic (x := 0) (pc2 := 1) rfl ic_0 rfl (
      r_istore (L2 := [some (.ref 10), some (gv a1), some (gv a2), some (gv 0), none, none, none, none]) (pc2 := 2) rfl rfl rfl (
      r_ic (x := 0) (pc2 := 3) rfl ic_0 rfl (
      r_istore (L2 := [some (.ref 10), some (gv a1), some (gv a2), some (gv 0), some (gv 0), none, none, none]) (pc2 := 5) rfl rfl rfl (
      r_b2 (rl_cf_collect_l5 hs d   a1 a2  fz 0 0 g _ _ rfl) (fun v40 g44 c h => match c, h with | _, ⟨j41, j42, j43, hj41, hj42, rfl⟩ => (
      r_iload (pc2 := 94) rfl rfl rfl (
      r_iret rfl rfl)))))))))
theorem rl_cf_rivalOf_l78 {s : gm_S} {n m : Nat} (hs : gm_sh s n m) (d : Nat)  (g : gm_T) (c26 : Int) (c27 : Int) (c31 : Int) (c32 : Int) (c34 : Int)  : ∀ (fuel : Nat) (v33 : Int) (v35 : Int) (j28 : Option Value) (j29 : Option Value) (j30 : Option Value) (j36 : Option Value) (j37 : Option Value) (hj28 : jm_lg j28 = false) (hj29 : jm_lg j29 = false) (hj30 : jm_lg j30 = false) (hj36 : jm_lg j36 = false) (hj37 : jm_lg j37 = false), jr (fun (q : Int) (c : Option jm_R) => ∃ (j39 : Option Value) (j40 : Option Value) (j41 : Option Value), jm_lg j39 = false ∧ jm_lg j40 = false ∧ jm_lg j41 = false ∧ c = jm_sup cd_37 (jm_cl jm_CD km_n (d + 3)) (174, [some (.ref 10), some (gv c26), some (gv c27), j28, j29, j30, some (gv c31), some (gv c32), some (gv q), some (gv c34), j39, j40, j41], [], gm_h s g)) (cf_rivalOf_l78 n g c26 c27 c31 c32 c34 fuel v33 v35) (jm_sup cd_37 (jm_cl jm_CD km_n (d + 3)) (78, [some (.ref 10), some (gv c26), some (gv c27), j28, j29, j30, some (gv c31), some (gv c32), some (gv v33), some (gv c34), some (gv v35), j36, j37], [], gm_h s g)) := by
  intro fuel
  induction fuel with
  | zero => intros; exact jr_none
  | succ fuel ih =>
    intro v33 v35 j28 j29 j30 j36 j37 hj28 hj29 hj30 hj36 hj37
    unfold cf_rivalOf_l78
    exact (
      r_iload (pc2 := 80) rfl rfl rfl (
      r_aload (pc2 := 81) rfl rfl rfl (
      r_getA (pc2 := 84) rfl rfl (sh_T hs rfl rfl) (sh_A hs rfl rfl) (
      r_iload (pc2 := 86) rfl rfl rfl (
      jr_g fun h42 => r_aald (pc2 := 87) rfl rfl hs h42 (
      r_getI (pc2 := 90) rfl rfl (sh_b0 hs (bn_lt hs h42)) (
      jr_g fun h43 => r_cge (pc2 := 93) (t := 174) rfl h43.1 h43.2 rfl (fun _ =>
      r_aload (pc2 := 94) rfl rfl rfl (
      r_getA (pc2 := 97) rfl rfl (sh_T hs rfl rfl) (sh_A hs rfl rfl) (
      r_iload (pc2 := 98) rfl rfl rfl (
      jr_g fun h44 => r_aald (pc2 := 99) rfl rfl hs h44 (
      r_iload (pc2 := 100) rfl rfl rfl (
      r_aload (pc2 := 101) rfl rfl rfl (
      r_getA (pc2 := 104) rfl rfl (sh_T hs rfl rfl) (sh_A hs rfl rfl) (
      r_iload (pc2 := 106) rfl rfl rfl (
      jr_g fun h45 => r_aald (pc2 := 107) rfl rfl hs h45 (
      r_iload (pc2 := 109) rfl rfl rfl (
      r_callVP (pc2 := 112) (args := [.ref (bA c26.toNat), gv c27, .ref (bA c34.toNat), gv v35]) (st2 := []) rfl rfl rfl rfl rfl rfl (rc_of (sh_b0 hs (bn_lt hs h44))) (rf_cb_turnFor hs (d + 1) g c26.toNat c27 c34.toNat v35 (bn_lt hs h44) (bn_lt hs h45)) fun v46 => (
      r_istore (L2 := [some (.ref 10), some (gv c26), some (gv c27), j28, j29, j30, some (gv c31), some (gv c32), some (gv v33), some (gv c34), some (gv v35), some (gv v46), j37]) (pc2 := 114) rfl rfl rfl (
      r_aload (pc2 := 115) rfl rfl rfl (
      r_iload (pc2 := 116) rfl rfl rfl (
      r_iload (pc2 := 117) rfl rfl rfl (
      r_iload (pc2 := 119) rfl rfl rfl (
      r_iload (pc2 := 121) rfl rfl rfl (
      r_iload (pc2 := 123) rfl rfl rfl (
      r_callVP (pc2 := 126) (args := [.ref 10, gv c26, gv c27, gv c34, gv v35, gv v46]) (st2 := []) rfl rfl rfl rfl rfl rfl (rc_of (sh_T hs rfl rfl)) (rf_cf_scoreOf hs (d + 2) g c26 c27 c34 v35 v46 ) fun v47 => (
      r_iload (pc2 := 128) rfl rfl rfl (
      r_iload (pc2 := 130) rfl rfl rfl (
      r_callSP (pc2 := 133) (args := [gv v47, gv c34, gv v35]) (st2 := []) rfl rfl rfl rfl rfl rfl (rf_cf_keyOf hs (d + 2) g v47 c34 v35 ) fun v48 => (
      r_istore (L2 := [some (.ref 10), some (gv c26), some (gv c27), j28, j29, j30, some (gv c31), some (gv c32), some (gv v33), some (gv c34), some (gv v35), some (gv v46), some (gv v48)]) (pc2 := 135) rfl rfl rfl (
      r_iload (pc2 := 137) rfl rfl rfl (
      r_iload (pc2 := 139) rfl rfl rfl (
      jr_g fun h49 => r_ceq (pc2 := 142) (t := 168) rfl h49.1 h49.2 rfl (fun _ =>
      r_iinc (kk := 1) (L2 := [some (.ref 10), some (gv c26), some (gv c27), j28, j29, j30, some (gv c31), some (gv c32), some (gv v33), some (gv c34), some (gv (v35 + 1)), some (gv v46), some (gv v48)]) (pc2 := 171) rfl ic_1 rfl rfl rfl (
      r_goto (t := 78) rfl (
      ih v33 (v35 + 1) _ _ _ _ _ hj28 hj29 hj30 rfl rfl))) (fun _ =>
      r_iload (pc2 := 144) rfl rfl rfl (
      r_iload (pc2 := 146) rfl rfl rfl (
      jr_g fun h51 => r_cge (pc2 := 149) (t := 168) rfl h49.1 h51 rfl (fun _ =>
      r_aload (pc2 := 150) rfl rfl rfl (
      r_iload (pc2 := 151) rfl rfl rfl (
      r_iload (pc2 := 152) rfl rfl rfl (
      r_iload (pc2 := 154) rfl rfl rfl (
      r_iload (pc2 := 156) rfl rfl rfl (
      r_callVL (pc2 := 159) (args := [.ref 10, gv c26, gv c27, gv c34, gv v35]) (st2 := []) rfl rfl rfl rfl rfl rfl (rc_of (sh_T hs rfl rfl)) (rf_cf_fitting hs d g c26 c27 c34 v35 ) fun v52 => (
      r_lc (pc2 := 160) rfl rfl (
      r_lcmp (pc2 := 161) rfl rfl (
      r_iflt (pc2 := 164) (t := 168) rfl (rg_toInt _) rfl (fun _ =>
      r_iinc (kk := 1) (L2 := [some (.ref 10), some (gv c26), some (gv c27), j28, j29, j30, some (gv c31), some (gv c32), some (gv v33), some (gv c34), some (gv (v35 + 1)), some (gv v46), some (gv v48)]) (pc2 := 171) rfl ic_1 rfl rfl rfl (
      r_goto (t := 78) rfl (
      ih v33 (v35 + 1) _ _ _ _ _ hj28 hj29 hj30 rfl rfl))) (fun _ =>
      r_iload (pc2 := 166) rfl rfl rfl (
      r_istore (L2 := [some (.ref 10), some (gv c26), some (gv c27), j28, j29, j30, some (gv c31), some (gv c32), some (gv v48), some (gv c34), some (gv v35), some (gv v46), some (gv v48)]) (pc2 := 168) rfl rfl rfl (
      r_iinc (kk := 1) (L2 := [some (.ref 10), some (gv c26), some (gv c27), j28, j29, j30, some (gv c31), some (gv c32), some (gv v48), some (gv c34), some (gv (v35 + 1)), some (gv v46), some (gv v48)]) (pc2 := 171) rfl ic_1 rfl rfl rfl (
      r_goto (t := 78) rfl (
      ih v48 (v35 + 1) _ _ _ _ _ hj28 hj29 hj30 rfl rfl)))))))))))))) (fun _ =>
      r_iinc (kk := 1) (L2 := [some (.ref 10), some (gv c26), some (gv c27), j28, j29, j30, some (gv c31), some (gv c32), some (gv v33), some (gv c34), some (gv (v35 + 1)), some (gv v46), some (gv v48)]) (pc2 := 171) rfl ic_1 rfl rfl rfl (
      r_goto (t := 78) rfl (
      ih v33 (v35 + 1) _ _ _ _ _ hj28 hj29 hj30 rfl rfl)))))))))))))))))))))))))))))))) (fun _ =>
      jr_leaf ⟨_, _, _, rfl, hj36, hj37, rfl⟩))))))))
theorem rl_cf_rivalOf_l66 {s : gm_S} {n m : Nat} (hs : gm_sh s n m) (d : Nat)  (g : gm_T) (c8 : Int) (c9 : Int) (c13 : Int) (c14 : Int)  : ∀ (fuel : Nat) (v15 : Int) (v16 : Int) (j10 : Option Value) (j11 : Option Value) (j12 : Option Value) (j17 : Option Value) (j18 : Option Value) (j19 : Option Value) (hj10 : jm_lg j10 = false) (hj11 : jm_lg j11 = false) (hj12 : jm_lg j12 = false) (hj17 : jm_lg j17 = false) (hj18 : jm_lg j18 = false) (hj19 : jm_lg j19 = false), jr (fun (q : Int) (c : Option jm_R) => ∃ (j21 : Option Value) (j22 : Option Value) (j23 : Option Value) (j24 : Option Value), jm_lg j21 = false ∧ jm_lg j22 = false ∧ jm_lg j23 = false ∧ jm_lg j24 = false ∧ c = jm_sup cd_37 (jm_cl jm_CD km_n (d + 3)) (180, [some (.ref 10), some (gv c8), some (gv c9), j10, j11, j12, some (gv c13), some (gv c14), some (gv q), j21, j22, j23, j24], [], gm_h s g)) (cf_rivalOf_l66 n g c8 c9 c13 c14 fuel v15 v16) (jm_sup cd_37 (jm_cl jm_CD km_n (d + 3)) (66, [some (.ref 10), some (gv c8), some (gv c9), j10, j11, j12, some (gv c13), some (gv c14), some (gv v15), some (gv v16), j17, j18, j19], [], gm_h s g)) := by
  intro fuel
  induction fuel with
  | zero => intros; exact jr_none
  | succ fuel ih =>
    intro v15 v16 j10 j11 j12 j17 j18 j19 hj10 hj11 hj12 hj17 hj18 hj19
    unfold cf_rivalOf_l66
    exact (
      r_iload (pc2 := 68) rfl rfl rfl (
      r_aload (pc2 := 69) rfl rfl rfl (
      r_getI (pc2 := 72) rfl rfl (sh_T hs rfl rfl) (
      jr_g fun h25 => r_cge (pc2 := 75) (t := 180) rfl h25.1 h25.2 rfl (fun _ =>
      r_ic (x := 0) (pc2 := 76) rfl ic_0 rfl (
      r_istore (L2 := [some (.ref 10), some (gv c8), some (gv c9), j10, j11, j12, some (gv c13), some (gv c14), some (gv v15), some (gv v16), some (gv 0), j18, j19]) (pc2 := 78) rfl rfl rfl (
      r_b1 (rl_cf_rivalOf_l78 hs d  g c8 c9 c13 c14 v16  fz v15 0 _ _ _ _ _ hj10 hj11 hj12 hj18 hj19) (fun v59 c h => match c, h with | _, ⟨j60, j61, j62, hj60, hj61, hj62, rfl⟩ => (
      r_iinc (kk := 1) (L2 := [some (.ref 10), some (gv c8), some (gv c9), j10, j11, j12, some (gv c13), some (gv c14), some (gv v59), some (gv (v16 + 1)), j60, j61, j62]) (pc2 := 177) rfl ic_1 rfl rfl rfl (
      r_goto (t := 66) rfl (
      ih v59 (v16 + 1) _ _ _ _ _ _ hj10 hj11 hj12 hj60 hj61 hj62))))))) (fun _ =>
      jr_leaf ⟨_, _, _, _, rfl, hj17, hj18, hj19, rfl⟩)))))
theorem rf_cf_rivalOf {s : gm_S} {n m : Nat} (hs : gm_sh s n m) (d : Nat)  (g : gm_T) (a1 : Int) (a2 : Int) (a3 : Int) (a4 : Int)  : jr (pI s g) (cf_rivalOf n g a1 a2 a3 a4) (jm_cl jm_CD km_n (d + 4) 37 [.ref 10, gv a1, gv a2, gv a3, gv a4] (gm_h s g)) := by
  unfold cf_rivalOf
  exact (r_ent (cd := cd_37) (n := 13) (L0 := [some (.ref 10), some (gv a1), some (gv a2), some (gv a3), some (gv a4), none, none, none, none, none, none, none, none]) rfl rfl rfl rfl (
      r_aload (pc2 := 1) rfl rfl rfl (
      r_getA (pc2 := 4) rfl rfl (sh_T hs rfl rfl) (sh_A hs rfl rfl) (
      r_iload (pc2 := 5) rfl rfl rfl (
      jr_g fun h1 => r_aald (pc2 := 6) rfl rfl hs h1 (
      r_iload (pc2 := 7) rfl rfl rfl (
      r_aload (pc2 := 8) rfl rfl rfl (
      r_getA (pc2 := 11) rfl rfl (sh_T hs rfl rfl) (sh_A hs rfl rfl) (
      r_iload (pc2 := 12) rfl rfl rfl (
      jr_g fun h2 => r_aald (pc2 := 13) rfl rfl hs h2 (
      r_iload (pc2 := 15) rfl rfl rfl (
      r_callVP (pc2 := 18) (args := [.ref (bA a1.toNat), gv a2, .ref (bA a3.toNat), gv a4]) (st2 := []) rfl rfl rfl rfl rfl rfl (rc_of (sh_b0 hs (bn_lt hs h1))) (rf_cb_turnFor hs (d + 1) g a1.toNat a2 a3.toNat a4 (bn_lt hs h1) (bn_lt hs h2)) fun v3 => (
      r_istore (L2 := [some (.ref 10), some (gv a1), some (gv a2), some (gv a3), some (gv a4), some (gv v3), none, none, none, none, none, none, none]) (pc2 := 20) rfl rfl rfl (
      r_aload (pc2 := 21) rfl rfl rfl (
      r_iload (pc2 := 22) rfl rfl rfl (
      r_iload (pc2 := 23) rfl rfl rfl (
      r_iload (pc2 := 24) rfl rfl rfl (
      r_iload (pc2 := 26) rfl rfl rfl (
      r_iload (pc2 := 28) rfl rfl rfl (
      r_callVP (pc2 := 31) (args := [.ref 10, gv a1, gv a2, gv a3, gv a4, gv v3]) (st2 := []) rfl rfl rfl rfl rfl rfl (rc_of (sh_T hs rfl rfl)) (rf_cf_scoreOf hs (d + 2) g a1 a2 a3 a4 v3 ) fun v4 => (
      r_iload (pc2 := 32) rfl rfl rfl (
      r_iload (pc2 := 34) rfl rfl rfl (
      r_callSP (pc2 := 37) (args := [gv v4, gv a3, gv a4]) (st2 := []) rfl rfl rfl rfl rfl rfl (rf_cf_keyOf hs (d + 2) g v4 a3 a4 ) fun v5 => (
      r_istore (L2 := [some (.ref 10), some (gv a1), some (gv a2), some (gv a3), some (gv a4), some (gv v3), some (gv v5), none, none, none, none, none, none]) (pc2 := 39) rfl rfl rfl (
      r_iload (pc2 := 41) rfl rfl rfl (
      r_ic (x := 1000) (pc2 := 44) rfl ic_1000 rfl (
      jr_g fun hd => r_idiv (pc2 := 45) rfl rfl hd ⟨by decide, by decide⟩ (
      r_ic (x := 1000) (pc2 := 48) rfl ic_1000 rfl (
      r_imul (pc2 := 49) rfl rfl (
      r_ic (x := 1000) (pc2 := 52) rfl ic_1000 rfl (
      r_iadd (pc2 := 53) rfl rfl (
      r_ic (x := 1) (pc2 := 54) rfl ic_1 rfl (
      r_isub (pc2 := 55) rfl rfl (
      r_istoreL (L3 := fun v6 => [some (.ref 10), some (gv a1), some (gv a2), some (gv a3), some (gv a4), some (gv v3), some (gv v5), some (gv v6), none, none, none, none, none]) (pc2 := 57) rfl rfl (fun _ => rfl) fun v6 => (
      r_iload (pc2 := 59) rfl rfl rfl (
      r_ic (x := 1) (pc2 := 60) rfl ic_1 rfl (
      r_iadd (pc2 := 61) rfl rfl (
      r_istoreL (L3 := fun v7 => [some (.ref 10), some (gv a1), some (gv a2), some (gv a3), some (gv a4), some (gv v3), some (gv v5), some (gv v6), some (gv v7), none, none, none, none]) (pc2 := 63) rfl rfl (fun _ => rfl) fun v7 => (
      r_ic (x := 0) (pc2 := 64) rfl ic_0 rfl (
      r_istore (L2 := [some (.ref 10), some (gv a1), some (gv a2), some (gv a3), some (gv a4), some (gv v3), some (gv v5), some (gv v6), some (gv v7), some (gv 0), none, none, none]) (pc2 := 66) rfl rfl rfl (
      r_b1 (rl_cf_rivalOf_l66 hs d  g a1 a2 v5 v6  fz v7 0 _ _ _ _ _ _ rfl rfl rfl rfl rfl rfl) (fun v67 c h => match c, h with | _, ⟨j68, j69, j70, j71, hj68, hj69, hj70, hj71, rfl⟩ => (
      r_iload (pc2 := 182) rfl rfl rfl (
      r_iload (pc2 := 184) rfl rfl rfl (
      jr_g fun h72 => r_cle (pc2 := 187) (t := 191) rfl h72.1 h72.2 rfl (fun _ =>
      r_iload (pc2 := 193) rfl rfl rfl (
      r_ic (x := 1000) (pc2 := 196) rfl ic_1000 rfl (
      jr_g fun hd => r_irem (pc2 := 197) rfl rfl hd ⟨by decide, by decide⟩ (
      r_iret rfl rfl)))) (fun _ =>
      r_ic (x := -1) (pc2 := 188) rfl ic_m1 rfl (
      r_goto (t := 197) rfl (
      r_iret rfl rfl))))))))))))))))))))))))))))))))))))))))))))))))
theorem rf_cf_isBestBothWays {s : gm_S} {n m : Nat} (hs : gm_sh s n m) (d : Nat)  (g : gm_T) (a1 : Int) (a2 : Int) (a3 : Int) (a4 : Int)  : jr (pI s g) (cf_isBestBothWays n g a1 a2 a3 a4) (jm_cl jm_CD km_n (d + 5) 38 [.ref 10, gv a1, gv a2, gv a3, gv a4] (gm_h s g)) := by
  unfold cf_isBestBothWays
  exact (r_ent (cd := cd_38) (n := 5) (L0 := [some (.ref 10), some (gv a1), some (gv a2), some (gv a3), some (gv a4)]) rfl rfl rfl rfl (
      r_aload (pc2 := 1) rfl rfl rfl (
      r_iload (pc2 := 2) rfl rfl rfl (
      r_iload (pc2 := 3) rfl rfl rfl (
      r_iload (pc2 := 4) rfl rfl rfl (
      r_iload (pc2 := 6) rfl rfl rfl (
      r_callVL (pc2 := 9) (args := [.ref 10, gv a1, gv a2, gv a3, gv a4]) (st2 := []) rfl rfl rfl rfl rfl rfl (rc_of (sh_T hs rfl rfl)) (rf_cf_fitting hs (d + 1) g a1 a2 a3 a4 ) fun v1 => (
      r_lc (pc2 := 10) rfl rfl (
      r_lcmp (pc2 := 11) rfl rfl (
      r_iflt (pc2 := 14) (t := 42) rfl (rg_toInt _) rfl (fun _ =>
      r_ic (x := 0) (pc2 := 43) rfl ic_0 rfl (
      r_zret rfl (by decide) rfl)) (fun _ =>
      r_aload (pc2 := 15) rfl rfl rfl (
      r_iload (pc2 := 16) rfl rfl rfl (
      r_iload (pc2 := 17) rfl rfl rfl (
      r_iload (pc2 := 18) rfl rfl rfl (
      r_iload (pc2 := 20) rfl rfl rfl (
      r_callVP (pc2 := 23) (args := [.ref 10, gv a1, gv a2, gv a3, gv a4]) (st2 := []) rfl rfl rfl rfl rfl rfl (rc_of (sh_T hs rfl rfl)) (rf_cf_rivalOf hs d g a1 a2 a3 a4 ) fun v2 => (
      jr_g fun h3 => r_ifge (pc2 := 26) (t := 42) rfl h3 rfl (fun _ =>
      r_aload (pc2 := 27) rfl rfl rfl (
      r_iload (pc2 := 28) rfl rfl rfl (
      r_iload (pc2 := 30) rfl rfl rfl (
      r_iload (pc2 := 31) rfl rfl rfl (
      r_iload (pc2 := 32) rfl rfl rfl (
      r_callVP (pc2 := 35) (args := [.ref 10, gv a3, gv a4, gv a1, gv a2]) (st2 := []) rfl rfl rfl rfl rfl rfl (rc_of (sh_T hs rfl rfl)) (rf_cf_rivalOf hs d g a3 a4 a1 a2 ) fun v4 => (
      jr_g fun h5 => r_ifge (pc2 := 38) (t := 42) rfl h5 rfl (fun _ =>
      r_ic (x := 1) (pc2 := 39) rfl ic_1 rfl (
      r_goto (t := 43) rfl (
      r_zret rfl (by decide) rfl))) (fun _ =>
      r_ic (x := 0) (pc2 := 43) rfl ic_0 rfl (
      r_zret rfl (by decide) rfl))))))))) (fun _ =>
      r_ic (x := 0) (pc2 := 43) rfl ic_0 rfl (
      r_zret rfl (by decide) rfl)))))))))))))))))))
theorem rf_cj_addBit {s : gm_S} {n m : Nat} (hs : gm_sh s n m) (d : Nat)  (g : gm_T) (a1 : Int)  : jr (eV s) (cj_addBit g a1) (jm_cl jm_CD km_n (d + 1) 41 [.ref 14, gv a1] (gm_h s g)) := by
  unfold cj_addBit
  exact (r_ent (cd := cd_41) (n := 2) (L0 := [some (.ref 14), some (gv a1)]) rfl rfl rfl rfl (
      r_aload (pc2 := 1) rfl rfl rfl (
      r_getA (pc2 := 4) rfl rfl (sh_T hs rfl rfl) (sh_A hs rfl rfl) (
      r_iload (pc2 := 5) rfl rfl rfl (
      r_ic (x := 1) (pc2 := 6) rfl ic_1 rfl (
      r_iload (pc2 := 7) rfl rfl rfl (
      r_ishl (pc2 := 8) rfl rfl (
      jr_g fun h2 => r_iast (len := 30) (pc2 := 9) rfl rfl (sh_T hs rfl rfl) (sh_L hs rfl rfl) rfl h2 fun g1 => (
      r_vret rfl rfl)))))))))
theorem rf_cj_isIn {s : gm_S} {n m : Nat} (hs : gm_sh s n m) (d : Nat)  (g : gm_T) (a0 : Int64) (a2 : Int)  : jr (pI s g) (cj_isIn g a0 a2) (jm_cl jm_CD km_n (d + 1) 43 [.long a0, gv a2] (gm_h s g)) := by
  unfold cj_isIn
  exact (r_ent (cd := cd_43) (n := 3) (L0 := [some (.long a0), none, some (gv a2)]) rfl rfl rfl rfl (
      r_lload (pc2 := 1) rfl rfl rfl (
      r_iload (pc2 := 2) rfl rfl rfl (
      r_lshr (pc2 := 3) rfl rfl (
      r_lc (pc2 := 4) rfl rfl (
      r_land (pc2 := 5) rfl rfl (
      r_lc (pc2 := 6) rfl rfl (
      r_lcmp (pc2 := 7) rfl rfl (
      r_ifeq (pc2 := 10) (t := 14) rfl (rg_toInt _) rfl (fun _ =>
      r_ic (x := 0) (pc2 := 15) rfl ic_0 rfl (
      r_zret rfl (by decide) rfl)) (fun _ =>
      r_ic (x := 1) (pc2 := 11) rfl ic_1 rfl (
      r_goto (t := 15) rfl (
      r_zret rfl (by decide) rfl))))))))))))
theorem rf_cj_isThere {s : gm_S} {n m : Nat} (hs : gm_sh s n m) (d : Nat)  (g : gm_T) (a1 : Int)  : jr (pI s g) (cj_isThere g a1) (jm_cl jm_CD km_n (d + 2) 42 [.ref 14, gv a1] (gm_h s g)) := by
  unfold cj_isThere
  exact (r_ent (cd := cd_42) (n := 2) (L0 := [some (.ref 14), some (gv a1)]) rfl rfl rfl rfl (
      r_iload (pc2 := 1) rfl rfl rfl (
      jr_g fun h1 => r_iflt (pc2 := 4) (t := 27) rfl h1 rfl (fun _ =>
      r_ic (x := 0) (pc2 := 28) rfl ic_0 rfl (
      r_zret rfl (by decide) rfl)) (fun _ =>
      r_iload (pc2 := 5) rfl rfl rfl (
      r_aload (pc2 := 6) rfl rfl rfl (
      r_getI (pc2 := 9) rfl rfl (sh_T hs rfl rfl) (
      jr_g fun h2 => r_cge (pc2 := 12) (t := 27) rfl h1 h2 rfl (fun _ =>
      r_aload (pc2 := 13) rfl rfl rfl (
      r_getJ (pc2 := 16) rfl rfl (sh_T hs rfl rfl) (
      r_iload (pc2 := 17) rfl rfl rfl (
      r_callSP (pc2 := 20) (args := [.long (gm_J g 14 5), gv a1]) (st2 := []) rfl rfl rfl rfl rfl rfl (rf_cj_isIn hs d g (gm_J g 14 5) a1 ) fun v3 => (
      jr_g fun h4 => r_ifeq (pc2 := 23) (t := 27) rfl h4 rfl (fun _ =>
      r_ic (x := 0) (pc2 := 28) rfl ic_0 rfl (
      r_zret rfl (by decide) rfl)) (fun _ =>
      r_ic (x := 1) (pc2 := 24) rfl ic_1 rfl (
      r_goto (t := 28) rfl (
      r_zret rfl (by decide) rfl)))))))) (fun _ =>
      r_ic (x := 0) (pc2 := 28) rfl ic_0 rfl (
      r_zret rfl (by decide) rfl)))))))))
theorem rl_cj_isTaken_l2 {s : gm_S} {n m : Nat} (hs : gm_sh s n m) (d : Nat)  (g : gm_T) (c1 : Int) (c2 : Int)  : ∀ (fuel : Nat) (v3 : Int) (j4 : Option Value) (j5 : Option Value) (hj4 : jm_lg j4 = false) (hj5 : jm_lg j5 = false), jr (pI s g) (cj_isTaken_l2 g c1 c2 fuel v3) (jm_sup cd_44 (jm_cl jm_CD km_n (d + 1)) (2, [some (.ref 14), some (gv c1), some (gv c2), some (gv v3), j4, j5], [], gm_h s g)) := by
  intro fuel
  induction fuel with
  | zero => intros; exact jr_none
  | succ fuel ih =>
    intro v3 j4 j5 hj4 hj5
    unfold cj_isTaken_l2
    exact (
      r_iload (pc2 := 3) rfl rfl rfl (
      r_aload (pc2 := 4) rfl rfl rfl (
      r_getI (pc2 := 7) rfl rfl (sh_T hs rfl rfl) (
      jr_g fun h6 => r_cge (pc2 := 10) (t := 93) rfl h6.1 h6.2 rfl (fun _ =>
      r_aload (pc2 := 11) rfl rfl rfl (
      r_getA (pc2 := 14) rfl rfl (sh_T hs rfl rfl) (sh_A hs rfl rfl) (
      r_iload (pc2 := 15) rfl rfl rfl (
      jr_g fun h7 => r_iald (len := 60) (pc2 := 16) rfl rfl (sh_T hs rfl rfl) (sh_L hs rfl rfl) rfl h7 (
      r_iload (pc2 := 17) rfl rfl rfl (
      r_b1 (R1 := (fun (q : Int) (c : Option jm_R) => c = jm_sup cd_44 (jm_cl jm_CD km_n (d + 1)) (35, [some (.ref 14), some (gv c1), some (gv c2), some (gv v3), j4, j5], [gv q], gm_h s g))) (
      jr_g fun h9 => r_cne (pc2 := 20) (t := 34) rfl h9.1 h9.2 rfl (fun _ =>
      r_aload (pc2 := 21) rfl rfl rfl (
      r_getA (pc2 := 24) rfl rfl (sh_T hs rfl rfl) (sh_A hs rfl rfl) (
      r_iload (pc2 := 25) rfl rfl rfl (
      r_iald (len := 60) (pc2 := 26) rfl rfl (sh_T hs rfl rfl) (sh_L hs rfl rfl) rfl h7 (
      r_iload (pc2 := 27) rfl rfl rfl (
      jr_g fun h10 => r_cne (pc2 := 30) (t := 34) rfl h10.1 h10.2 rfl (fun _ =>
      r_ic (x := 1) (pc2 := 31) rfl ic_1 rfl (
      r_goto (t := 35) rfl (
      jr_leaf rfl))) (fun _ =>
      r_ic (x := 0) (pc2 := 35) rfl ic_0 rfl (
      jr_leaf rfl)))))))) (fun _ =>
      r_ic (x := 0) (pc2 := 35) rfl ic_0 rfl (
      jr_leaf rfl))) (fun v8 c h => match c, h with | _, rfl => (
      r_istore (L2 := [some (.ref 14), some (gv c1), some (gv c2), some (gv v3), some (gv v8), j5]) (pc2 := 37) rfl rfl rfl (
      r_aload (pc2 := 38) rfl rfl rfl (
      r_getA (pc2 := 41) rfl rfl (sh_T hs rfl rfl) (sh_A hs rfl rfl) (
      r_iload (pc2 := 42) rfl rfl rfl (
      r_iald (len := 60) (pc2 := 43) rfl rfl (sh_T hs rfl rfl) (sh_L hs rfl rfl) rfl h7 (
      r_iload (pc2 := 44) rfl rfl rfl (
      r_b1 (R1 := (fun (q : Int) (c : Option jm_R) => c = jm_sup cd_44 (jm_cl jm_CD km_n (d + 1)) (62, [some (.ref 14), some (gv c1), some (gv c2), some (gv v3), some (gv v8), j5], [gv q], gm_h s g))) (
      jr_g fun h12 => r_cne (pc2 := 47) (t := 61) rfl h12.1 h12.2 rfl (fun _ =>
      r_aload (pc2 := 48) rfl rfl rfl (
      r_getA (pc2 := 51) rfl rfl (sh_T hs rfl rfl) (sh_A hs rfl rfl) (
      r_iload (pc2 := 52) rfl rfl rfl (
      r_iald (len := 60) (pc2 := 53) rfl rfl (sh_T hs rfl rfl) (sh_L hs rfl rfl) rfl h7 (
      r_iload (pc2 := 54) rfl rfl rfl (
      jr_g fun h13 => r_cne (pc2 := 57) (t := 61) rfl h13.1 h13.2 rfl (fun _ =>
      r_ic (x := 1) (pc2 := 58) rfl ic_1 rfl (
      r_goto (t := 62) rfl (
      jr_leaf rfl))) (fun _ =>
      r_ic (x := 0) (pc2 := 62) rfl ic_0 rfl (
      jr_leaf rfl)))))))) (fun _ =>
      r_ic (x := 0) (pc2 := 62) rfl ic_0 rfl (
      jr_leaf rfl))) (fun v11 c h => match c, h with | _, rfl => (
      r_istore (L2 := [some (.ref 14), some (gv c1), some (gv c2), some (gv v3), some (gv v8), some (gv v11)]) (pc2 := 64) rfl rfl rfl (
      r_aload (pc2 := 65) rfl rfl rfl (
      r_getJ (pc2 := 68) rfl rfl (sh_T hs rfl rfl) (
      r_iload (pc2 := 69) rfl rfl rfl (
      r_callSP (pc2 := 72) (args := [.long (gm_J g 14 5), gv v3]) (st2 := []) rfl rfl rfl rfl rfl rfl (rf_cj_isIn hs d g (gm_J g 14 5) v3 ) fun v14 => (
      jr_g fun h15 => r_ifeq (pc2 := 75) (t := 87) rfl h15 rfl (fun _ =>
      r_iinc (kk := 1) (L2 := [some (.ref 14), some (gv c1), some (gv c2), some (gv (v3 + 1)), some (gv v8), some (gv v11)]) (pc2 := 90) rfl ic_1 rfl rfl rfl (
      r_goto (t := 2) rfl (
      ih (v3 + 1) _ _ rfl rfl))) (fun _ =>
      r_iload (pc2 := 77) rfl rfl rfl (
      jr_g fun h17 => r_ifne (pc2 := 80) (t := 85) rfl h17 rfl (fun _ =>
      r_iload (pc2 := 82) rfl rfl rfl (
      jr_g fun h18 => r_ifeq (pc2 := 85) (t := 87) rfl h18 rfl (fun _ =>
      r_iinc (kk := 1) (L2 := [some (.ref 14), some (gv c1), some (gv c2), some (gv (v3 + 1)), some (gv v8), some (gv v11)]) (pc2 := 90) rfl ic_1 rfl rfl rfl (
      r_goto (t := 2) rfl (
      ih (v3 + 1) _ _ rfl rfl))) (fun _ =>
      r_ic (x := 1) (pc2 := 86) rfl ic_1 rfl (
      r_zret rfl (by decide) rfl)))) (fun _ =>
      r_ic (x := 1) (pc2 := 86) rfl ic_1 rfl (
      r_zret rfl (by decide) rfl))))))))))))))))))))))))) (fun _ =>
      r_ic (x := 0) (pc2 := 94) rfl ic_0 rfl (
      r_zret rfl (by decide) rfl))))))
theorem rf_cj_isTaken {s : gm_S} {n m : Nat} (hs : gm_sh s n m) (d : Nat)  (g : gm_T) (a1 : Int) (a2 : Int)  : jr (pI s g) (cj_isTaken g a1 a2) (jm_cl jm_CD km_n (d + 2) 44 [.ref 14, gv a1, gv a2] (gm_h s g)) := by
  unfold cj_isTaken
  exact (r_ent (cd := cd_44) (n := 6) (L0 := [some (.ref 14), some (gv a1), some (gv a2), none, none, none]) rfl rfl rfl rfl (
      r_ic (x := 0) (pc2 := 1) rfl ic_0 rfl (
      r_istore (L2 := [some (.ref 14), some (gv a1), some (gv a2), some (gv 0), none, none]) (pc2 := 2) rfl rfl rfl (
      rl_cj_isTaken_l2 hs d  g a1 a2  fz 0 _ _ rfl rfl))))
theorem rl_cj_reach_l20 {s : gm_S} {n m : Nat} (hs : gm_sh s n m) (d : Nat)  (g : gm_T) (c10 : Int64) (c12 : Int) (c13 : Int)  : ∀ (fuel : Nat) (v11 : Int) (v14 : Int) (j9 : Option Value) (j15 : Option Value) (hj9 : jm_lg j9 = false) (hj15 : jm_lg j15 = false), jr (fun (q : Int) (c : Option jm_R) => ∃ (j17 : Option Value) (j18 : Option Value), jm_lg j17 = false ∧ jm_lg j18 = false ∧ c = jm_sup cd_48 (jm_cl jm_CD km_n (d + 1)) (80, [some (.ref 14), j9, some (.long c10), none, some (gv q), some (gv c12), some (gv c13), j17, j18], [], gm_h s g)) (cj_reach_l20 g c10 c12 c13 fuel v11 v14) (jm_sup cd_48 (jm_cl jm_CD km_n (d + 1)) (20, [some (.ref 14), j9, some (.long c10), none, some (gv v11), some (gv c12), some (gv c13), some (gv v14), j15], [], gm_h s g)) := by
  intro fuel
  induction fuel with
  | zero => intros; exact jr_none
  | succ fuel ih =>
    intro v11 v14 j9 j15 hj9 hj15
    unfold cj_reach_l20
    exact (
      r_iload (pc2 := 22) rfl rfl rfl (
      r_aload (pc2 := 23) rfl rfl rfl (
      r_getI (pc2 := 26) rfl rfl (sh_T hs rfl rfl) (
      jr_g fun h19 => r_cge (pc2 := 29) (t := 80) rfl h19.1 h19.2 rfl (fun _ =>
      r_ic (x := 1) (pc2 := 30) rfl ic_1 rfl (
      r_aload (pc2 := 31) rfl rfl rfl (
      r_getA (pc2 := 34) rfl rfl (sh_T hs rfl rfl) (sh_A hs rfl rfl) (
      r_iload (pc2 := 36) rfl rfl rfl (
      jr_g fun h20 => r_iald (len := 60) (pc2 := 37) rfl rfl (sh_T hs rfl rfl) (sh_L hs rfl rfl) rfl h20 (
      r_ishl (pc2 := 38) rfl rfl (
      r_ic (x := 1) (pc2 := 39) rfl ic_1 rfl (
      r_aload (pc2 := 40) rfl rfl rfl (
      r_getA (pc2 := 43) rfl rfl (sh_T hs rfl rfl) (sh_A hs rfl rfl) (
      r_iload (pc2 := 45) rfl rfl rfl (
      r_iald (len := 60) (pc2 := 46) rfl rfl (sh_T hs rfl rfl) (sh_L hs rfl rfl) rfl h20 (
      r_ishl (pc2 := 47) rfl rfl (
      r_ior (pc2 := 48) rfl rfl (
      r_istoreL (L3 := fun v21 => [some (.ref 14), j9, some (.long c10), none, some (gv v11), some (gv c12), some (gv c13), some (gv v14), some (gv v21)]) (pc2 := 50) rfl rfl (fun _ => rfl) fun v21 => (
      r_lload (pc2 := 51) rfl rfl rfl (
      r_iload (pc2 := 53) rfl rfl rfl (
      r_callSP (pc2 := 56) (args := [.long c10, gv v14]) (st2 := []) rfl rfl rfl rfl rfl rfl (rf_cj_isIn hs d g c10 v14 ) fun v22 => (
      jr_g fun h23 => r_ifeq (pc2 := 59) (t := 74) rfl h23 rfl (fun _ =>
      r_iinc (kk := 1) (L2 := [some (.ref 14), j9, some (.long c10), none, some (gv v11), some (gv c12), some (gv c13), some (gv (v14 + 1)), some (gv v21)]) (pc2 := 77) rfl ic_1 rfl rfl rfl (
      r_goto (t := 20) rfl (
      ih v11 (v14 + 1) _ _ hj9 rfl))) (fun _ =>
      r_iload (pc2 := 61) rfl rfl rfl (
      r_iload (pc2 := 63) rfl rfl rfl (
      r_iand (pc2 := 64) rfl rfl (
      r_ifeq (pc2 := 67) (t := 74) rfl (rg_toInt _) rfl (fun _ =>
      r_iinc (kk := 1) (L2 := [some (.ref 14), j9, some (.long c10), none, some (gv v11), some (gv c12), some (gv c13), some (gv (v14 + 1)), some (gv v21)]) (pc2 := 77) rfl ic_1 rfl rfl rfl (
      r_goto (t := 20) rfl (
      ih v11 (v14 + 1) _ _ hj9 rfl))) (fun _ =>
      r_iload (pc2 := 69) rfl rfl rfl (
      r_iload (pc2 := 71) rfl rfl rfl (
      r_ior (pc2 := 72) rfl rfl (
      r_istoreL (L3 := fun v26 => [some (.ref 14), j9, some (.long c10), none, some (gv v26), some (gv c12), some (gv c13), some (gv v14), some (gv v21)]) (pc2 := 74) rfl rfl (fun _ => rfl) fun v26 => (
      r_iinc (kk := 1) (L2 := [some (.ref 14), j9, some (.long c10), none, some (gv v26), some (gv c12), some (gv c13), some (gv (v14 + 1)), some (gv v21)]) (pc2 := 77) rfl ic_1 rfl rfl rfl (
      r_goto (t := 20) rfl (
      ih v26 (v14 + 1) _ _ hj9 rfl))))))))))))))))))))))))))))) (fun _ =>
      jr_leaf ⟨_, _, rfl, hj15, rfl⟩)))))
theorem rl_cj_reach_l6 {s : gm_S} {n m : Nat} (hs : gm_sh s n m) (d : Nat)  (g : gm_T) (c2 : Int64)  : ∀ (fuel : Nat) (v3 : Int) (v4 : Int) (j1 : Option Value) (j5 : Option Value) (j6 : Option Value) (j7 : Option Value) (hj1 : jm_lg j1 = false) (hj5 : jm_lg j5 = false) (hj6 : jm_lg j6 = false) (hj7 : jm_lg j7 = false), jr (pI s g) (cj_reach_l6 g c2 fuel v3 v4) (jm_sup cd_48 (jm_cl jm_CD km_n (d + 1)) (6, [some (.ref 14), j1, some (.long c2), none, some (gv v3), some (gv v4), j5, j6, j7], [], gm_h s g)) := by
  intro fuel
  induction fuel with
  | zero => intros; exact jr_none
  | succ fuel ih =>
    intro v3 v4 j1 j5 j6 j7 hj1 hj5 hj6 hj7
    unfold cj_reach_l6
    exact (
      r_iload (pc2 := 8) rfl rfl rfl (
      r_ic (x := 30) (pc2 := 10) rfl ic_30 rfl (
      jr_g fun h8 => r_cge (pc2 := 13) (t := 96) rfl h8 (rgk rfl) rfl (fun _ =>
      r_iload (pc2 := 15) rfl rfl rfl (
      r_istore (L2 := [some (.ref 14), j1, some (.long c2), none, some (gv v3), some (gv v4), some (gv v3), j6, j7]) (pc2 := 17) rfl rfl rfl (
      r_ic (x := 0) (pc2 := 18) rfl ic_0 rfl (
      r_istore (L2 := [some (.ref 14), j1, some (.long c2), none, some (gv v3), some (gv v4), some (gv v3), some (gv 0), j7]) (pc2 := 20) rfl rfl rfl (
      r_b1 (rl_cj_reach_l20 hs d  g c2 v4 v3  fz v3 0 _ _ hj1 hj7) (fun v29 c h => match c, h with | _, ⟨j30, j31, hj30, hj31, rfl⟩ => (
      r_iload (pc2 := 82) rfl rfl rfl (
      r_iload (pc2 := 84) rfl rfl rfl (
      jr_g fun h32 => r_cne (pc2 := 87) (t := 90) rfl h32.1 h32.2 rfl (fun _ =>
      r_iload (pc2 := 89) rfl rfl rfl (
      r_iret rfl rfl)) (fun _ =>
      r_iinc (kk := 1) (L2 := [some (.ref 14), j1, some (.long c2), none, some (gv v29), some (gv (v4 + 1)), some (gv v3), j30, j31]) (pc2 := 93) rfl ic_1 rfl rfl rfl (
      r_goto (t := 6) rfl (
      ih v29 (v4 + 1) _ _ _ _ hj1 rfl hj30 hj31)))))))))))) (fun _ =>
      r_iload (pc2 := 98) rfl rfl rfl (
      r_iret rfl rfl)))))
theorem rf_cj_reach {s : gm_S} {n m : Nat} (hs : gm_sh s n m) (d : Nat)  (g : gm_T) (a1 : Int) (a2 : Int64)  : jr (pI s g) (cj_reach g a1 a2) (jm_cl jm_CD km_n (d + 2) 48 [.ref 14, gv a1, .long a2] (gm_h s g)) := by
  unfold cj_reach
  exact (r_ent (cd := cd_48) (n := 9) (L0 := [some (.ref 14), some (gv a1), some (.long a2), none, none, none, none, none, none]) rfl rfl rfl rfl (
      r_iload (pc2 := 1) rfl rfl rfl (
      r_istore (L2 := [some (.ref 14), some (gv a1), some (.long a2), none, some (gv a1), none, none, none, none]) (pc2 := 3) rfl rfl rfl (
      r_ic (x := 0) (pc2 := 4) rfl ic_0 rfl (
      r_istore (L2 := [some (.ref 14), some (gv a1), some (.long a2), none, some (gv a1), some (gv 0), none, none, none]) (pc2 := 6) rfl rfl rfl (
      rl_cj_reach_l6 hs d  g a2  fz a1 0 _ _ _ _ rfl rfl rfl rfl))))))
theorem rl_cj_regroup_l2 {s : gm_S} {n m : Nat} (hs : gm_sh s n m) (d : Nat)  (c1 : Int)  : ∀ (fuel : Nat) (v2 : Int) (g3 : gm_T), jr (fun (q : gm_T) (c : Option jm_R) => ∃ (j4 : Option Value), jm_lg j4 = false ∧ c = jm_sup cd_47 (jm_cl jm_CD km_n (d + 2)) (39, [some (.ref 14), some (gv c1), j4], [], gm_h s q)) (cj_regroup_l2  c1 fuel v2 g3) (jm_sup cd_47 (jm_cl jm_CD km_n (d + 2)) (2, [some (.ref 14), some (gv c1), some (gv v2)], [], gm_h s g3)) := by
  intro fuel
  induction fuel with
  | zero => intros; exact jr_none
  | succ fuel ih =>
    intro v2 g3  
    unfold cj_regroup_l2
    exact (
      r_iload (pc2 := 3) rfl rfl rfl (
      r_ic (x := 30) (pc2 := 5) rfl ic_30 rfl (
      jr_g fun h6 => r_cge (pc2 := 8) (t := 39) rfl h6 (rgk rfl) rfl (fun _ =>
      r_iload (pc2 := 9) rfl rfl rfl (
      r_iload (pc2 := 10) rfl rfl rfl (
      r_ishr (pc2 := 11) rfl rfl (
      r_ic (x := 1) (pc2 := 12) rfl ic_1 rfl (
      r_iand (pc2 := 13) rfl rfl (
      r_ifeq (pc2 := 16) (t := 33) rfl (rg_toInt _) rfl (fun _ =>
      r_iinc (kk := 1) (L2 := [some (.ref 14), some (gv c1), some (gv (v2 + 1))]) (pc2 := 36) rfl ic_1 rfl rfl rfl (
      r_goto (t := 2) rfl (
      ih (v2 + 1) g3))) (fun _ =>
      r_aload (pc2 := 17) rfl rfl rfl (
      r_getA (pc2 := 20) rfl rfl (sh_T hs rfl rfl) (sh_A hs rfl rfl) (
      r_iload (pc2 := 21) rfl rfl rfl (
      r_aload (pc2 := 22) rfl rfl rfl (
      r_ic (x := 1) (pc2 := 23) rfl ic_1 rfl (
      r_iload (pc2 := 24) rfl rfl rfl (
      r_ishl (pc2 := 25) rfl rfl (
      r_aload (pc2 := 26) rfl rfl rfl (
      r_getJ (pc2 := 29) rfl rfl (sh_T hs rfl rfl) (
      r_callVP (pc2 := 32) (args := [.ref 14, gv (zSl 1 v2), .long (gm_J g3 14 5)]) (st2 := [gv v2, .ref 19]) rfl rfl rfl rfl rfl rfl (rc_of (sh_T hs rfl rfl)) (rf_cj_reach hs d g3 (zSl 1 v2) (gm_J g3 14 5) ) fun v8 => (
      jr_g fun h10 => r_iast (len := 30) (pc2 := 33) rfl rfl (sh_T hs rfl rfl) (sh_L hs rfl rfl) rfl h10 fun g9 => (
      r_iinc (kk := 1) (L2 := [some (.ref 14), some (gv c1), some (gv (v2 + 1))]) (pc2 := 36) rfl ic_1 rfl rfl rfl (
      r_goto (t := 2) rfl (
      ih (v2 + 1) g9)))))))))))))))))))) (fun _ =>
      jr_leaf ⟨_, rfl, rfl⟩))))
theorem rf_cj_regroup {s : gm_S} {n m : Nat} (hs : gm_sh s n m) (d : Nat)  (g : gm_T) (a1 : Int)  : jr (eV s) (cj_regroup g a1) (jm_cl jm_CD km_n (d + 3) 47 [.ref 14, gv a1] (gm_h s g)) := by
  unfold cj_regroup
  exact (r_ent (cd := cd_47) (n := 3) (L0 := [some (.ref 14), some (gv a1), none]) rfl rfl rfl rfl (
      r_ic (x := 0) (pc2 := 1) rfl ic_0 rfl (
      r_istore (L2 := [some (.ref 14), some (gv a1), some (gv 0)]) (pc2 := 2) rfl rfl rfl (
      r_b1 (rl_cj_regroup_l2 hs d   a1  fz 0 g  ) (fun g13 c h => match c, h with | _, ⟨j12, hj12, rfl⟩ => (
      r_vret rfl rfl))))))
theorem rf_cj_add {s : gm_S} {n m : Nat} (hs : gm_sh s n m) (d : Nat)  (g : gm_T) (a1 : Int) (a2 : Int) (a3 : Int) (a4 : Int)  : jr (eI s) (cj_add g a1 a2 a3 a4) (jm_cl jm_CD km_n (d + 4) 45 [.ref 14, gv a1, gv a2, gv a3, gv a4] (gm_h s g)) := by
  unfold cj_add
  exact (r_ent (cd := cd_45) (n := 6) (L0 := [some (.ref 14), some (gv a1), some (gv a2), some (gv a3), some (gv a4), none]) rfl rfl rfl rfl (
      r_aload (pc2 := 1) rfl rfl rfl (
      r_getI (pc2 := 4) rfl rfl (sh_T hs rfl rfl) (
      r_istoreL (L3 := fun v1 => [some (.ref 14), some (gv a1), some (gv a2), some (gv a3), some (gv a4), some (gv v1)]) (pc2 := 6) rfl rfl (fun _ => rfl) fun v1 => (
      r_aload (pc2 := 7) rfl rfl rfl (
      r_getA (pc2 := 10) rfl rfl (sh_T hs rfl rfl) (sh_A hs rfl rfl) (
      r_iload (pc2 := 12) rfl rfl rfl (
      r_iload (pc2 := 13) rfl rfl rfl (
      jr_g fun h3 => r_iast (len := 60) (pc2 := 14) rfl rfl (sh_T hs rfl rfl) (sh_L hs rfl rfl) rfl h3 fun g2 => (
      r_aload (pc2 := 15) rfl rfl rfl (
      r_getA (pc2 := 18) rfl rfl (sh_T hs rfl rfl) (sh_A hs rfl rfl) (
      r_iload (pc2 := 20) rfl rfl rfl (
      r_iload (pc2 := 21) rfl rfl rfl (
      r_iast (len := 60) (pc2 := 22) rfl rfl (sh_T hs rfl rfl) (sh_L hs rfl rfl) rfl h3 fun g4 => (
      r_aload (pc2 := 23) rfl rfl rfl (
      r_getA (pc2 := 26) rfl rfl (sh_T hs rfl rfl) (sh_A hs rfl rfl) (
      r_iload (pc2 := 28) rfl rfl rfl (
      r_iload (pc2 := 29) rfl rfl rfl (
      r_iast (len := 60) (pc2 := 30) rfl rfl (sh_T hs rfl rfl) (sh_L hs rfl rfl) rfl h3 fun g5 => (
      r_aload (pc2 := 31) rfl rfl rfl (
      r_getA (pc2 := 34) rfl rfl (sh_T hs rfl rfl) (sh_A hs rfl rfl) (
      r_iload (pc2 := 36) rfl rfl rfl (
      r_iload (pc2 := 38) rfl rfl rfl (
      r_iast (len := 60) (pc2 := 39) rfl rfl (sh_T hs rfl rfl) (sh_L hs rfl rfl) rfl h3 fun g6 => (
      r_aload (pc2 := 40) rfl rfl rfl (
      r_dup (pc2 := 41) rfl rfl rfl (
      r_getI (pc2 := 44) rfl rfl (sh_T hs rfl rfl) (
      r_ic (x := 1) (pc2 := 45) rfl ic_1 rfl (
      r_iadd (pc2 := 46) rfl rfl (
      r_putI (pc2 := 49) rfl rfl (sh_T hs rfl rfl) fun g7 => (
      r_aload (pc2 := 50) rfl rfl rfl (
      r_dup (pc2 := 51) rfl rfl rfl (
      r_getJ (pc2 := 54) rfl rfl (sh_T hs rfl rfl) (
      r_lc (pc2 := 55) rfl rfl (
      r_iload (pc2 := 57) rfl rfl rfl (
      r_lshl (pc2 := 58) rfl rfl (
      r_lor (pc2 := 59) rfl rfl (
      r_putJ (pc2 := 62) rfl rfl (sh_T hs rfl rfl) fun g8 => (
      r_aload (pc2 := 63) rfl rfl rfl (
      r_aload (pc2 := 64) rfl rfl rfl (
      r_getA (pc2 := 67) rfl rfl (sh_T hs rfl rfl) (sh_A hs rfl rfl) (
      r_iload (pc2 := 68) rfl rfl rfl (
      jr_g fun h9 => r_iald (len := 30) (pc2 := 69) rfl rfl (sh_T hs rfl rfl) (sh_L hs rfl rfl) rfl h9 (
      r_aload (pc2 := 70) rfl rfl rfl (
      r_getA (pc2 := 73) rfl rfl (sh_T hs rfl rfl) (sh_A hs rfl rfl) (
      r_iload (pc2 := 74) rfl rfl rfl (
      jr_g fun h10 => r_iald (len := 30) (pc2 := 75) rfl rfl (sh_T hs rfl rfl) (sh_L hs rfl rfl) rfl h10 (
      r_ior (pc2 := 76) rfl rfl (
      r_callVV (pc2 := 79) (args := [.ref 14, gv (zO (gm_I g8 19 a1.toNat) (gm_I g8 19 a3.toNat))]) (st2 := []) rfl rfl rfl rfl rfl rfl (rc_of (sh_T hs rfl rfl)) (rf_cj_regroup hs d g8 (zO (gm_I g8 19 a1.toNat) (gm_I g8 19 a3.toNat)) ) fun g11 => (
      r_iload (pc2 := 81) rfl rfl rfl (
      r_iret rfl rfl)))))))))))))))))))))))))))))))))))))))))))))))))))
theorem rf_cj_remove {s : gm_S} {n m : Nat} (hs : gm_sh s n m) (d : Nat)  (g : gm_T) (a1 : Int)  : jr (eV s) (cj_remove g a1) (jm_cl jm_CD km_n (d + 4) 46 [.ref 14, gv a1] (gm_h s g)) := by
  unfold cj_remove
  exact (r_ent (cd := cd_46) (n := 2) (L0 := [some (.ref 14), some (gv a1)]) rfl rfl rfl rfl (
      r_aload (pc2 := 1) rfl rfl rfl (
      r_dup (pc2 := 2) rfl rfl rfl (
      r_getJ (pc2 := 5) rfl rfl (sh_T hs rfl rfl) (
      r_lc (pc2 := 6) rfl rfl (
      r_iload (pc2 := 7) rfl rfl rfl (
      r_lshl (pc2 := 8) rfl rfl (
      r_lc (pc2 := 11) rfl rfl (
      r_lxor (pc2 := 12) rfl rfl (
      r_land (pc2 := 13) rfl rfl (
      r_putJ (pc2 := 16) rfl rfl (sh_T hs rfl rfl) fun g1 => (
      r_aload (pc2 := 17) rfl rfl rfl (
      r_aload (pc2 := 18) rfl rfl rfl (
      r_getA (pc2 := 21) rfl rfl (sh_T hs rfl rfl) (sh_A hs rfl rfl) (
      r_aload (pc2 := 22) rfl rfl rfl (
      r_getA (pc2 := 25) rfl rfl (sh_T hs rfl rfl) (sh_A hs rfl rfl) (
      r_iload (pc2 := 26) rfl rfl rfl (
      jr_g fun h2 => r_iald (len := 60) (pc2 := 27) rfl rfl (sh_T hs rfl rfl) (sh_L hs rfl rfl) rfl h2 (
      jr_g fun h3 => r_iald (len := 30) (pc2 := 28) rfl rfl (sh_T hs rfl rfl) (sh_L hs rfl rfl) rfl h3 (
      r_callVV (pc2 := 31) (args := [.ref 14, gv (gm_I g1 19 ((gm_I g1 15 a1.toNat)).toNat)]) (st2 := []) rfl rfl rfl rfl rfl rfl (rc_of (sh_T hs rfl rfl)) (rf_cj_regroup hs d g1 (gm_I g1 19 ((gm_I g1 15 a1.toNat)).toNat) ) fun g4 => (
      r_vret rfl rfl)))))))))))))))))))))
theorem rl_cj_countAt_l4 {s : gm_S} {n m : Nat} (hs : gm_sh s n m) (d : Nat)  (g : gm_T) (c1 : Int)  : ∀ (fuel : Nat) (v2 : Int) (v3 : Int), jr (fun (q : Int) (c : Option jm_R) => ∃ (j5 : Option Value), jm_lg j5 = false ∧ c = jm_sup cd_49 (jm_cl jm_CD km_n (d + 1)) (52, [some (.ref 14), some (gv c1), some (gv q), j5], [], gm_h s g)) (cj_countAt_l4 g c1 fuel v2 v3) (jm_sup cd_49 (jm_cl jm_CD km_n (d + 1)) (4, [some (.ref 14), some (gv c1), some (gv v2), some (gv v3)], [], gm_h s g)) := by
  intro fuel
  induction fuel with
  | zero => intros; exact jr_none
  | succ fuel ih =>
    intro v2 v3  
    unfold cj_countAt_l4
    exact (
      r_iload (pc2 := 5) rfl rfl rfl (
      r_aload (pc2 := 6) rfl rfl rfl (
      r_getI (pc2 := 9) rfl rfl (sh_T hs rfl rfl) (
      jr_g fun h6 => r_cge (pc2 := 12) (t := 52) rfl h6.1 h6.2 rfl (fun _ =>
      r_aload (pc2 := 13) rfl rfl rfl (
      r_getJ (pc2 := 16) rfl rfl (sh_T hs rfl rfl) (
      r_iload (pc2 := 17) rfl rfl rfl (
      r_callSP (pc2 := 20) (args := [.long (gm_J g 14 5), gv v3]) (st2 := []) rfl rfl rfl rfl rfl rfl (rf_cj_isIn hs d g (gm_J g 14 5) v3 ) fun v7 => (
      jr_g fun h8 => r_ifeq (pc2 := 23) (t := 46) rfl h8 rfl (fun _ =>
      r_iinc (kk := 1) (L2 := [some (.ref 14), some (gv c1), some (gv v2), some (gv (v3 + 1))]) (pc2 := 49) rfl ic_1 rfl rfl rfl (
      r_goto (t := 4) rfl (
      ih v2 (v3 + 1)))) (fun _ =>
      r_aload (pc2 := 24) rfl rfl rfl (
      r_getA (pc2 := 27) rfl rfl (sh_T hs rfl rfl) (sh_A hs rfl rfl) (
      r_iload (pc2 := 28) rfl rfl rfl (
      jr_g fun h10 => r_iald (len := 60) (pc2 := 29) rfl rfl (sh_T hs rfl rfl) (sh_L hs rfl rfl) rfl h10 (
      r_iload (pc2 := 30) rfl rfl rfl (
      jr_g fun h11 => r_ceq (pc2 := 33) (t := 43) rfl h11.1 h11.2 rfl (fun _ =>
      r_iinc (kk := 1) (L2 := [some (.ref 14), some (gv c1), some (gv (v2 + 1)), some (gv v3)]) (pc2 := 46) rfl ic_1 rfl rfl rfl (
      r_iinc (kk := 1) (L2 := [some (.ref 14), some (gv c1), some (gv (v2 + 1)), some (gv (v3 + 1))]) (pc2 := 49) rfl ic_1 rfl rfl rfl (
      r_goto (t := 4) rfl (
      ih (v2 + 1) (v3 + 1))))) (fun _ =>
      r_aload (pc2 := 34) rfl rfl rfl (
      r_getA (pc2 := 37) rfl rfl (sh_T hs rfl rfl) (sh_A hs rfl rfl) (
      r_iload (pc2 := 38) rfl rfl rfl (
      r_iald (len := 60) (pc2 := 39) rfl rfl (sh_T hs rfl rfl) (sh_L hs rfl rfl) rfl h10 (
      r_iload (pc2 := 40) rfl rfl rfl (
      jr_g fun h14 => r_cne (pc2 := 43) (t := 46) rfl h14 h11.2 rfl (fun _ =>
      r_iinc (kk := 1) (L2 := [some (.ref 14), some (gv c1), some (gv (v2 + 1)), some (gv v3)]) (pc2 := 46) rfl ic_1 rfl rfl rfl (
      r_iinc (kk := 1) (L2 := [some (.ref 14), some (gv c1), some (gv (v2 + 1)), some (gv (v3 + 1))]) (pc2 := 49) rfl ic_1 rfl rfl rfl (
      r_goto (t := 4) rfl (
      ih (v2 + 1) (v3 + 1))))) (fun _ =>
      r_iinc (kk := 1) (L2 := [some (.ref 14), some (gv c1), some (gv v2), some (gv (v3 + 1))]) (pc2 := 49) rfl ic_1 rfl rfl rfl (
      r_goto (t := 4) rfl (
      ih v2 (v3 + 1))))))))))))))))))))) (fun _ =>
      jr_leaf ⟨_, rfl, rfl⟩)))))
theorem rf_cj_countAt {s : gm_S} {n m : Nat} (hs : gm_sh s n m) (d : Nat)  (g : gm_T) (a1 : Int)  : jr (pI s g) (cj_countAt g a1) (jm_cl jm_CD km_n (d + 2) 49 [.ref 14, gv a1] (gm_h s g)) := by
  unfold cj_countAt
  exact (r_ent (cd := cd_49) (n := 4) (L0 := [some (.ref 14), some (gv a1), none, none]) rfl rfl rfl rfl (
      r_ic (x := 0) (pc2 := 1) rfl ic_0 rfl (
      r_istore (L2 := [some (.ref 14), some (gv a1), some (gv 0), none]) (pc2 := 2) rfl rfl rfl (
      r_ic (x := 0) (pc2 := 3) rfl ic_0 rfl (
      r_istore (L2 := [some (.ref 14), some (gv a1), some (gv 0), some (gv 0)]) (pc2 := 4) rfl rfl rfl (
      r_b1 (rl_cj_countAt_l4 hs d  g a1  fz 0 0  ) (fun v18 c h => match c, h with | _, ⟨j19, hj19, rfl⟩ => (
      r_iload (pc2 := 53) rfl rfl rfl (
      r_iret rfl rfl)))))))))
theorem rl_cj_countIn_l4 {s : gm_S} {n m : Nat} (hs : gm_sh s n m) (d : Nat)  (g : gm_T) (c1 : Int)  : ∀ (fuel : Nat) (v2 : Int) (v3 : Int), jr (fun (q : Int) (c : Option jm_R) => ∃ (j5 : Option Value), jm_lg j5 = false ∧ c = jm_sup cd_50 (jm_cl jm_CD km_n (d + 1)) (45, [some (.ref 14), some (gv c1), some (gv q), j5], [], gm_h s g)) (cj_countIn_l4 g c1 fuel v2 v3) (jm_sup cd_50 (jm_cl jm_CD km_n (d + 1)) (4, [some (.ref 14), some (gv c1), some (gv v2), some (gv v3)], [], gm_h s g)) := by
  intro fuel
  induction fuel with
  | zero => intros; exact jr_none
  | succ fuel ih =>
    intro v2 v3  
    unfold cj_countIn_l4
    exact (
      r_iload (pc2 := 5) rfl rfl rfl (
      r_aload (pc2 := 6) rfl rfl rfl (
      r_getI (pc2 := 9) rfl rfl (sh_T hs rfl rfl) (
      jr_g fun h6 => r_cge (pc2 := 12) (t := 45) rfl h6.1 h6.2 rfl (fun _ =>
      r_aload (pc2 := 13) rfl rfl rfl (
      r_getJ (pc2 := 16) rfl rfl (sh_T hs rfl rfl) (
      r_iload (pc2 := 17) rfl rfl rfl (
      r_callSP (pc2 := 20) (args := [.long (gm_J g 14 5), gv v3]) (st2 := []) rfl rfl rfl rfl rfl rfl (rf_cj_isIn hs d g (gm_J g 14 5) v3 ) fun v7 => (
      jr_g fun h8 => r_ifeq (pc2 := 23) (t := 39) rfl h8 rfl (fun _ =>
      r_iinc (kk := 1) (L2 := [some (.ref 14), some (gv c1), some (gv v2), some (gv (v3 + 1))]) (pc2 := 42) rfl ic_1 rfl rfl rfl (
      r_goto (t := 4) rfl (
      ih v2 (v3 + 1)))) (fun _ =>
      r_iload (pc2 := 24) rfl rfl rfl (
      r_aload (pc2 := 25) rfl rfl rfl (
      r_getA (pc2 := 28) rfl rfl (sh_T hs rfl rfl) (sh_A hs rfl rfl) (
      r_iload (pc2 := 29) rfl rfl rfl (
      jr_g fun h10 => r_iald (len := 60) (pc2 := 30) rfl rfl (sh_T hs rfl rfl) (sh_L hs rfl rfl) rfl h10 (
      r_ishr (pc2 := 31) rfl rfl (
      r_ic (x := 1) (pc2 := 32) rfl ic_1 rfl (
      r_iand (pc2 := 33) rfl rfl (
      r_ifeq (pc2 := 36) (t := 39) rfl (rg_toInt _) rfl (fun _ =>
      r_iinc (kk := 1) (L2 := [some (.ref 14), some (gv c1), some (gv v2), some (gv (v3 + 1))]) (pc2 := 42) rfl ic_1 rfl rfl rfl (
      r_goto (t := 4) rfl (
      ih v2 (v3 + 1)))) (fun _ =>
      r_iinc (kk := 1) (L2 := [some (.ref 14), some (gv c1), some (gv (v2 + 1)), some (gv v3)]) (pc2 := 39) rfl ic_1 rfl rfl rfl (
      r_iinc (kk := 1) (L2 := [some (.ref 14), some (gv c1), some (gv (v2 + 1)), some (gv (v3 + 1))]) (pc2 := 42) rfl ic_1 rfl rfl rfl (
      r_goto (t := 4) rfl (
      ih (v2 + 1) (v3 + 1))))))))))))))))))) (fun _ =>
      jr_leaf ⟨_, rfl, rfl⟩)))))
theorem rf_cj_countIn {s : gm_S} {n m : Nat} (hs : gm_sh s n m) (d : Nat)  (g : gm_T) (a1 : Int)  : jr (pI s g) (cj_countIn g a1) (jm_cl jm_CD km_n (d + 2) 50 [.ref 14, gv a1] (gm_h s g)) := by
  unfold cj_countIn
  exact (r_ent (cd := cd_50) (n := 4) (L0 := [some (.ref 14), some (gv a1), none, none]) rfl rfl rfl rfl (
      r_ic (x := 0) (pc2 := 1) rfl ic_0 rfl (
      r_istore (L2 := [some (.ref 14), some (gv a1), some (gv 0), none]) (pc2 := 2) rfl rfl rfl (
      r_ic (x := 0) (pc2 := 3) rfl ic_0 rfl (
      r_istore (L2 := [some (.ref 14), some (gv a1), some (gv 0), some (gv 0)]) (pc2 := 4) rfl rfl rfl (
      r_b1 (rl_cj_countIn_l4 hs d  g a1  fz 0 0  ) (fun v14 c h => match c, h with | _, ⟨j15, hj15, rfl⟩ => (
      r_iload (pc2 := 46) rfl rfl rfl (
      r_iret rfl rfl)))))))))
theorem rl_cj_countGroups_l4 {s : gm_S} {n m : Nat} (hs : gm_sh s n m) (d : Nat)  (g : gm_T) (c1 : Int)  : ∀ (fuel : Nat) (v2 : Int) (v3 : Int), jr (fun (q : Int) (c : Option jm_R) => ∃ (j5 : Option Value), jm_lg j5 = false ∧ c = jm_sup cd_51 (jm_cl jm_CD km_n (d + 1)) (31, [some (.ref 14), some (gv c1), some (gv q), j5], [], gm_h s g)) (cj_countGroups_l4 g c1 fuel v2 v3) (jm_sup cd_51 (jm_cl jm_CD km_n (d + 1)) (4, [some (.ref 14), some (gv c1), some (gv v2), some (gv v3)], [], gm_h s g)) := by
  intro fuel
  induction fuel with
  | zero => intros; exact jr_none
  | succ fuel ih =>
    intro v2 v3  
    unfold cj_countGroups_l4
    exact (
      r_iload (pc2 := 5) rfl rfl rfl (
      r_iload (pc2 := 6) rfl rfl rfl (
      jr_g fun h6 => r_cge (pc2 := 9) (t := 31) rfl h6.1 h6.2 rfl (fun _ =>
      r_aload (pc2 := 10) rfl rfl rfl (
      r_getA (pc2 := 13) rfl rfl (sh_T hs rfl rfl) (sh_A hs rfl rfl) (
      r_iload (pc2 := 14) rfl rfl rfl (
      jr_g fun h7 => r_iald (len := 30) (pc2 := 15) rfl rfl (sh_T hs rfl rfl) (sh_L hs rfl rfl) rfl h7 (
      r_callSP (pc2 := 18) (args := [gv (gm_I g 19 v3.toNat)]) (st2 := []) rfl rfl rfl rfl rfl rfl (rf_jd_numberOfTrailingZeros hs d g (gm_I g 19 v3.toNat) ) fun v8 => (
      r_iload (pc2 := 19) rfl rfl rfl (
      jr_g fun h9 => r_cne (pc2 := 22) (t := 25) rfl h9 (rg_ix h7 rfl) rfl (fun _ =>
      r_iinc (kk := 1) (L2 := [some (.ref 14), some (gv c1), some (gv (v2 + 1)), some (gv v3)]) (pc2 := 25) rfl ic_1 rfl rfl rfl (
      r_iinc (kk := 1) (L2 := [some (.ref 14), some (gv c1), some (gv (v2 + 1)), some (gv (v3 + 1))]) (pc2 := 28) rfl ic_1 rfl rfl rfl (
      r_goto (t := 4) rfl (
      ih (v2 + 1) (v3 + 1))))) (fun _ =>
      r_iinc (kk := 1) (L2 := [some (.ref 14), some (gv c1), some (gv v2), some (gv (v3 + 1))]) (pc2 := 28) rfl ic_1 rfl rfl rfl (
      r_goto (t := 4) rfl (
      ih v2 (v3 + 1))))))))))) (fun _ =>
      jr_leaf ⟨_, rfl, rfl⟩))))
theorem rf_cj_countGroups {s : gm_S} {n m : Nat} (hs : gm_sh s n m) (d : Nat)  (g : gm_T) (a1 : Int)  : jr (pI s g) (cj_countGroups g a1) (jm_cl jm_CD km_n (d + 2) 51 [.ref 14, gv a1] (gm_h s g)) := by
  unfold cj_countGroups
  exact (r_ent (cd := cd_51) (n := 4) (L0 := [some (.ref 14), some (gv a1), none, none]) rfl rfl rfl rfl (
      r_ic (x := 0) (pc2 := 1) rfl ic_0 rfl (
      r_istore (L2 := [some (.ref 14), some (gv a1), some (gv 0), none]) (pc2 := 2) rfl rfl rfl (
      r_ic (x := 0) (pc2 := 3) rfl ic_0 rfl (
      r_istore (L2 := [some (.ref 14), some (gv a1), some (gv 0), some (gv 0)]) (pc2 := 4) rfl rfl rfl (
      r_b1 (rl_cj_countGroups_l4 hs d  g a1  fz 0 0  ) (fun v13 c h => match c, h with | _, ⟨j14, hj14, rfl⟩ => (
      r_iload (pc2 := 32) rfl rfl rfl (
      r_iret rfl rfl)))))))))
theorem rf_cj_spread {s : gm_S} {n m : Nat} (hs : gm_sh s n m) (d : Nat)  (g : gm_T) (a1 : Int) (a2 : Int) (a3 : Int)  : jr (eV s) (cj_spread g a1 a2 a3) (jm_cl jm_CD km_n (d + 1) 53 [.ref 14, gv a1, gv a2, gv a3] (gm_h s g)) := by
  unfold cj_spread
  exact (r_ent (cd := cd_53) (n := 4) (L0 := [some (.ref 14), some (gv a1), some (gv a2), some (gv a3)]) rfl rfl rfl rfl (
      r_aload (pc2 := 1) rfl rfl rfl (
      r_getA (pc2 := 4) rfl rfl (sh_T hs rfl rfl) (sh_A hs rfl rfl) (
      r_iload (pc2 := 5) rfl rfl rfl (
      jr_g fun h1 => r_iald (len := 30) (pc2 := 6) rfl rfl (sh_T hs rfl rfl) (sh_L hs rfl rfl) rfl h1 (
      r_iload (pc2 := 7) rfl rfl rfl (
      jr_g fun h2 => r_cne (pc2 := 10) (t := 28) rfl h2.1 h2.2 rfl (fun _ =>
      r_aload (pc2 := 11) rfl rfl rfl (
      r_getA (pc2 := 14) rfl rfl (sh_T hs rfl rfl) (sh_A hs rfl rfl) (
      r_iload (pc2 := 15) rfl rfl rfl (
      jr_g fun h3 => r_iald (len := 30) (pc2 := 16) rfl rfl (sh_T hs rfl rfl) (sh_L hs rfl rfl) rfl h3 (
      jr_g fun h4 => r_ifge (pc2 := 19) (t := 28) rfl h4 rfl (fun _ =>
      r_aload (pc2 := 20) rfl rfl rfl (
      r_getA (pc2 := 23) rfl rfl (sh_T hs rfl rfl) (sh_A hs rfl rfl) (
      r_iload (pc2 := 24) rfl rfl rfl (
      r_iload (pc2 := 25) rfl rfl rfl (
      r_ic (x := 1) (pc2 := 26) rfl ic_1 rfl (
      r_iadd (pc2 := 27) rfl rfl (
      r_iast (len := 30) (pc2 := 28) rfl rfl (sh_T hs rfl rfl) (sh_L hs rfl rfl) rfl h3 fun g5 => (
      r_vret rfl rfl)))))))) (fun _ =>
      r_vret rfl rfl)))))) (fun _ =>
      r_vret rfl rfl))))))))
theorem rl_cj_measure_l3 {s : gm_S} {n m : Nat} (hs : gm_sh s n m) (d : Nat)  (c1 : Int) (c2 : Int64)  : ∀ (fuel : Nat) (v3 : Int) (g4 : gm_T), jr (fun (q : gm_T) (c : Option jm_R) => ∃ (j5 : Option Value), jm_lg j5 = false ∧ c = jm_sup cd_52 (jm_cl jm_CD km_n (d + 1)) (24, [some (.ref 14), some (gv c1), some (.long c2), none, j5, none], [], gm_h s q)) (cj_measure_l3  c1 c2 fuel v3 g4) (jm_sup cd_52 (jm_cl jm_CD km_n (d + 1)) (3, [some (.ref 14), some (gv c1), some (.long c2), none, some (gv v3), none], [], gm_h s g4)) := by
  intro fuel
  induction fuel with
  | zero => intros; exact jr_none
  | succ fuel ih =>
    intro v3 g4  
    unfold cj_measure_l3
    exact (
      r_iload (pc2 := 5) rfl rfl rfl (
      r_ic (x := 30) (pc2 := 7) rfl ic_30 rfl (
      jr_g fun h7 => r_cge (pc2 := 10) (t := 24) rfl h7 (rgk rfl) rfl (fun _ =>
      r_aload (pc2 := 11) rfl rfl rfl (
      r_getA (pc2 := 14) rfl rfl (sh_T hs rfl rfl) (sh_A hs rfl rfl) (
      r_iload (pc2 := 16) rfl rfl rfl (
      r_ic (x := -1) (pc2 := 17) rfl ic_m1 rfl (
      jr_g fun h9 => r_iast (len := 30) (pc2 := 18) rfl rfl (sh_T hs rfl rfl) (sh_L hs rfl rfl) rfl h9 fun g8 => (
      r_iinc (kk := 1) (L2 := [some (.ref 14), some (gv c1), some (.long c2), none, some (gv (v3 + 1)), none]) (pc2 := 21) rfl ic_1 rfl rfl rfl (
      r_goto (t := 3) rfl (
      ih (v3 + 1) g8)))))))) (fun _ =>
      jr_leaf ⟨_, rfl, rfl⟩))))
theorem rl_cj_measure_l44 {s : gm_S} {n m : Nat} (hs : gm_sh s n m) (d : Nat)  (c25 : Int64) (c26 : Int)  : ∀ (fuel : Nat) (v27 : Int) (g28 : gm_T) (j24 : Option Value) (hj24 : jm_lg j24 = false), jr (fun (q : gm_T) (c : Option jm_R) => ∃ (j29 : Option Value), jm_lg j29 = false ∧ c = jm_sup cd_52 (jm_cl jm_CD km_n (d + 1)) (108, [some (.ref 14), j24, some (.long c25), none, some (gv c26), j29], [], gm_h s q)) (cj_measure_l44  c25 c26 fuel v27 g28) (jm_sup cd_52 (jm_cl jm_CD km_n (d + 1)) (44, [some (.ref 14), j24, some (.long c25), none, some (gv c26), some (gv v27)], [], gm_h s g28)) := by
  intro fuel
  induction fuel with
  | zero => intros; exact jr_none
  | succ fuel ih =>
    intro v27 g28 j24 hj24
    unfold cj_measure_l44
    exact (
      r_iload (pc2 := 46) rfl rfl rfl (
      r_aload (pc2 := 47) rfl rfl rfl (
      r_getI (pc2 := 50) rfl rfl (sh_T hs rfl rfl) (
      jr_g fun h31 => r_cge (pc2 := 53) (t := 108) rfl h31.1 h31.2 rfl (fun _ =>
      r_lload (pc2 := 54) rfl rfl rfl (
      r_iload (pc2 := 56) rfl rfl rfl (
      r_callSP (pc2 := 59) (args := [.long c25, gv v27]) (st2 := []) rfl rfl rfl rfl rfl rfl (rf_cj_isIn hs d g28 c25 v27 ) fun v32 => (
      jr_g fun h33 => r_ifeq (pc2 := 62) (t := 102) rfl h33 rfl (fun _ =>
      r_iinc (kk := 1) (L2 := [some (.ref 14), j24, some (.long c25), none, some (gv c26), some (gv (v27 + 1))]) (pc2 := 105) rfl ic_1 rfl rfl rfl (
      r_goto (t := 44) rfl (
      ih (v27 + 1) g28 _ hj24))) (fun _ =>
      r_aload (pc2 := 63) rfl rfl rfl (
      r_aload (pc2 := 64) rfl rfl rfl (
      r_getA (pc2 := 67) rfl rfl (sh_T hs rfl rfl) (sh_A hs rfl rfl) (
      r_iload (pc2 := 69) rfl rfl rfl (
      jr_g fun h35 => r_iald (len := 60) (pc2 := 70) rfl rfl (sh_T hs rfl rfl) (sh_L hs rfl rfl) rfl h35 (
      r_aload (pc2 := 71) rfl rfl rfl (
      r_getA (pc2 := 74) rfl rfl (sh_T hs rfl rfl) (sh_A hs rfl rfl) (
      r_iload (pc2 := 76) rfl rfl rfl (
      r_iald (len := 60) (pc2 := 77) rfl rfl (sh_T hs rfl rfl) (sh_L hs rfl rfl) rfl h35 (
      r_iload (pc2 := 79) rfl rfl rfl (
      r_callVV (pc2 := 82) (args := [.ref 14, gv (gm_I g28 15 v27.toNat), gv (gm_I g28 17 v27.toNat), gv c26]) (st2 := []) rfl rfl rfl rfl rfl rfl (rc_of (sh_T hs rfl rfl)) (rf_cj_spread hs d g28 (gm_I g28 15 v27.toNat) (gm_I g28 17 v27.toNat) c26 ) fun g36 => (
      r_aload (pc2 := 83) rfl rfl rfl (
      r_aload (pc2 := 84) rfl rfl rfl (
      r_getA (pc2 := 87) rfl rfl (sh_T hs rfl rfl) (sh_A hs rfl rfl) (
      r_iload (pc2 := 89) rfl rfl rfl (
      r_iald (len := 60) (pc2 := 90) rfl rfl (sh_T hs rfl rfl) (sh_L hs rfl rfl) rfl h35 (
      r_aload (pc2 := 91) rfl rfl rfl (
      r_getA (pc2 := 94) rfl rfl (sh_T hs rfl rfl) (sh_A hs rfl rfl) (
      r_iload (pc2 := 96) rfl rfl rfl (
      r_iald (len := 60) (pc2 := 97) rfl rfl (sh_T hs rfl rfl) (sh_L hs rfl rfl) rfl h35 (
      r_iload (pc2 := 99) rfl rfl rfl (
      r_callVV (pc2 := 102) (args := [.ref 14, gv (gm_I g36 17 v27.toNat), gv (gm_I g36 15 v27.toNat), gv c26]) (st2 := []) rfl rfl rfl rfl rfl rfl (rc_of (sh_T hs rfl rfl)) (rf_cj_spread hs d g36 (gm_I g36 17 v27.toNat) (gm_I g36 15 v27.toNat) c26 ) fun g37 => (
      r_iinc (kk := 1) (L2 := [some (.ref 14), j24, some (.long c25), none, some (gv c26), some (gv (v27 + 1))]) (pc2 := 105) rfl ic_1 rfl rfl rfl (
      r_goto (t := 44) rfl (
      ih (v27 + 1) g37 _ hj24))))))))))))))))))))))))))))) (fun _ =>
      jr_leaf ⟨_, rfl, rfl⟩)))))
theorem rl_cj_measure_l34 {s : gm_S} {n m : Nat} (hs : gm_sh s n m) (d : Nat)  (c16 : Int64)  : ∀ (fuel : Nat) (v17 : Int) (g19 : gm_T) (j15 : Option Value) (j18 : Option Value) (hj15 : jm_lg j15 = false) (hj18 : jm_lg j18 = false), jr (fun (q : gm_T) (c : Option jm_R) => ∃ (j20 : Option Value) (j21 : Option Value), jm_lg j20 = false ∧ jm_lg j21 = false ∧ c = jm_sup cd_52 (jm_cl jm_CD km_n (d + 1)) (114, [some (.ref 14), j15, some (.long c16), none, j20, j21], [], gm_h s q)) (cj_measure_l34  c16 fuel v17 g19) (jm_sup cd_52 (jm_cl jm_CD km_n (d + 1)) (34, [some (.ref 14), j15, some (.long c16), none, some (gv v17), j18], [], gm_h s g19)) := by
  intro fuel
  induction fuel with
  | zero => intros; exact jr_none
  | succ fuel ih =>
    intro v17 g19 j15 j18 hj15 hj18
    unfold cj_measure_l34
    exact (
      r_iload (pc2 := 36) rfl rfl rfl (
      r_ic (x := 30) (pc2 := 38) rfl ic_30 rfl (
      jr_g fun h23 => r_cge (pc2 := 41) (t := 114) rfl h23 (rgk rfl) rfl (fun _ =>
      r_ic (x := 0) (pc2 := 42) rfl ic_0 rfl (
      r_istore (L2 := [some (.ref 14), j15, some (.long c16), none, some (gv v17), some (gv 0)]) (pc2 := 44) rfl rfl rfl (
      r_b1 (rl_cj_measure_l44 hs d   c16 v17  fz 0 g19 _ hj15) (fun g41 c h => match c, h with | _, ⟨j40, hj40, rfl⟩ => (
      r_iinc (kk := 1) (L2 := [some (.ref 14), j15, some (.long c16), none, some (gv (v17 + 1)), j40]) (pc2 := 111) rfl ic_1 rfl rfl rfl (
      r_goto (t := 34) rfl (
      ih (v17 + 1) g41 _ _ hj15 hj40))))))) (fun _ =>
      jr_leaf ⟨_, _, rfl, hj18, rfl⟩))))
theorem rf_cj_measure {s : gm_S} {n m : Nat} (hs : gm_sh s n m) (d : Nat)  (g : gm_T) (a1 : Int) (a2 : Int64)  : jr (eV s) (cj_measure g a1 a2) (jm_cl jm_CD km_n (d + 2) 52 [.ref 14, gv a1, .long a2] (gm_h s g)) := by
  unfold cj_measure
  exact (r_ent (cd := cd_52) (n := 6) (L0 := [some (.ref 14), some (gv a1), some (.long a2), none, none, none]) rfl rfl rfl rfl (
      r_ic (x := 0) (pc2 := 1) rfl ic_0 rfl (
      r_istore (L2 := [some (.ref 14), some (gv a1), some (.long a2), none, some (gv 0), none]) (pc2 := 3) rfl rfl rfl (
      r_b1 (rl_cj_measure_l3 hs d   a1 a2  fz 0 g  ) (fun g12 c h => match c, h with | _, ⟨j11, hj11, rfl⟩ => (
      r_aload (pc2 := 25) rfl rfl rfl (
      r_getA (pc2 := 28) rfl rfl (sh_T hs rfl rfl) (sh_A hs rfl rfl) (
      r_iload (pc2 := 29) rfl rfl rfl (
      r_ic (x := 0) (pc2 := 30) rfl ic_0 rfl (
      jr_g fun h14 => r_iast (len := 30) (pc2 := 31) rfl rfl (sh_T hs rfl rfl) (sh_L hs rfl rfl) rfl h14 fun g13 => (
      r_ic (x := 0) (pc2 := 32) rfl ic_0 rfl (
      r_istore (L2 := [some (.ref 14), some (gv a1), some (.long a2), none, some (gv 0), none]) (pc2 := 34) rfl rfl rfl (
      r_b1 (rl_cj_measure_l34 hs d   a2  fz 0 g13 _ _ rfl rfl) (fun g46 c h => match c, h with | _, ⟨j44, j45, hj44, hj45, rfl⟩ => (
      r_vret rfl rfl)))))))))))))))
theorem rf_cj_otherEnd {s : gm_S} {n m : Nat} (hs : gm_sh s n m) (d : Nat)  (g : gm_T) (a1 : Int) (a2 : Int)  : jr (pI s g) (cj_otherEnd g a1 a2) (jm_cl jm_CD km_n (d + 1) 55 [.ref 14, gv a1, gv a2] (gm_h s g)) := by
  unfold cj_otherEnd
  exact (r_ent (cd := cd_55) (n := 3) (L0 := [some (.ref 14), some (gv a1), some (gv a2)]) rfl rfl rfl rfl (
      r_aload (pc2 := 1) rfl rfl rfl (
      r_getA (pc2 := 4) rfl rfl (sh_T hs rfl rfl) (sh_A hs rfl rfl) (
      r_iload (pc2 := 5) rfl rfl rfl (
      jr_g fun h1 => r_iald (len := 60) (pc2 := 6) rfl rfl (sh_T hs rfl rfl) (sh_L hs rfl rfl) rfl h1 (
      r_iload (pc2 := 7) rfl rfl rfl (
      jr_g fun h2 => r_cne (pc2 := 10) (t := 17) rfl h2.1 h2.2 rfl (fun _ =>
      r_aload (pc2 := 11) rfl rfl rfl (
      r_getA (pc2 := 14) rfl rfl (sh_T hs rfl rfl) (sh_A hs rfl rfl) (
      r_iload (pc2 := 15) rfl rfl rfl (
      r_iald (len := 60) (pc2 := 16) rfl rfl (sh_T hs rfl rfl) (sh_L hs rfl rfl) rfl h1 (
      r_iret rfl rfl))))) (fun _ =>
      r_aload (pc2 := 18) rfl rfl rfl (
      r_getA (pc2 := 21) rfl rfl (sh_T hs rfl rfl) (sh_A hs rfl rfl) (
      r_iload (pc2 := 22) rfl rfl rfl (
      r_iald (len := 60) (pc2 := 23) rfl rfl (sh_T hs rfl rfl) (sh_L hs rfl rfl) rfl h1 (
      r_iload (pc2 := 24) rfl rfl rfl (
      jr_g fun h3 => r_cne (pc2 := 27) (t := 36) rfl h3 h2.2 rfl (fun _ =>
      r_aload (pc2 := 28) rfl rfl rfl (
      r_getA (pc2 := 31) rfl rfl (sh_T hs rfl rfl) (sh_A hs rfl rfl) (
      r_iload (pc2 := 32) rfl rfl rfl (
      r_iald (len := 60) (pc2 := 33) rfl rfl (sh_T hs rfl rfl) (sh_L hs rfl rfl) rfl h1 (
      r_goto (t := 37) rfl (
      r_iret rfl rfl)))))) (fun _ =>
      r_ic (x := -1) (pc2 := 37) rfl ic_m1 rfl (
      r_iret rfl rfl)))))))))))))))
theorem rl_cj_walk_l24 {s : gm_S} {n m : Nat} (hs : gm_sh s n m) (d : Nat)  (c19 : Int64) (c22 : Int)  : ∀ (fuel : Nat) (v20 : Int) (v21 : Int) (v23 : Int) (g25 : gm_T) (j18 : Option Value) (j24 : Option Value) (hj18 : jm_lg j18 = false) (hj24 : jm_lg j24 = false), jr (fun (q : Int × Int × gm_T) (c : Option jm_R) => ∃ (j28 : Option Value) (j29 : Option Value), jm_lg j28 = false ∧ jm_lg j29 = false ∧ c = jm_sup cd_54 (jm_cl jm_CD km_n (d + 1)) (98, [some (.ref 14), j18, some (.long c19), none, some (gv q.1), some (gv q.2.1), some (gv c22), j28, j29], [], gm_h s q.2.2)) (cj_walk_l24  c19 c22 fuel v20 v21 v23 g25) (jm_sup cd_54 (jm_cl jm_CD km_n (d + 1)) (24, [some (.ref 14), j18, some (.long c19), none, some (gv v20), some (gv v21), some (gv c22), some (gv v23), j24], [], gm_h s g25)) := by
  intro fuel
  induction fuel with
  | zero => intros; exact jr_none
  | succ fuel ih =>
    intro v20 v21 v23 g25 j18 j24 hj18 hj24
    unfold cj_walk_l24
    exact (
      r_iload (pc2 := 26) rfl rfl rfl (
      r_aload (pc2 := 27) rfl rfl rfl (
      r_getI (pc2 := 30) rfl rfl (sh_T hs rfl rfl) (
      jr_g fun h31 => r_cge (pc2 := 33) (t := 98) rfl h31.1 h31.2 rfl (fun _ =>
      r_lload (pc2 := 34) rfl rfl rfl (
      r_iload (pc2 := 36) rfl rfl rfl (
      r_callSP (pc2 := 39) (args := [.long c19, gv v23]) (st2 := []) rfl rfl rfl rfl rfl rfl (rf_cj_isIn hs d g25 c19 v23 ) fun v32 => (
      r_b1 (R1 := (fun (q : Int) (c : Option jm_R) => c = jm_sup cd_54 (jm_cl jm_CD km_n (d + 1)) (54, [some (.ref 14), j18, some (.long c19), none, some (gv v20), some (gv v21), some (gv c22), some (gv v23), j24], [gv q], gm_h s g25))) (
      jr_g fun h34 => r_ifeq (pc2 := 42) (t := 53) rfl h34 rfl (fun _ =>
      r_ic (x := -1) (pc2 := 54) rfl ic_m1 rfl (
      jr_leaf rfl)) (fun _ =>
      r_aload (pc2 := 43) rfl rfl rfl (
      r_iload (pc2 := 45) rfl rfl rfl (
      r_iload (pc2 := 47) rfl rfl rfl (
      r_callVP (pc2 := 50) (args := [.ref 14, gv v23, gv v20]) (st2 := []) rfl rfl rfl rfl rfl rfl (rc_of (sh_T hs rfl rfl)) (rf_cj_otherEnd hs d g25 v23 v20 ) fun v35 => (
      r_goto (t := 54) rfl (
      jr_leaf rfl))))))) (fun v33 c h => match c, h with | _, rfl => (
      r_istore (L2 := [some (.ref 14), j18, some (.long c19), none, some (gv v20), some (gv v21), some (gv c22), some (gv v23), some (gv v33)]) (pc2 := 56) rfl rfl rfl (
      r_iload (pc2 := 58) rfl rfl rfl (
      jr_g fun h36 => r_iflt (pc2 := 61) (t := 92) rfl h36 rfl (fun _ =>
      r_iinc (kk := 1) (L2 := [some (.ref 14), j18, some (.long c19), none, some (gv v20), some (gv v21), some (gv c22), some (gv (v23 + 1)), some (gv v33)]) (pc2 := 95) rfl ic_1 rfl rfl rfl (
      r_goto (t := 24) rfl (
      ih v20 v21 (v23 + 1) g25 _ _ hj18 rfl))) (fun _ =>
      r_aload (pc2 := 62) rfl rfl rfl (
      r_getA (pc2 := 65) rfl rfl (sh_T hs rfl rfl) (sh_A hs rfl rfl) (
      r_iload (pc2 := 67) rfl rfl rfl (
      jr_g fun h38 => r_iald (len := 30) (pc2 := 68) rfl rfl (sh_T hs rfl rfl) (sh_L hs rfl rfl) rfl h38 (
      r_iload (pc2 := 70) rfl rfl rfl (
      jr_g fun h39 => r_cne (pc2 := 73) (t := 92) rfl h39.1 h39.2 rfl (fun _ =>
      r_aload (pc2 := 74) rfl rfl rfl (
      r_getA (pc2 := 77) rfl rfl (sh_T hs rfl rfl) (sh_A hs rfl rfl) (
      r_iload (pc2 := 79) rfl rfl rfl (
      r_iload (pc2 := 81) rfl rfl rfl (
      jr_g fun h41 => r_iast (len := 30) (pc2 := 82) rfl rfl (sh_T hs rfl rfl) (sh_L hs rfl rfl) rfl h41 fun g40 => (
      r_iinc (kk := 1) (L2 := [some (.ref 14), j18, some (.long c19), none, some (gv v20), some (gv (v21 + 1)), some (gv c22), some (gv v23), some (gv v33)]) (pc2 := 85) rfl ic_1 rfl rfl rfl (
      r_iload (pc2 := 87) rfl rfl rfl (
      r_istore (L2 := [some (.ref 14), j18, some (.long c19), none, some (gv v33), some (gv (v21 + 1)), some (gv c22), some (gv v23), some (gv v33)]) (pc2 := 89) rfl rfl rfl (
      r_goto (t := 98) rfl (
      jr_leaf ⟨_, _, rfl, rfl, rfl⟩)))))))))) (fun _ =>
      r_iinc (kk := 1) (L2 := [some (.ref 14), j18, some (.long c19), none, some (gv v20), some (gv v21), some (gv c22), some (gv (v23 + 1)), some (gv v33)]) (pc2 := 95) rfl ic_1 rfl rfl rfl (
      r_goto (t := 24) rfl (
      ih v20 v21 (v23 + 1) g25 _ _ hj18 rfl))))))))))))))))) (fun _ =>
      jr_leaf ⟨_, _, rfl, hj24, rfl⟩)))))
theorem rl_cj_walk_l16 {s : gm_S} {n m : Nat} (hs : gm_sh s n m) (d : Nat)  (c4 : Int64)  : ∀ (fuel : Nat) (v5 : Int) (v6 : Int) (v7 : Int) (g10 : gm_T) (j3 : Option Value) (j8 : Option Value) (j9 : Option Value) (hj3 : jm_lg j3 = false) (hj8 : jm_lg j8 = false) (hj9 : jm_lg j9 = false), jr (fun (q : Int × gm_T) (c : Option jm_R) => ∃ (j11 : Option Value) (j13 : Option Value) (j14 : Option Value) (j15 : Option Value), jm_lg j11 = false ∧ jm_lg j13 = false ∧ jm_lg j14 = false ∧ jm_lg j15 = false ∧ c = jm_sup cd_54 (jm_cl jm_CD km_n (d + 1)) (104, [some (.ref 14), j3, some (.long c4), none, j11, some (gv q.1), j13, j14, j15], [], gm_h s q.2)) (cj_walk_l16  c4 fuel v5 v6 v7 g10) (jm_sup cd_54 (jm_cl jm_CD km_n (d + 1)) (16, [some (.ref 14), j3, some (.long c4), none, some (gv v5), some (gv v6), some (gv v7), j8, j9], [], gm_h s g10)) := by
  intro fuel
  induction fuel with
  | zero => intros; exact jr_none
  | succ fuel ih =>
    intro v5 v6 v7 g10 j3 j8 j9 hj3 hj8 hj9
    unfold cj_walk_l16
    exact (
      r_iload (pc2 := 18) rfl rfl rfl (
      jr_g fun h17 => r_iflt (pc2 := 21) (t := 104) rfl h17 rfl (fun _ =>
      jr_leaf ⟨_, _, _, _, rfl, rfl, hj8, hj9, rfl⟩) (fun _ =>
      r_ic (x := 0) (pc2 := 22) rfl ic_0 rfl (
      r_istore (L2 := [some (.ref 14), j3, some (.long c4), none, some (gv v5), some (gv v6), some (gv v7), some (gv 0), j9]) (pc2 := 24) rfl rfl rfl (
      r_b3 (rl_cj_walk_l24 hs d   c4 v7  fz v5 v6 0 g10 _ _ hj3 hj9) (fun v45 v46 g49 c h => match c, h with | _, ⟨j47, j48, hj47, hj48, rfl⟩ => (
      r_iinc (kk := -1) (L2 := [some (.ref 14), j3, some (.long c4), none, some (gv v45), some (gv v46), some (gv (v7 + (-1))), j47, j48]) (pc2 := 101) rfl ic_m1 rfl rfl rfl (
      r_goto (t := 16) rfl (
      ih v45 v46 (v7 + (-1)) g49 _ _ _ hj3 hj47 hj48)))))))))
theorem rf_cj_walk {s : gm_S} {n m : Nat} (hs : gm_sh s n m) (d : Nat)  (g : gm_T) (a1 : Int) (a2 : Int64)  : jr (eI s) (cj_walk g a1 a2) (jm_cl jm_CD km_n (d + 2) 54 [.ref 14, gv a1, .long a2] (gm_h s g)) := by
  unfold cj_walk
  exact (r_ent (cd := cd_54) (n := 9) (L0 := [some (.ref 14), some (gv a1), some (.long a2), none, none, none, none, none, none]) rfl rfl rfl rfl (
      r_iload (pc2 := 1) rfl rfl rfl (
      r_istore (L2 := [some (.ref 14), some (gv a1), some (.long a2), none, some (gv a1), none, none, none, none]) (pc2 := 3) rfl rfl rfl (
      r_ic (x := 0) (pc2 := 4) rfl ic_0 rfl (
      r_istore (L2 := [some (.ref 14), some (gv a1), some (.long a2), none, some (gv a1), some (gv 0), none, none, none]) (pc2 := 6) rfl rfl rfl (
      r_aload (pc2 := 7) rfl rfl rfl (
      r_getA (pc2 := 10) rfl rfl (sh_T hs rfl rfl) (sh_A hs rfl rfl) (
      r_iload (pc2 := 11) rfl rfl rfl (
      jr_g fun h1 => r_iald (len := 30) (pc2 := 12) rfl rfl (sh_T hs rfl rfl) (sh_L hs rfl rfl) rfl h1 (
      r_ic (x := 1) (pc2 := 13) rfl ic_1 rfl (
      r_isub (pc2 := 14) rfl rfl (
      r_istoreL (L3 := fun v2 => [some (.ref 14), some (gv a1), some (.long a2), none, some (gv a1), some (gv 0), some (gv v2), none, none]) (pc2 := 16) rfl rfl (fun _ => rfl) fun v2 => (
      r_b2 (rl_cj_walk_l16 hs d   a2  fz a1 0 v2 g _ _ _ rfl rfl rfl) (fun v53 g57 c h => match c, h with | _, ⟨j52, j54, j55, j56, hj52, hj54, hj55, hj56, rfl⟩ => (
      r_iload (pc2 := 106) rfl rfl rfl (
      r_iret rfl rfl))))))))))))))))
theorem rf_cp_isThere {s : gm_S} {n m : Nat} (hs : gm_sh s n m) (d : Nat)  (g : gm_T)   : jr (pI s g) (cp_isThere g ) (jm_cl jm_CD km_n (d + 1) 57 [.ref 25] (gm_h s g)) := by
  unfold cp_isThere
  exact (r_ent (cd := cd_57) (n := 1) (L0 := [some (.ref 25)]) rfl rfl rfl rfl (
      r_aload (pc2 := 1) rfl rfl rfl (
      r_getI (pc2 := 4) rfl rfl (sh_T hs rfl rfl) (
      jr_g fun h1 => r_ifle (pc2 := 7) (t := 11) rfl h1 rfl (fun _ =>
      r_ic (x := 0) (pc2 := 12) rfl ic_0 rfl (
      r_zret rfl (by decide) rfl)) (fun _ =>
      r_ic (x := 1) (pc2 := 8) rfl ic_1 rfl (
      r_goto (t := 12) rfl (
      r_zret rfl (by decide) rfl)))))))
theorem rf_cp_countColours {s : gm_S} {n m : Nat} (hs : gm_sh s n m) (d : Nat)  (g : gm_T)   : jr (pI s g) (cp_countColours g ) (jm_cl jm_CD km_n (d + 2) 58 [.ref 25] (gm_h s g)) := by
  unfold cp_countColours
  exact (r_ent (cd := cd_58) (n := 1) (L0 := [some (.ref 25)]) rfl rfl rfl rfl (
      r_aload (pc2 := 1) rfl rfl rfl (
      r_getI (pc2 := 4) rfl rfl (sh_T hs rfl rfl) (
      r_callSP (pc2 := 7) (args := [gv (gm_I g 25 5)]) (st2 := []) rfl rfl rfl rfl rfl rfl (rf_jd_bitCount hs d g (gm_I g 25 5) ) fun v1 => (
      r_iret rfl rfl)))))
theorem rf_ct_peek {s : gm_S} {n m : Nat} (hs : gm_sh s n m) (d : Nat)  (g : gm_T) (a1 : Int)  : jr (pI s g) (ct_peek g a1) (jm_cl jm_CD km_n (d + 1) 96 [.ref 1, gv a1] (gm_h s g)) := by
  unfold ct_peek
  exact (r_ent (cd := cd_96) (n := 2) (L0 := [some (.ref 1), some (gv a1)]) rfl rfl rfl rfl (
      r_iload (pc2 := 1) rfl rfl rfl (
      jr_g fun h1 => r_iflt (pc2 := 4) (t := 25) rfl h1 rfl (fun _ =>
      r_ic (x := -1) (pc2 := 26) rfl ic_m1 rfl (
      r_iret rfl rfl)) (fun _ =>
      r_iload (pc2 := 5) rfl rfl rfl (
      r_aload (pc2 := 6) rfl rfl rfl (
      r_getI (pc2 := 9) rfl rfl (sh_T hs rfl rfl) (
      jr_g fun h2 => r_cge (pc2 := 12) (t := 25) rfl h1 h2 rfl (fun _ =>
      r_aload (pc2 := 13) rfl rfl rfl (
      r_getA (pc2 := 16) rfl rfl (sh_T hs rfl rfl) (sh_A hs rfl rfl) (
      r_iload (pc2 := 17) rfl rfl rfl (
      jr_g fun h3 => r_iald (len := 240) (pc2 := 18) rfl rfl (sh_T hs rfl rfl) (sh_L hs rfl rfl) rfl h3 (
      r_ic (x := 255) (pc2 := 21) rfl ic_255 rfl (
      r_iand (pc2 := 22) rfl rfl (
      r_goto (t := 26) rfl (
      r_iret rfl rfl)))))))) (fun _ =>
      r_ic (x := -1) (pc2 := 26) rfl ic_m1 rfl (
      r_iret rfl rfl)))))))))
theorem rf_ct_digit {s : gm_S} {n m : Nat} (hs : gm_sh s n m) (d : Nat)  (g : gm_T) (a1 : Int)  : jr (pI s g) (ct_digit g a1) (jm_cl jm_CD km_n (d + 2) 97 [.ref 1, gv a1] (gm_h s g)) := by
  unfold ct_digit
  exact (r_ent (cd := cd_97) (n := 3) (L0 := [some (.ref 1), some (gv a1), none]) rfl rfl rfl rfl (
      r_aload (pc2 := 1) rfl rfl rfl (
      r_iload (pc2 := 2) rfl rfl rfl (
      r_callVP (pc2 := 5) (args := [.ref 1, gv a1]) (st2 := []) rfl rfl rfl rfl rfl rfl (rc_of (sh_T hs rfl rfl)) (rf_ct_peek hs d g a1 ) fun v1 => (
      r_istore (L2 := [some (.ref 1), some (gv a1), some (gv v1)]) (pc2 := 6) rfl rfl rfl (
      r_iload (pc2 := 7) rfl rfl rfl (
      r_ic (x := 48) (pc2 := 9) rfl ic_48 rfl (
      jr_g fun h2 => r_clt (pc2 := 12) (t := 25) rfl h2 (rgk rfl) rfl (fun _ =>
      r_ic (x := -1) (pc2 := 26) rfl ic_m1 rfl (
      r_iret rfl rfl)) (fun _ =>
      r_iload (pc2 := 13) rfl rfl rfl (
      r_ic (x := 57) (pc2 := 15) rfl ic_57 rfl (
      r_cgt (pc2 := 18) (t := 25) rfl h2 (rgk rfl) rfl (fun _ =>
      r_iload (pc2 := 19) rfl rfl rfl (
      r_ic (x := 48) (pc2 := 21) rfl ic_48 rfl (
      r_isub (pc2 := 22) rfl rfl (
      r_goto (t := 26) rfl (
      r_iret rfl rfl))))) (fun _ =>
      r_ic (x := -1) (pc2 := 26) rfl ic_m1 rfl (
      r_iret rfl rfl)))))))))))))
theorem rf_cp_isWhole {s : gm_S} {n m : Nat} (hs : gm_sh s n m) (d : Nat)  (g : gm_T) (a0 : Int) (a1 : Int) (a2 : Int)  : jr (pI s g) (cp_isWhole g a0 a1 a2) (jm_cl jm_CD km_n (d + 1) 60 [gv a0, gv a1, gv a2] (gm_h s g)) := by
  unfold cp_isWhole
  exact (r_ent (cd := cd_60) (n := 3) (L0 := [some (gv a0), some (gv a1), some (gv a2)]) rfl rfl rfl rfl (
      r_iload (pc2 := 1) rfl rfl rfl (
      jr_g fun h1 => r_ifne (pc2 := 4) (t := 16) rfl h1 rfl (fun _ =>
      r_iload (pc2 := 5) rfl rfl rfl (
      jr_g fun h2 => r_ifle (pc2 := 8) (t := 12) rfl h2 rfl (fun _ =>
      r_ic (x := 0) (pc2 := 13) rfl ic_0 rfl (
      r_goto (t := 26) rfl (
      r_zret rfl (by decide) rfl))) (fun _ =>
      r_ic (x := 1) (pc2 := 9) rfl ic_1 rfl (
      r_goto (t := 26) rfl (
      r_zret rfl (by decide) rfl))))) (fun _ =>
      r_iload (pc2 := 17) rfl rfl rfl (
      r_iload (pc2 := 18) rfl rfl rfl (
      jr_g fun h3 => r_cne (pc2 := 21) (t := 25) rfl h3.1 h3.2 rfl (fun _ =>
      r_ic (x := 1) (pc2 := 22) rfl ic_1 rfl (
      r_goto (t := 26) rfl (
      r_zret rfl (by decide) rfl))) (fun _ =>
      r_ic (x := 0) (pc2 := 26) rfl ic_0 rfl (
      r_zret rfl (by decide) rfl))))))))
theorem rl_cp_faultOf_l11 {s : gm_S} {n m : Nat} (hs : gm_sh s n m) (d : Nat)  (g : gm_T)   : ∀ (fuel : Nat) (v1 : Int) (v2 : Int) (v3 : Int) (v4 : Int) (j5 : Option Value) (hj5 : jm_lg j5 = false), jr (fun (x : (Int × Int × Int) ⊕ (Int)) (c : Option jm_R) => match x with | .inl q => (∃ (j9 : Option Value) (j10 : Option Value), jm_lg j9 = false ∧ jm_lg j10 = false ∧ c = jm_sup cd_59 (jm_cl jm_CD km_n (d + 2)) (104, [some (.ref 25), some (.ref 1), some (gv q.1), some (gv q.2.1), some (gv q.2.2), j9, j10], [], gm_h s g)) | .inr r => pI s g r c) (cp_faultOf_l11 g  fuel v1 v2 v3 v4) (jm_sup cd_59 (jm_cl jm_CD km_n (d + 2)) (11, [some (.ref 25), some (.ref 1), some (gv v1), some (gv v2), some (gv v3), some (gv v4), j5], [], gm_h s g)) := by
  intro fuel
  induction fuel with
  | zero => intros; exact jr_none
  | succ fuel ih =>
    intro v1 v2 v3 v4 j5 hj5
    unfold cp_faultOf_l11
    exact (
      r_iload (pc2 := 13) rfl rfl rfl (
      r_aload (pc2 := 14) rfl rfl rfl (
      r_getI (pc2 := 17) rfl rfl (sh_T hs rfl rfl) (
      jr_g fun h11 => r_cge (pc2 := 20) (t := 104) rfl h11.1 h11.2 rfl (fun _ =>
      r_aload (pc2 := 21) rfl rfl rfl (
      r_iload (pc2 := 23) rfl rfl rfl (
      r_callVP (pc2 := 26) (args := [.ref 1, gv v4]) (st2 := []) rfl rfl rfl rfl rfl rfl (rc_of (sh_T hs rfl rfl)) (rf_ct_peek hs (d + 1) g v4 ) fun v12 => (
      r_istore (L2 := [some (.ref 25), some (.ref 1), some (gv v1), some (gv v2), some (gv v3), some (gv v4), some (gv v12)]) (pc2 := 28) rfl rfl rfl (
      r_iload (pc2 := 30) rfl rfl rfl (
      r_ic (x := 46) (pc2 := 32) rfl ic_46 rfl (
      jr_g fun h13 => r_ceq (pc2 := 35) (t := 44) rfl h13 (rgk rfl) rfl (fun _ =>
      r_iload (pc2 := 45) rfl rfl rfl (
      r_iload (pc2 := 47) rfl rfl rfl (
      jr_g fun h14 => r_cne (pc2 := 50) (t := 53) rfl h14.1 h14.2 rfl (fun _ =>
      r_iload (pc2 := 52) rfl rfl rfl (
      r_iret rfl rfl)) (fun _ =>
      r_iinc (kk := 1) (L2 := [some (.ref 25), some (.ref 1), some (gv v1), some (gv (v2 + 1)), some (gv v3), some (gv v4), some (gv v12)]) (pc2 := 56) rfl ic_1 rfl rfl rfl (
      r_goto (t := 98) rfl (
      r_iinc (kk := 1) (L2 := [some (.ref 25), some (.ref 1), some (gv v1), some (gv (v2 + 1)), some (gv v3), some (gv (v4 + 1)), some (gv v12)]) (pc2 := 101) rfl ic_1 rfl rfl rfl (
      r_goto (t := 11) rfl (
      ih v1 (v2 + 1) v3 (v4 + 1) _ rfl)))))))) (fun _ =>
      r_aload (pc2 := 36) rfl rfl rfl (
      r_iload (pc2 := 38) rfl rfl rfl (
      r_callVP (pc2 := 41) (args := [.ref 1, gv v4]) (st2 := []) rfl rfl rfl rfl rfl rfl (rc_of (sh_T hs rfl rfl)) (rf_ct_digit hs d g v4 ) fun v17 => (
      jr_g fun h18 => r_iflt (pc2 := 44) (t := 59) rfl h18 rfl (fun _ =>
      r_iload (pc2 := 61) rfl rfl rfl (
      r_ic (x := 47) (pc2 := 63) rfl ic_47 rfl (
      r_cne (pc2 := 66) (t := 95) rfl h13 (rgk rfl) rfl (fun _ =>
      r_iload (pc2 := 67) rfl rfl rfl (
      r_iload (pc2 := 68) rfl rfl rfl (
      r_iload (pc2 := 70) rfl rfl rfl (
      r_callSP (pc2 := 73) (args := [gv v1, gv v2, gv v3]) (st2 := []) rfl rfl rfl rfl rfl rfl (rf_cp_isWhole hs (d + 1) g v1 v2 v3 ) fun v19 => (
      jr_g fun h20 => r_ifeq (pc2 := 76) (t := 95) rfl h20 rfl (fun _ =>
      r_iload (pc2 := 97) rfl rfl rfl (
      r_iret rfl rfl)) (fun _ =>
      r_iload (pc2 := 77) rfl rfl rfl (
      r_ic (x := 1) (pc2 := 78) rfl ic_1 rfl (
      r_iadd (pc2 := 79) rfl rfl (
      r_ic (x := 16) (pc2 := 81) rfl ic_16 rfl (
      jr_g fun h21 => r_cge (pc2 := 84) (t := 95) rfl h21 (rgk rfl) rfl (fun _ =>
      r_iload (pc2 := 85) rfl rfl rfl (
      r_istore (L2 := [some (.ref 25), some (.ref 1), some (gv v1), some (gv v2), some (gv v2), some (gv v4), some (gv v12)]) (pc2 := 87) rfl rfl rfl (
      r_iinc (kk := 1) (L2 := [some (.ref 25), some (.ref 1), some (gv (v1 + 1)), some (gv v2), some (gv v2), some (gv v4), some (gv v12)]) (pc2 := 90) rfl ic_1 rfl rfl rfl (
      r_ic (x := 0) (pc2 := 91) rfl ic_0 rfl (
      r_istore (L2 := [some (.ref 25), some (.ref 1), some (gv (v1 + 1)), some (gv 0), some (gv v2), some (gv v4), some (gv v12)]) (pc2 := 92) rfl rfl rfl (
      r_goto (t := 98) rfl (
      r_iinc (kk := 1) (L2 := [some (.ref 25), some (.ref 1), some (gv (v1 + 1)), some (gv 0), some (gv v2), some (gv (v4 + 1)), some (gv v12)]) (pc2 := 101) rfl ic_1 rfl rfl rfl (
      r_goto (t := 11) rfl (
      ih (v1 + 1) 0 v2 (v4 + 1) _ rfl))))))))) (fun _ =>
      r_iload (pc2 := 97) rfl rfl rfl (
      r_iret rfl rfl)))))))))))) (fun _ =>
      r_iload (pc2 := 97) rfl rfl rfl (
      r_iret rfl rfl))))) (fun _ =>
      r_iload (pc2 := 45) rfl rfl rfl (
      r_iload (pc2 := 47) rfl rfl rfl (
      jr_g fun h24 => r_cne (pc2 := 50) (t := 53) rfl h24.1 h24.2 rfl (fun _ =>
      r_iload (pc2 := 52) rfl rfl rfl (
      r_iret rfl rfl)) (fun _ =>
      r_iinc (kk := 1) (L2 := [some (.ref 25), some (.ref 1), some (gv v1), some (gv (v2 + 1)), some (gv v3), some (gv v4), some (gv v12)]) (pc2 := 56) rfl ic_1 rfl rfl rfl (
      r_goto (t := 98) rfl (
      r_iinc (kk := 1) (L2 := [some (.ref 25), some (.ref 1), some (gv v1), some (gv (v2 + 1)), some (gv v3), some (gv (v4 + 1)), some (gv v12)]) (pc2 := 101) rfl ic_1 rfl rfl rfl (
      r_goto (t := 11) rfl (
      ih v1 (v2 + 1) v3 (v4 + 1) _ rfl))))))))))))))))))) (fun _ =>
      jr_leaf ⟨_, _, rfl, hj5, rfl⟩)))))
theorem rf_cp_faultOf {s : gm_S} {n m : Nat} (hs : gm_sh s n m) (d : Nat)  (g : gm_T)   : jr (pI s g) (cp_faultOf g ) (jm_cl jm_CD km_n (d + 3) 59 [.ref 25, .ref 1] (gm_h s g)) := by
  unfold cp_faultOf
  exact (r_ent (cd := cd_59) (n := 7) (L0 := [some (.ref 25), some (.ref 1), none, none, none, none, none]) rfl rfl rfl rfl (
      r_ic (x := 0) (pc2 := 1) rfl ic_0 rfl (
      r_istore (L2 := [some (.ref 25), some (.ref 1), some (gv 0), none, none, none, none]) (pc2 := 2) rfl rfl rfl (
      r_ic (x := 0) (pc2 := 3) rfl ic_0 rfl (
      r_istore (L2 := [some (.ref 25), some (.ref 1), some (gv 0), some (gv 0), none, none, none]) (pc2 := 4) rfl rfl rfl (
      r_ic (x := 16) (pc2 := 6) rfl ic_16 rfl (
      r_istore (L2 := [some (.ref 25), some (.ref 1), some (gv 0), some (gv 0), some (gv 16), none, none]) (pc2 := 8) rfl rfl rfl (
      r_ic (x := 0) (pc2 := 9) rfl ic_0 rfl (
      r_istore (L2 := [some (.ref 25), some (.ref 1), some (gv 0), some (gv 0), some (gv 16), some (gv 0), none]) (pc2 := 11) rfl rfl rfl (
      r_c3 (rl_cp_faultOf_l11 hs d  g   fz 0 0 16 0 _ rfl) (fun r c h => jr_leaf h) (fun v27 v28 v29 c h => match c, h with | _, ⟨j30, j31, hj30, hj31, rfl⟩ => (
      r_iload (pc2 := 105) rfl rfl rfl (
      r_iload (pc2 := 106) rfl rfl rfl (
      r_iload (pc2 := 108) rfl rfl rfl (
      r_callSP (pc2 := 111) (args := [gv v27, gv v28, gv v29]) (st2 := []) rfl rfl rfl rfl rfl rfl (rf_cp_isWhole hs (d + 1) g v27 v28 v29 ) fun v32 => (
      jr_g fun h33 => r_ifeq (pc2 := 114) (t := 118) rfl h33 rfl (fun _ =>
      r_aload (pc2 := 119) rfl rfl rfl (
      r_getI (pc2 := 122) rfl rfl (sh_T hs rfl rfl) (
      r_iret rfl rfl))) (fun _ =>
      r_ic (x := -1) (pc2 := 115) rfl ic_m1 rfl (
      r_goto (t := 122) rfl (
      r_iret rfl rfl)))))))))))))))))))
theorem rl_cp_spreadColour_l21 {s : gm_S} {n m : Nat} (hs : gm_sh s n m) (d : Nat)  (c14 : Int) (c15 : Int) (c16 : Int) (c17 : Int) (c18 : Int)  : ∀ (fuel : Nat) (v19 : Int) (g20 : gm_T), jr (fun (q : gm_T) (c : Option jm_R) => ∃ (j21 : Option Value), jm_lg j21 = false ∧ c = jm_sup cd_62 (jm_cl jm_CD km_n d) (57, [some (.ref 25), some (gv c14), some (gv c15), some (gv c16), some (gv c17), some (gv c18), j21], [], gm_h s q)) (cp_spreadColour_l21  c14 c15 c16 c17 c18 fuel v19 g20) (jm_sup cd_62 (jm_cl jm_CD km_n d) (21, [some (.ref 25), some (gv c14), some (gv c15), some (gv c16), some (gv c17), some (gv c18), some (gv v19)], [], gm_h s g20)) := by
  intro fuel
  induction fuel with
  | zero => intros; exact jr_none
  | succ fuel ih =>
    intro v19 g20  
    unfold cp_spreadColour_l21
    exact (
      r_iload (pc2 := 23) rfl rfl rfl (
      r_iload (pc2 := 24) rfl rfl rfl (
      r_iload (pc2 := 26) rfl rfl rfl (
      r_iadd (pc2 := 27) rfl rfl (
      jr_g fun h23 => r_cgt (pc2 := 30) (t := 57) rfl h23.1 h23.2 rfl (fun _ =>
      r_aload (pc2 := 31) rfl rfl rfl (
      r_getA (pc2 := 34) rfl rfl (sh_T hs rfl rfl) (sh_A hs rfl rfl) (
      r_iload (pc2 := 36) rfl rfl rfl (
      r_ic (x := 3) (pc2 := 37) rfl ic_3 rfl (
      r_iadd (pc2 := 38) rfl rfl (
      r_ic (x := 22) (pc2 := 40) rfl ic_22 rfl (
      r_imul (pc2 := 41) rfl rfl (
      r_iload (pc2 := 43) rfl rfl rfl (
      r_iadd (pc2 := 44) rfl rfl (
      r_ic (x := 3) (pc2 := 45) rfl ic_3 rfl (
      r_iadd (pc2 := 46) rfl rfl (
      r_dup2 (pc2 := 47) rfl rfl ⟨rfl, rfl⟩ (
      jr_g fun h24 => r_iald (len := 484) (pc2 := 48) rfl rfl (sh_T hs rfl rfl) (sh_L hs rfl rfl) rfl h24 (
      r_iload (pc2 := 49) rfl rfl rfl (
      r_ior (pc2 := 50) rfl rfl (
      r_iast (len := 484) (pc2 := 51) rfl rfl (sh_T hs rfl rfl) (sh_L hs rfl rfl) rfl h24 fun g25 => (
      r_iinc (kk := 1) (L2 := [some (.ref 25), some (gv c14), some (gv c15), some (gv c16), some (gv c17), some (gv c18), some (gv (v19 + 1))]) (pc2 := 54) rfl ic_1 rfl rfl rfl (
      r_goto (t := 21) rfl (
      ih (v19 + 1) g25))))))))))))))))))) (fun _ =>
      jr_leaf ⟨_, rfl, rfl⟩))))))
theorem rl_cp_spreadColour_l6 {s : gm_S} {n m : Nat} (hs : gm_sh s n m) (d : Nat)  (c2 : Int) (c3 : Int) (c4 : Int) (c5 : Int)  : ∀ (fuel : Nat) (v6 : Int) (g8 : gm_T) (j7 : Option Value) (hj7 : jm_lg j7 = false), jr (fun (q : gm_T) (c : Option jm_R) => ∃ (j9 : Option Value) (j10 : Option Value), jm_lg j9 = false ∧ jm_lg j10 = false ∧ c = jm_sup cd_62 (jm_cl jm_CD km_n d) (63, [some (.ref 25), some (gv c2), some (gv c3), some (gv c4), some (gv c5), j9, j10], [], gm_h s q)) (cp_spreadColour_l6  c2 c3 c4 c5 fuel v6 g8) (jm_sup cd_62 (jm_cl jm_CD km_n d) (6, [some (.ref 25), some (gv c2), some (gv c3), some (gv c4), some (gv c5), some (gv v6), j7], [], gm_h s g8)) := by
  intro fuel
  induction fuel with
  | zero => intros; exact jr_none
  | succ fuel ih =>
    intro v6 g8 j7 hj7
    unfold cp_spreadColour_l6
    exact (
      r_iload (pc2 := 8) rfl rfl rfl (
      r_iload (pc2 := 9) rfl rfl rfl (
      r_iload (pc2 := 11) rfl rfl rfl (
      r_iadd (pc2 := 12) rfl rfl (
      jr_g fun h12 => r_cgt (pc2 := 15) (t := 63) rfl h12.1 h12.2 rfl (fun _ =>
      r_iload (pc2 := 16) rfl rfl rfl (
      r_iload (pc2 := 18) rfl rfl rfl (
      r_isub (pc2 := 19) rfl rfl (
      r_istoreL (L3 := fun v13 => [some (.ref 25), some (gv c2), some (gv c3), some (gv c4), some (gv c5), some (gv v6), some (gv v13)]) (pc2 := 21) rfl rfl (fun _ => rfl) fun v13 => (
      r_b1 (rl_cp_spreadColour_l21 hs d   c2 c3 c4 c5 v6  fz v13 g8  ) (fun g28 c h => match c, h with | _, ⟨j27, hj27, rfl⟩ => (
      r_iinc (kk := 1) (L2 := [some (.ref 25), some (gv c2), some (gv c3), some (gv c4), some (gv c5), some (gv (v6 + 1)), j27]) (pc2 := 60) rfl ic_1 rfl rfl rfl (
      r_goto (t := 6) rfl (
      ih (v6 + 1) g28 _ hj27))))))))) (fun _ =>
      jr_leaf ⟨_, _, rfl, hj7, rfl⟩))))))
theorem rf_cp_spreadColour {s : gm_S} {n m : Nat} (hs : gm_sh s n m) (d : Nat)  (g : gm_T) (a1 : Int) (a2 : Int) (a3 : Int) (a4 : Int)  : jr (eV s) (cp_spreadColour g a1 a2 a3 a4) (jm_cl jm_CD km_n (d + 1) 62 [.ref 25, gv a1, gv a2, gv a3, gv a4] (gm_h s g)) := by
  unfold cp_spreadColour
  exact (r_ent (cd := cd_62) (n := 7) (L0 := [some (.ref 25), some (gv a1), some (gv a2), some (gv a3), some (gv a4), none, none]) rfl rfl rfl rfl (
      r_iload (pc2 := 1) rfl rfl rfl (
      r_iload (pc2 := 3) rfl rfl rfl (
      r_isub (pc2 := 4) rfl rfl (
      r_istoreL (L3 := fun v1 => [some (.ref 25), some (gv a1), some (gv a2), some (gv a3), some (gv a4), some (gv v1), none]) (pc2 := 6) rfl rfl (fun _ => rfl) fun v1 => (
      r_b1 (rl_cp_spreadColour_l6 hs d   a1 a2 a3 a4  fz v1 g _ rfl) (fun g32 c h => match c, h with | _, ⟨j30, j31, hj30, hj31, rfl⟩ => (
      r_vret rfl rfl))))))))
theorem rl_cp_take_l5 {s : gm_S} {n m : Nat} (hs : gm_sh s n m) (d : Nat)  (c2 : Int) (c3 : Int) (c4 : Int)  : ∀ (fuel : Nat) (g5 : gm_T), jr (fun (q : gm_T) (c : Option jm_R) => c = jm_sup cd_61 (jm_cl jm_CD km_n (d + 2)) (42, [some (.ref 25), some (.ref 1), some (gv c2), some (gv c3), some (gv c4), none, none, none], [], gm_h s q)) (cp_take_l5  c2 c3 c4 fuel g5) (jm_sup cd_61 (jm_cl jm_CD km_n (d + 2)) (5, [some (.ref 25), some (.ref 1), some (gv c2), some (gv c3), some (gv c4), none, none, none], [], gm_h s g5)) := by
  intro fuel
  induction fuel with
  | zero => intros; exact jr_none
  | succ fuel ih =>
    intro g5  
    unfold cp_take_l5
    exact (
      r_aload (pc2 := 6) rfl rfl rfl (
      r_getI (pc2 := 9) rfl rfl (sh_T hs rfl rfl) (
      r_aload (pc2 := 10) rfl rfl rfl (
      r_getI (pc2 := 13) rfl rfl (sh_T hs rfl rfl) (
      jr_g fun h7 => r_cge (pc2 := 16) (t := 42) rfl h7.1 h7.2 rfl (fun _ =>
      r_aload (pc2 := 17) rfl rfl rfl (
      r_aload (pc2 := 18) rfl rfl rfl (
      r_getI (pc2 := 21) rfl rfl (sh_T hs rfl rfl) (
      r_callVP (pc2 := 24) (args := [.ref 1, gv (gm_I g5 25 1)]) (st2 := []) rfl rfl rfl rfl rfl rfl (rc_of (sh_T hs rfl rfl)) (rf_ct_peek hs (d + 1) g5 (gm_I g5 25 1) ) fun v8 => (
      r_ic (x := 47) (pc2 := 26) rfl ic_47 rfl (
      jr_g fun h9 => r_ceq (pc2 := 29) (t := 42) rfl h9 (rgk rfl) rfl (fun _ =>
      jr_leaf rfl) (fun _ =>
      r_aload (pc2 := 30) rfl rfl rfl (
      r_dup (pc2 := 31) rfl rfl rfl (
      r_getI (pc2 := 34) rfl rfl (sh_T hs rfl rfl) (
      r_ic (x := 1) (pc2 := 35) rfl ic_1 rfl (
      r_iadd (pc2 := 36) rfl rfl (
      r_putI (pc2 := 39) rfl rfl (sh_T hs rfl rfl) fun g10 => (
      r_goto (t := 5) rfl (
      ih g10)))))))))))))) (fun _ =>
      jr_leaf rfl))))))
theorem rl_cp_take_l77 {s : gm_S} {n m : Nat} (hs : gm_sh s n m) (d : Nat)  (c18 : Int)  : ∀ (fuel : Nat) (v19 : Int) (g20 : gm_T) (j16 : Option Value) (j17 : Option Value) (hj16 : jm_lg j16 = false) (hj17 : jm_lg j17 = false), jr (fun (q : gm_T) (c : Option jm_R) => ∃ (j21 : Option Value), jm_lg j21 = false ∧ c = jm_sup cd_61 (jm_cl jm_CD km_n (d + 2)) (99, [some (.ref 25), some (.ref 1), j16, j17, some (gv c18), j21, none, none], [], gm_h s q)) (cp_take_l77  c18 fuel v19 g20) (jm_sup cd_61 (jm_cl jm_CD km_n (d + 2)) (77, [some (.ref 25), some (.ref 1), j16, j17, some (gv c18), some (gv v19), none, none], [], gm_h s g20)) := by
  intro fuel
  induction fuel with
  | zero => intros; exact jr_none
  | succ fuel ih =>
    intro v19 g20 j16 j17 hj16 hj17
    unfold cp_take_l77
    exact (
      r_iload (pc2 := 79) rfl rfl rfl (
      r_ic (x := 484) (pc2 := 82) rfl ic_484 rfl (
      jr_g fun h23 => r_cge (pc2 := 85) (t := 99) rfl h23 (rgk rfl) rfl (fun _ =>
      r_aload (pc2 := 86) rfl rfl rfl (
      r_getA (pc2 := 89) rfl rfl (sh_T hs rfl rfl) (sh_A hs rfl rfl) (
      r_iload (pc2 := 91) rfl rfl rfl (
      r_ic (x := 0) (pc2 := 92) rfl ic_0 rfl (
      jr_g fun h25 => r_iast (len := 484) (pc2 := 93) rfl rfl (sh_T hs rfl rfl) (sh_L hs rfl rfl) rfl h25 fun g24 => (
      r_iinc (kk := 1) (L2 := [some (.ref 25), some (.ref 1), j16, j17, some (gv c18), some (gv (v19 + 1)), none, none]) (pc2 := 96) rfl ic_1 rfl rfl rfl (
      r_goto (t := 77) rfl (
      ih (v19 + 1) g24 _ _ hj16 hj17)))))))) (fun _ =>
      jr_leaf ⟨_, rfl, rfl⟩))))
theorem rl_cp_take_l114 {s : gm_S} {n m : Nat} (hs : gm_sh s n m) (d : Nat)  (c45 : Int) (c46 : Int)  : ∀ (fuel : Nat) (v47 : Int) (g49 : gm_T) (j43 : Option Value) (j44 : Option Value) (j48 : Option Value) (hj43 : jm_lg j43 = false) (hj44 : jm_lg j44 = false) (hj48 : jm_lg j48 = false), jr (fun (q : gm_T) (c : Option jm_R) => ∃ (j50 : Option Value) (j51 : Option Value), jm_lg j50 = false ∧ jm_lg j51 = false ∧ c = jm_sup cd_61 (jm_cl jm_CD km_n (d + 2)) (186, [some (.ref 25), some (.ref 1), j43, j44, some (gv c45), some (gv c46), j50, j51], [], gm_h s q)) (cp_take_l114  c45 c46 fuel v47 g49) (jm_sup cd_61 (jm_cl jm_CD km_n (d + 2)) (114, [some (.ref 25), some (.ref 1), j43, j44, some (gv c45), some (gv c46), some (gv v47), j48], [], gm_h s g49)) := by
  intro fuel
  induction fuel with
  | zero => intros; exact jr_none
  | succ fuel ih =>
    intro v47 g49 j43 j44 j48 hj43 hj44 hj48
    unfold cp_take_l114
    exact (
      r_iload (pc2 := 116) rfl rfl rfl (
      r_aload (pc2 := 117) rfl rfl rfl (
      r_getI (pc2 := 120) rfl rfl (sh_T hs rfl rfl) (
      jr_g fun h53 => r_cge (pc2 := 123) (t := 186) rfl h53.1 h53.2 rfl (fun _ =>
      r_aload (pc2 := 124) rfl rfl rfl (
      r_iload (pc2 := 126) rfl rfl rfl (
      r_aload (pc2 := 127) rfl rfl rfl (
      r_getI (pc2 := 130) rfl rfl (sh_T hs rfl rfl) (
      r_ic (x := 1) (pc2 := 131) rfl ic_1 rfl (
      r_iadd (pc2 := 132) rfl rfl (
      r_imul (pc2 := 133) rfl rfl (
      r_iload (pc2 := 135) rfl rfl rfl (
      r_iadd (pc2 := 136) rfl rfl (
      r_callVP (pc2 := 139) (args := [.ref 1, gv ((c46 * ((gm_I g49 25 1) + 1)) + v47)]) (st2 := []) rfl rfl rfl rfl rfl rfl (rc_of (sh_T hs rfl rfl)) (rf_ct_digit hs d g49 ((c46 * ((gm_I g49 25 1) + 1)) + v47) ) fun v54 => (
      r_istore (L2 := [some (.ref 25), some (.ref 1), j43, j44, some (gv c45), some (gv c46), some (gv v47), some (gv v54)]) (pc2 := 141) rfl rfl rfl (
      r_iload (pc2 := 143) rfl rfl rfl (
      jr_g fun h55 => r_iflt (pc2 := 146) (t := 180) rfl h55 rfl (fun _ =>
      r_iinc (kk := 1) (L2 := [some (.ref 25), some (.ref 1), j43, j44, some (gv c45), some (gv c46), some (gv (v47 + 1)), some (gv v54)]) (pc2 := 183) rfl ic_1 rfl rfl rfl (
      r_goto (t := 114) rfl (
      ih (v47 + 1) g49 _ _ _ hj43 hj44 rfl))) (fun _ =>
      r_aload (pc2 := 147) rfl rfl rfl (
      r_dup (pc2 := 148) rfl rfl rfl (
      r_getI (pc2 := 151) rfl rfl (sh_T hs rfl rfl) (
      r_ic (x := 1) (pc2 := 152) rfl ic_1 rfl (
      r_iload (pc2 := 154) rfl rfl rfl (
      r_ishl (pc2 := 155) rfl rfl (
      r_ior (pc2 := 156) rfl rfl (
      r_putI (pc2 := 159) rfl rfl (sh_T hs rfl rfl) fun g57 => (
      r_aload (pc2 := 160) rfl rfl rfl (
      r_iload (pc2 := 162) rfl rfl rfl (
      r_aload (pc2 := 163) rfl rfl rfl (
      r_getI (pc2 := 166) rfl rfl (sh_T hs rfl rfl) (
      r_ic (x := 1) (pc2 := 167) rfl ic_1 rfl (
      r_isub (pc2 := 168) rfl rfl (
      r_iload (pc2 := 170) rfl rfl rfl (
      r_isub (pc2 := 171) rfl rfl (
      r_ic (x := 1) (pc2 := 172) rfl ic_1 rfl (
      r_iload (pc2 := 174) rfl rfl rfl (
      r_ishl (pc2 := 175) rfl rfl (
      r_iload (pc2 := 177) rfl rfl rfl (
      r_callVV (pc2 := 180) (args := [.ref 25, gv v47, gv (((gm_I g57 25 2) - 1) - c46), gv (zSl 1 v54), gv c45]) (st2 := []) rfl rfl rfl rfl rfl rfl (rc_of (sh_T hs rfl rfl)) (rf_cp_spreadColour hs (d + 1) g57 v47 (((gm_I g57 25 2) - 1) - c46) (zSl 1 v54) c45 ) fun g58 => (
      r_iinc (kk := 1) (L2 := [some (.ref 25), some (.ref 1), j43, j44, some (gv c45), some (gv c46), some (gv (v47 + 1)), some (gv v54)]) (pc2 := 183) rfl ic_1 rfl rfl rfl (
      r_goto (t := 114) rfl (
      ih (v47 + 1) g58 _ _ _ hj43 hj44 rfl))))))))))))))))))))))))))))))))))))) (fun _ =>
      jr_leaf ⟨_, _, rfl, hj48, rfl⟩)))))
theorem rl_cp_take_l102 {s : gm_S} {n m : Nat} (hs : gm_sh s n m) (d : Nat)  (c33 : Int)  : ∀ (fuel : Nat) (v34 : Int) (g37 : gm_T) (j31 : Option Value) (j32 : Option Value) (j35 : Option Value) (j36 : Option Value) (hj31 : jm_lg j31 = false) (hj32 : jm_lg j32 = false) (hj35 : jm_lg j35 = false) (hj36 : jm_lg j36 = false), jr (fun (q : gm_T) (c : Option jm_R) => ∃ (j38 : Option Value) (j39 : Option Value) (j40 : Option Value), jm_lg j38 = false ∧ jm_lg j39 = false ∧ jm_lg j40 = false ∧ c = jm_sup cd_61 (jm_cl jm_CD km_n (d + 2)) (192, [some (.ref 25), some (.ref 1), j31, j32, some (gv c33), j38, j39, j40], [], gm_h s q)) (cp_take_l102  c33 fuel v34 g37) (jm_sup cd_61 (jm_cl jm_CD km_n (d + 2)) (102, [some (.ref 25), some (.ref 1), j31, j32, some (gv c33), some (gv v34), j35, j36], [], gm_h s g37)) := by
  intro fuel
  induction fuel with
  | zero => intros; exact jr_none
  | succ fuel ih =>
    intro v34 g37 j31 j32 j35 j36 hj31 hj32 hj35 hj36
    unfold cp_take_l102
    exact (
      r_iload (pc2 := 104) rfl rfl rfl (
      r_aload (pc2 := 105) rfl rfl rfl (
      r_getI (pc2 := 108) rfl rfl (sh_T hs rfl rfl) (
      jr_g fun h42 => r_cge (pc2 := 111) (t := 192) rfl h42.1 h42.2 rfl (fun _ =>
      r_ic (x := 0) (pc2 := 112) rfl ic_0 rfl (
      r_istore (L2 := [some (.ref 25), some (.ref 1), j31, j32, some (gv c33), some (gv v34), some (gv 0), j36]) (pc2 := 114) rfl rfl rfl (
      r_b1 (rl_cp_take_l114 hs d   c33 v34  fz 0 g37 _ _ _ hj31 hj32 hj36) (fun g64 c h => match c, h with | _, ⟨j62, j63, hj62, hj63, rfl⟩ => (
      r_iinc (kk := 1) (L2 := [some (.ref 25), some (.ref 1), j31, j32, some (gv c33), some (gv (v34 + 1)), j62, j63]) (pc2 := 189) rfl ic_1 rfl rfl rfl (
      r_goto (t := 102) rfl (
      ih (v34 + 1) g64 _ _ _ _ hj31 hj32 hj62 hj63))))))) (fun _ =>
      jr_leaf ⟨_, _, _, rfl, hj35, hj36, rfl⟩)))))
theorem rf_cp_take {s : gm_S} {n m : Nat} (hs : gm_sh s n m) (d : Nat)  (g : gm_T) (a2 : Int) (a3 : Int) (a4 : Int)  : jr (eV s) (cp_take g a2 a3 a4) (jm_cl jm_CD km_n (d + 3) 61 [.ref 25, .ref 1, gv a2, gv a3, gv a4] (gm_h s g)) := by
  unfold cp_take
  exact (r_ent (cd := cd_61) (n := 8) (L0 := [some (.ref 25), some (.ref 1), some (gv a2), some (gv a3), some (gv a4), none, none, none]) rfl rfl rfl rfl (
      r_aload (pc2 := 1) rfl rfl rfl (
      r_ic (x := 0) (pc2 := 2) rfl ic_0 rfl (
      r_putI (pc2 := 5) rfl rfl (sh_T hs rfl rfl) fun g1 => (
      r_b1 (rl_cp_take_l5 hs d   a2 a3 a4  fz g1  ) (fun g11 c h => match c, h with | _, rfl => (
      r_aload (pc2 := 43) rfl rfl rfl (
      r_aload (pc2 := 44) rfl rfl rfl (
      r_getI (pc2 := 47) rfl rfl (sh_T hs rfl rfl) (
      r_ic (x := 1) (pc2 := 48) rfl ic_1 rfl (
      r_iadd (pc2 := 49) rfl rfl (
      r_aload (pc2 := 50) rfl rfl rfl (
      r_getI (pc2 := 53) rfl rfl (sh_T hs rfl rfl) (
      r_ic (x := 1) (pc2 := 54) rfl ic_1 rfl (
      r_iadd (pc2 := 55) rfl rfl (
      jr_g fun hd => r_idiv (pc2 := 56) rfl rfl hd.1 hd.2 (
      r_putI (pc2 := 59) rfl rfl (sh_T hs rfl rfl) fun g12 => (
      r_aload (pc2 := 60) rfl rfl rfl (
      r_iload (pc2 := 61) rfl rfl rfl (
      r_putI (pc2 := 64) rfl rfl (sh_T hs rfl rfl) fun g13 => (
      r_aload (pc2 := 65) rfl rfl rfl (
      r_iload (pc2 := 66) rfl rfl rfl (
      r_putI (pc2 := 69) rfl rfl (sh_T hs rfl rfl) fun g14 => (
      r_aload (pc2 := 70) rfl rfl rfl (
      r_ic (x := 0) (pc2 := 71) rfl ic_0 rfl (
      r_putI (pc2 := 74) rfl rfl (sh_T hs rfl rfl) fun g15 => (
      r_ic (x := 0) (pc2 := 75) rfl ic_0 rfl (
      r_istore (L2 := [some (.ref 25), some (.ref 1), some (gv a2), some (gv a3), some (gv a4), some (gv 0), none, none]) (pc2 := 77) rfl rfl rfl (
      r_b1 (rl_cp_take_l77 hs d   a4  fz 0 g15 _ _ rfl rfl) (fun g30 c h => match c, h with | _, ⟨j29, hj29, rfl⟩ => (
      r_ic (x := 0) (pc2 := 100) rfl ic_0 rfl (
      r_istore (L2 := [some (.ref 25), some (.ref 1), some (gv a2), some (gv a3), some (gv a4), some (gv 0), none, none]) (pc2 := 102) rfl rfl rfl (
      r_b1 (rl_cp_take_l102 hs d   a4  fz 0 g30 _ _ _ _ rfl rfl rfl rfl) (fun g71 c h => match c, h with | _, ⟨j68, j69, j70, hj68, hj69, hj70, rfl⟩ => (
      r_vret rfl rfl)))))))))))))))))))))))))))))))))))
theorem rl_cp_countAgreeing_l6 {s : gm_S} {n m : Nat} (hs : gm_sh s n m) (d : Nat)  (g : gm_T) (i1 : Nat) (c3 : Int) (c4 : Int) (c5 : Int) (hi2 : i1 < m) : ∀ (fuel : Nat) (v6 : Int) (v7 : Int) (j8 : Option Value) (j9 : Option Value) (j10 : Option Value) (hj8 : jm_lg j8 = false) (hj9 : jm_lg j9 = false) (hj10 : jm_lg j10 = false), jr (fun (q : Int) (c : Option jm_R) => ∃ (j12 : Option Value) (j13 : Option Value) (j14 : Option Value) (j15 : Option Value), jm_lg j12 = false ∧ jm_lg j13 = false ∧ jm_lg j14 = false ∧ jm_lg j15 = false ∧ c = jm_sup cd_63 (jm_cl jm_CD km_n (d + 2)) (145, [some (.ref 25), some (.ref (bA i1)), some (gv c3), some (gv c4), some (gv c5), some (gv q), j12, j13, j14, j15], [], gm_h s g)) (cp_countAgreeing_l6 g i1 c3 c4 c5 fuel v6 v7) (jm_sup cd_63 (jm_cl jm_CD km_n (d + 2)) (6, [some (.ref 25), some (.ref (bA i1)), some (gv c3), some (gv c4), some (gv c5), some (gv v6), some (gv v7), j8, j9, j10], [], gm_h s g)) := by
  intro fuel
  induction fuel with
  | zero => intros; exact jr_none
  | succ fuel ih =>
    intro v6 v7 j8 j9 j10 hj8 hj9 hj10
    unfold cp_countAgreeing_l6
    exact (
      r_iload (pc2 := 8) rfl rfl rfl (
      r_aload (pc2 := 9) rfl rfl rfl (
      r_getI (pc2 := 12) rfl rfl (sh_b0 hs hi2) (
      jr_g fun h16 => r_cge (pc2 := 15) (t := 145) rfl h16.1 h16.2 rfl (fun _ =>
      r_iload (pc2 := 16) rfl rfl rfl (
      r_aload (pc2 := 17) rfl rfl rfl (
      r_getA (pc2 := 20) rfl rfl (sh_b0 hs hi2) (sh_bA hs hi2 rfl rfl) (
      r_iload (pc2 := 22) rfl rfl rfl (
      jr_g fun h17 => r_iald (len := 5) (pc2 := 23) rfl rfl (sh_bT hs hi2 rfl rfl) (sh_bL hs hi2 rfl rfl) rfl h17 (
      r_aload (pc2 := 24) rfl rfl rfl (
      r_getA (pc2 := 27) rfl rfl (sh_b0 hs hi2) (sh_bA hs hi2 rfl rfl) (
      r_iload (pc2 := 29) rfl rfl rfl (
      r_iald (len := 5) (pc2 := 30) rfl rfl (sh_bT hs hi2 rfl rfl) (sh_bL hs hi2 rfl rfl) rfl h17 (
      r_callSP (pc2 := 33) (args := [gv c3, gv (gm_I g (bA i1 + 5) v7.toNat), gv (gm_I g (bA i1 + 6) v7.toNat)]) (st2 := []) rfl rfl rfl rfl rfl rfl (rf_cc_cellX hs d g c3 (gm_I g (bA i1 + 5) v7.toNat) (gm_I g (bA i1 + 6) v7.toNat) ) fun v18 => (
      r_iload (pc2 := 34) rfl rfl rfl (
      r_iadd (pc2 := 35) rfl rfl (
      r_aload (pc2 := 36) rfl rfl rfl (
      r_getI (pc2 := 39) rfl rfl (sh_T hs rfl rfl) (
      r_isub (pc2 := 40) rfl rfl (
      r_ic (x := 3) (pc2 := 41) rfl ic_3 rfl (
      r_iadd (pc2 := 42) rfl rfl (
      r_istoreL (L3 := fun v19 => [some (.ref 25), some (.ref (bA i1)), some (gv c3), some (gv c4), some (gv c5), some (gv v6), some (gv v7), some (gv v19), j9, j10]) (pc2 := 44) rfl rfl (fun _ => rfl) fun v19 => (
      r_iload (pc2 := 45) rfl rfl rfl (
      r_aload (pc2 := 46) rfl rfl rfl (
      r_getA (pc2 := 49) rfl rfl (sh_b0 hs hi2) (sh_bA hs hi2 rfl rfl) (
      r_iload (pc2 := 51) rfl rfl rfl (
      r_iald (len := 5) (pc2 := 52) rfl rfl (sh_bT hs hi2 rfl rfl) (sh_bL hs hi2 rfl rfl) rfl h17 (
      r_aload (pc2 := 53) rfl rfl rfl (
      r_getA (pc2 := 56) rfl rfl (sh_b0 hs hi2) (sh_bA hs hi2 rfl rfl) (
      r_iload (pc2 := 58) rfl rfl rfl (
      r_iald (len := 5) (pc2 := 59) rfl rfl (sh_bT hs hi2 rfl rfl) (sh_bL hs hi2 rfl rfl) rfl h17 (
      r_callSP (pc2 := 62) (args := [gv c3, gv (gm_I g (bA i1 + 5) v7.toNat), gv (gm_I g (bA i1 + 6) v7.toNat)]) (st2 := []) rfl rfl rfl rfl rfl rfl (rf_cc_cellY hs d g c3 (gm_I g (bA i1 + 5) v7.toNat) (gm_I g (bA i1 + 6) v7.toNat) ) fun v20 => (
      r_iload (pc2 := 64) rfl rfl rfl (
      r_iadd (pc2 := 65) rfl rfl (
      r_aload (pc2 := 66) rfl rfl rfl (
      r_getI (pc2 := 69) rfl rfl (sh_T hs rfl rfl) (
      r_isub (pc2 := 70) rfl rfl (
      r_ic (x := 3) (pc2 := 71) rfl ic_3 rfl (
      r_iadd (pc2 := 72) rfl rfl (
      r_istoreL (L3 := fun v21 => [some (.ref 25), some (.ref (bA i1)), some (gv c3), some (gv c4), some (gv c5), some (gv v6), some (gv v7), some (gv v19), some (gv v21), j10]) (pc2 := 74) rfl rfl (fun _ => rfl) fun v21 => (
      r_iload (pc2 := 76) rfl rfl rfl (
      r_b1 (R1 := (fun (q : Int) (c : Option jm_R) => c = jm_sup cd_63 (jm_cl jm_CD km_n (d + 2)) (103, [some (.ref 25), some (.ref (bA i1)), some (gv c3), some (gv c4), some (gv c5), some (gv v6), some (gv v7), some (gv v19), some (gv v21), j10], [gv q], gm_h s g))) (
      jr_g fun h23 => r_iflt (pc2 := 79) (t := 102) rfl h23 rfl (fun _ =>
      r_ic (x := 0) (pc2 := 103) rfl ic_0 rfl (
      jr_leaf rfl)) (fun _ =>
      r_iload (pc2 := 81) rfl rfl rfl (
      r_ic (x := 22) (pc2 := 83) rfl ic_22 rfl (
      r_cge (pc2 := 86) (t := 102) rfl h23 (rgk rfl) rfl (fun _ =>
      r_iload (pc2 := 88) rfl rfl rfl (
      jr_g fun h24 => r_iflt (pc2 := 91) (t := 102) rfl h24 rfl (fun _ =>
      r_ic (x := 0) (pc2 := 103) rfl ic_0 rfl (
      jr_leaf rfl)) (fun _ =>
      r_iload (pc2 := 93) rfl rfl rfl (
      r_ic (x := 22) (pc2 := 95) rfl ic_22 rfl (
      r_cge (pc2 := 98) (t := 102) rfl h24 (rgk rfl) rfl (fun _ =>
      r_ic (x := 1) (pc2 := 99) rfl ic_1 rfl (
      r_goto (t := 103) rfl (
      jr_leaf rfl))) (fun _ =>
      r_ic (x := 0) (pc2 := 103) rfl ic_0 rfl (
      jr_leaf rfl))))))) (fun _ =>
      r_ic (x := 0) (pc2 := 103) rfl ic_0 rfl (
      jr_leaf rfl)))))) (fun v22 c h => match c, h with | _, rfl => (
      r_istore (L2 := [some (.ref 25), some (.ref (bA i1)), some (gv c3), some (gv c4), some (gv c5), some (gv v6), some (gv v7), some (gv v19), some (gv v21), some (gv v22)]) (pc2 := 105) rfl rfl rfl (
      r_iload (pc2 := 107) rfl rfl rfl (
      jr_g fun h25 => r_ifeq (pc2 := 110) (t := 139) rfl h25 rfl (fun _ =>
      r_iinc (kk := 1) (L2 := [some (.ref 25), some (.ref (bA i1)), some (gv c3), some (gv c4), some (gv c5), some (gv v6), some (gv (v7 + 1)), some (gv v19), some (gv v21), some (gv v22)]) (pc2 := 142) rfl ic_1 rfl rfl rfl (
      r_goto (t := 6) rfl (
      ih v6 (v7 + 1) _ _ _ rfl rfl rfl))) (fun _ =>
      r_aload (pc2 := 111) rfl rfl rfl (
      r_getA (pc2 := 114) rfl rfl (sh_T hs rfl rfl) (sh_A hs rfl rfl) (
      r_iload (pc2 := 116) rfl rfl rfl (
      r_ic (x := 22) (pc2 := 118) rfl ic_22 rfl (
      r_imul (pc2 := 119) rfl rfl (
      r_iload (pc2 := 121) rfl rfl rfl (
      r_iadd (pc2 := 122) rfl rfl (
      jr_g fun h27 => r_iald (len := 484) (pc2 := 123) rfl rfl (sh_T hs rfl rfl) (sh_L hs rfl rfl) rfl h27 (
      r_aload (pc2 := 124) rfl rfl rfl (
      r_getA (pc2 := 127) rfl rfl (sh_b0 hs hi2) (sh_bA hs hi2 rfl rfl) (
      r_iload (pc2 := 129) rfl rfl rfl (
      r_iald (len := 5) (pc2 := 130) rfl rfl (sh_bT hs hi2 rfl rfl) (sh_bL hs hi2 rfl rfl) rfl h17 (
      r_ishr (pc2 := 131) rfl rfl (
      r_ic (x := 1) (pc2 := 132) rfl ic_1 rfl (
      r_iand (pc2 := 133) rfl rfl (
      r_ifeq (pc2 := 136) (t := 139) rfl (rg_toInt _) rfl (fun _ =>
      r_iinc (kk := 1) (L2 := [some (.ref 25), some (.ref (bA i1)), some (gv c3), some (gv c4), some (gv c5), some (gv v6), some (gv (v7 + 1)), some (gv v19), some (gv v21), some (gv v22)]) (pc2 := 142) rfl ic_1 rfl rfl rfl (
      r_goto (t := 6) rfl (
      ih v6 (v7 + 1) _ _ _ rfl rfl rfl))) (fun _ =>
      r_iinc (kk := 1) (L2 := [some (.ref 25), some (.ref (bA i1)), some (gv c3), some (gv c4), some (gv c5), some (gv (v6 + 1)), some (gv v7), some (gv v19), some (gv v21), some (gv v22)]) (pc2 := 139) rfl ic_1 rfl rfl rfl (
      r_iinc (kk := 1) (L2 := [some (.ref 25), some (.ref (bA i1)), some (gv c3), some (gv c4), some (gv c5), some (gv (v6 + 1)), some (gv (v7 + 1)), some (gv v19), some (gv v21), some (gv v22)]) (pc2 := 142) rfl ic_1 rfl rfl rfl (
      r_goto (t := 6) rfl (
      ih (v6 + 1) (v7 + 1) _ _ _ rfl rfl rfl)))))))))))))))))))))))))))))))))))))))))))))))))))))))))))))) (fun _ =>
      jr_leaf ⟨_, _, _, _, rfl, hj8, hj9, hj10, rfl⟩)))))
theorem rf_cp_countAgreeing {s : gm_S} {n m : Nat} (hs : gm_sh s n m) (d : Nat)  (g : gm_T) (i1 : Nat) (a2 : Int) (a3 : Int) (a4 : Int) (hi1 : i1 < m) : jr (pI s g) (cp_countAgreeing g i1 a2 a3 a4) (jm_cl jm_CD km_n (d + 3) 63 [.ref 25, .ref (bA i1), gv a2, gv a3, gv a4] (gm_h s g)) := by
  unfold cp_countAgreeing
  exact (r_ent (cd := cd_63) (n := 10) (L0 := [some (.ref 25), some (.ref (bA i1)), some (gv a2), some (gv a3), some (gv a4), none, none, none, none, none]) rfl rfl rfl rfl (
      r_ic (x := 0) (pc2 := 1) rfl ic_0 rfl (
      r_istore (L2 := [some (.ref 25), some (.ref (bA i1)), some (gv a2), some (gv a3), some (gv a4), some (gv 0), none, none, none, none]) (pc2 := 3) rfl rfl rfl (
      r_ic (x := 0) (pc2 := 4) rfl ic_0 rfl (
      r_istore (L2 := [some (.ref 25), some (.ref (bA i1)), some (gv a2), some (gv a3), some (gv a4), some (gv 0), some (gv 0), none, none, none]) (pc2 := 6) rfl rfl rfl (
      r_b1 (rl_cp_countAgreeing_l6 hs d  g i1 a2 a3 a4 hi1 fz 0 0 _ _ _ rfl rfl rfl) (fun v31 c h => match c, h with | _, ⟨j32, j33, j34, j35, hj32, hj33, hj34, hj35, rfl⟩ => (
      r_iload (pc2 := 147) rfl rfl rfl (
      r_iret rfl rfl)))))))))
theorem rf_cp_compare {s : gm_S} {n m : Nat} (hs : gm_sh s n m) (d : Nat)  (g : gm_T) (a1 : Int) (a2 : Int64)  : jr (eV s) (cp_compare g a1 a2) (jm_cl jm_CD km_n (d + 1) 66 [.ref 25, gv a1, .long a2] (gm_h s g)) := by
  unfold cp_compare
  exact (r_ent (cd := cd_66) (n := 4) (L0 := [some (.ref 25), some (gv a1), some (.long a2), none]) rfl rfl rfl rfl (
      r_iload (pc2 := 1) rfl rfl rfl (
      r_aload (pc2 := 2) rfl rfl rfl (
      r_getI (pc2 := 5) rfl rfl (sh_T hs rfl rfl) (
      jr_g fun h1 => r_cle (pc2 := 8) (t := 26) rfl h1.1 h1.2 rfl (fun _ =>
      r_iload (pc2 := 27) rfl rfl rfl (
      r_aload (pc2 := 28) rfl rfl rfl (
      r_getI (pc2 := 31) rfl rfl (sh_T hs rfl rfl) (
      r_cne (pc2 := 34) (t := 44) rfl h1.1 h1.2 rfl (fun _ =>
      r_aload (pc2 := 35) rfl rfl rfl (
      r_dup (pc2 := 36) rfl rfl rfl (
      r_getI (pc2 := 39) rfl rfl (sh_T hs rfl rfl) (
      r_ic (x := 1) (pc2 := 40) rfl ic_1 rfl (
      r_iadd (pc2 := 41) rfl rfl (
      r_putI (pc2 := 44) rfl rfl (sh_T hs rfl rfl) fun g2 => (
      r_vret rfl rfl))))))) (fun _ =>
      r_vret rfl rfl))))) (fun _ =>
      r_aload (pc2 := 9) rfl rfl rfl (
      r_iload (pc2 := 10) rfl rfl rfl (
      r_putI (pc2 := 13) rfl rfl (sh_T hs rfl rfl) fun g3 => (
      r_aload (pc2 := 14) rfl rfl rfl (
      r_lload (pc2 := 15) rfl rfl rfl (
      r_putJ (pc2 := 18) rfl rfl (sh_T hs rfl rfl) fun g4 => (
      r_aload (pc2 := 19) rfl rfl rfl (
      r_ic (x := 0) (pc2 := 20) rfl ic_0 rfl (
      r_putI (pc2 := 23) rfl rfl (sh_T hs rfl rfl) fun g5 => (
      r_goto (t := 44) rfl (
      r_vret rfl rfl))))))))))))))))
theorem rl_cp_searchTurned_l45 {s : gm_S} {n m : Nat} (hs : gm_sh s n m) (d : Nat)  (g : gm_T) (i3 : Nat) (c5 : Int) (hi4 : i3 < m) : ∀ (fuel : Nat) (v6 : Int) (v7 : Int) (v8 : Int) (v9 : Int) (v10 : Int) (j11 : Option Value) (j12 : Option Value) (hj11 : jm_lg j11 = false) (hj12 : jm_lg j12 = false), jr (fun (q : Int × Int × Int × Int) (c : Option jm_R) => ∃ (j17 : Option Value) (j18 : Option Value) (j19 : Option Value), jm_lg j17 = false ∧ jm_lg j18 = false ∧ jm_lg j19 = false ∧ c = jm_sup cd_65 (jm_cl jm_CD km_n (d + 3)) (134, [some (.ref 25), some (.ref (bA i3)), some (gv c5), some (gv q.1), some (gv q.2.1), some (gv q.2.2.1), some (gv q.2.2.2), j17, j18, j19], [], gm_h s g)) (cp_searchTurned_l45 g i3 c5 fuel v6 v7 v8 v9 v10) (jm_sup cd_65 (jm_cl jm_CD km_n (d + 3)) (45, [some (.ref 25), some (.ref (bA i3)), some (gv c5), some (gv v6), some (gv v7), some (gv v8), some (gv v9), some (gv v10), j11, j12], [], gm_h s g)) := by
  intro fuel
  induction fuel with
  | zero => intros; exact jr_none
  | succ fuel ih =>
    intro v6 v7 v8 v9 v10 j11 j12 hj11 hj12
    unfold cp_searchTurned_l45
    exact (
      r_iload (pc2 := 47) rfl rfl rfl (
      r_aload (pc2 := 48) rfl rfl rfl (
      r_getI (pc2 := 51) rfl rfl (sh_b0 hs hi4) (
      jr_g fun h20 => r_cge (pc2 := 54) (t := 134) rfl h20.1 h20.2 rfl (fun _ =>
      r_iload (pc2 := 55) rfl rfl rfl (
      r_aload (pc2 := 56) rfl rfl rfl (
      r_getA (pc2 := 59) rfl rfl (sh_b0 hs hi4) (sh_bA hs hi4 rfl rfl) (
      r_iload (pc2 := 61) rfl rfl rfl (
      jr_g fun h21 => r_iald (len := 5) (pc2 := 62) rfl rfl (sh_bT hs hi4 rfl rfl) (sh_bL hs hi4 rfl rfl) rfl h21 (
      r_aload (pc2 := 63) rfl rfl rfl (
      r_getA (pc2 := 66) rfl rfl (sh_b0 hs hi4) (sh_bA hs hi4 rfl rfl) (
      r_iload (pc2 := 68) rfl rfl rfl (
      r_iald (len := 5) (pc2 := 69) rfl rfl (sh_bT hs hi4 rfl rfl) (sh_bL hs hi4 rfl rfl) rfl h21 (
      r_callSP (pc2 := 72) (args := [gv c5, gv (gm_I g (bA i3 + 5) v10.toNat), gv (gm_I g (bA i3 + 6) v10.toNat)]) (st2 := []) rfl rfl rfl rfl rfl rfl (rf_cc_cellX hs (d + 1) g c5 (gm_I g (bA i3 + 5) v10.toNat) (gm_I g (bA i3 + 6) v10.toNat) ) fun v22 => (
      r_istore (L2 := [some (.ref 25), some (.ref (bA i3)), some (gv c5), some (gv v6), some (gv v7), some (gv v8), some (gv v9), some (gv v10), some (gv v22), j12]) (pc2 := 74) rfl rfl rfl (
      r_iload (pc2 := 75) rfl rfl rfl (
      r_aload (pc2 := 76) rfl rfl rfl (
      r_getA (pc2 := 79) rfl rfl (sh_b0 hs hi4) (sh_bA hs hi4 rfl rfl) (
      r_iload (pc2 := 81) rfl rfl rfl (
      r_iald (len := 5) (pc2 := 82) rfl rfl (sh_bT hs hi4 rfl rfl) (sh_bL hs hi4 rfl rfl) rfl h21 (
      r_aload (pc2 := 83) rfl rfl rfl (
      r_getA (pc2 := 86) rfl rfl (sh_b0 hs hi4) (sh_bA hs hi4 rfl rfl) (
      r_iload (pc2 := 88) rfl rfl rfl (
      r_iald (len := 5) (pc2 := 89) rfl rfl (sh_bT hs hi4 rfl rfl) (sh_bL hs hi4 rfl rfl) rfl h21 (
      r_callSP (pc2 := 92) (args := [gv c5, gv (gm_I g (bA i3 + 5) v10.toNat), gv (gm_I g (bA i3 + 6) v10.toNat)]) (st2 := []) rfl rfl rfl rfl rfl rfl (rf_cc_cellY hs (d + 1) g c5 (gm_I g (bA i3 + 5) v10.toNat) (gm_I g (bA i3 + 6) v10.toNat) ) fun v23 => (
      r_istore (L2 := [some (.ref 25), some (.ref (bA i3)), some (gv c5), some (gv v6), some (gv v7), some (gv v8), some (gv v9), some (gv v10), some (gv v22), some (gv v23)]) (pc2 := 94) rfl rfl rfl (
      r_iload (pc2 := 95) rfl rfl rfl (
      r_iload (pc2 := 97) rfl rfl rfl (
      jr_g fun h24 => r_mmin (pc2 := 100) rfl rfl rfl h24.1 h24.2 (
      r_istoreL (L3 := fun v25 => [some (.ref 25), some (.ref (bA i3)), some (gv c5), some (gv v25), some (gv v7), some (gv v8), some (gv v9), some (gv v10), some (gv v22), some (gv v23)]) (pc2 := 101) rfl rfl (fun _ => rfl) fun v25 => (
      r_iload (pc2 := 103) rfl rfl rfl (
      r_iload (pc2 := 105) rfl rfl rfl (
      jr_g fun h26 => r_mmin (pc2 := 108) rfl rfl rfl h26.1 h26.2 (
      r_istoreL (L3 := fun v27 => [some (.ref 25), some (.ref (bA i3)), some (gv c5), some (gv v25), some (gv v27), some (gv v8), some (gv v9), some (gv v10), some (gv v22), some (gv v23)]) (pc2 := 110) rfl rfl (fun _ => rfl) fun v27 => (
      r_iload (pc2 := 112) rfl rfl rfl (
      r_iload (pc2 := 114) rfl rfl rfl (
      jr_g fun h28 => r_mmax (pc2 := 117) rfl rfl rfl h28 h24.2 (
      r_istoreL (L3 := fun v29 => [some (.ref 25), some (.ref (bA i3)), some (gv c5), some (gv v25), some (gv v27), some (gv v29), some (gv v9), some (gv v10), some (gv v22), some (gv v23)]) (pc2 := 119) rfl rfl (fun _ => rfl) fun v29 => (
      r_iload (pc2 := 121) rfl rfl rfl (
      r_iload (pc2 := 123) rfl rfl rfl (
      jr_g fun h30 => r_mmax (pc2 := 126) rfl rfl rfl h30 h26.2 (
      r_istoreL (L3 := fun v31 => [some (.ref 25), some (.ref (bA i3)), some (gv c5), some (gv v25), some (gv v27), some (gv v29), some (gv v31), some (gv v10), some (gv v22), some (gv v23)]) (pc2 := 128) rfl rfl (fun _ => rfl) fun v31 => (
      r_iinc (kk := 1) (L2 := [some (.ref 25), some (.ref (bA i3)), some (gv c5), some (gv v25), some (gv v27), some (gv v29), some (gv v31), some (gv (v10 + 1)), some (gv v22), some (gv v23)]) (pc2 := 131) rfl ic_1 rfl rfl rfl (
      r_goto (t := 45) rfl (
      ih v25 v27 v29 v31 (v10 + 1) _ _ rfl rfl))))))))))))))))))))))))))))))))))))))))) (fun _ =>
      jr_leaf ⟨_, _, _, rfl, hj11, hj12, rfl⟩)))))
theorem rl_cp_searchTurned_l168 {s : gm_S} {n m : Nat} (hs : gm_sh s n m) (d : Nat)  (i57 : Nat) (c59 : Int) (c60 : Int) (c62 : Int) (c63 : Int) (c64 : Int) (hi58 : i57 < m) : ∀ (fuel : Nat) (v65 : Int) (g67 : gm_T) (j61 : Option Value) (j66 : Option Value) (hj61 : jm_lg j61 = false) (hj66 : jm_lg j66 = false), jr (fun (q : gm_T) (c : Option jm_R) => ∃ (j68 : Option Value), jm_lg j68 = false ∧ c = jm_sup cd_65 (jm_cl jm_CD km_n (d + 3)) (213, [some (.ref 25), some (.ref (bA i57)), some (gv c59), some (gv c60), j61, some (gv c62), some (gv c63), some (gv c64), j68, j66], [], gm_h s q)) (cp_searchTurned_l168  i57 c59 c60 c62 c63 c64 fuel v65 g67) (jm_sup cd_65 (jm_cl jm_CD km_n (d + 3)) (168, [some (.ref 25), some (.ref (bA i57)), some (gv c59), some (gv c60), j61, some (gv c62), some (gv c63), some (gv c64), some (gv v65), j66], [], gm_h s g67)) := by
  intro fuel
  induction fuel with
  | zero => intros; exact jr_none
  | succ fuel ih =>
    intro v65 g67 j61 j66 hj61 hj66
    unfold cp_searchTurned_l168
    exact (
      r_iload (pc2 := 170) rfl rfl rfl (
      r_aload (pc2 := 171) rfl rfl rfl (
      r_getI (pc2 := 174) rfl rfl (sh_T hs rfl rfl) (
      r_aload (pc2 := 175) rfl rfl rfl (
      r_getI (pc2 := 178) rfl rfl (sh_T hs rfl rfl) (
      r_iadd (pc2 := 179) rfl rfl (
      r_iload (pc2 := 181) rfl rfl rfl (
      r_isub (pc2 := 182) rfl rfl (
      jr_g fun h70 => r_cge (pc2 := 185) (t := 213) rfl h70.1 h70.2 rfl (fun _ =>
      r_aload (pc2 := 186) rfl rfl rfl (
      r_aload (pc2 := 187) rfl rfl rfl (
      r_aload (pc2 := 188) rfl rfl rfl (
      r_iload (pc2 := 189) rfl rfl rfl (
      r_iload (pc2 := 191) rfl rfl rfl (
      r_iload (pc2 := 193) rfl rfl rfl (
      r_callVP (pc2 := 196) (args := [.ref 25, .ref (bA i57), gv c59, gv v65, gv c64]) (st2 := [.ref 25]) rfl rfl rfl rfl rfl rfl (rc_of (sh_T hs rfl rfl)) (rf_cp_countAgreeing hs d g67 i57 c59 v65 c64 hi58) fun v71 => (
      r_iload (pc2 := 197) rfl rfl rfl (
      r_iload (pc2 := 199) rfl rfl rfl (
      r_iload (pc2 := 201) rfl rfl rfl (
      r_callSL (pc2 := 204) (args := [gv c59, gv v65, gv c64]) (st2 := [gv v71, .ref 25]) rfl rfl rfl rfl rfl rfl (rf_cc_of hs (d + 2) g67 c59 v65 c64 ) fun v72 => (
      r_callVV (pc2 := 207) (args := [.ref 25, gv v71, .long v72]) (st2 := []) rfl rfl rfl rfl rfl rfl (rc_of (sh_T hs rfl rfl)) (rf_cp_compare hs (d + 2) g67 v71 v72 ) fun g73 => (
      r_iinc (kk := 1) (L2 := [some (.ref 25), some (.ref (bA i57)), some (gv c59), some (gv c60), j61, some (gv c62), some (gv c63), some (gv c64), some (gv (v65 + 1)), j66]) (pc2 := 210) rfl ic_1 rfl rfl rfl (
      r_goto (t := 168) rfl (
      ih (v65 + 1) g73 _ _ hj61 hj66))))))))))))))) (fun _ =>
      jr_leaf ⟨_, rfl, rfl⟩))))))))))
theorem rl_cp_searchTurned_l143 {s : gm_S} {n m : Nat} (hs : gm_sh s n m) (d : Nat)  (i41 : Nat) (c43 : Int) (c44 : Int) (c46 : Int) (c47 : Int) (hi42 : i41 < m) : ∀ (fuel : Nat) (v48 : Int) (g51 : gm_T) (j45 : Option Value) (j49 : Option Value) (j50 : Option Value) (hj45 : jm_lg j45 = false) (hj49 : jm_lg j49 = false) (hj50 : jm_lg j50 = false), jr (fun (q : gm_T) (c : Option jm_R) => ∃ (j52 : Option Value) (j53 : Option Value), jm_lg j52 = false ∧ jm_lg j53 = false ∧ c = jm_sup cd_65 (jm_cl jm_CD km_n (d + 3)) (219, [some (.ref 25), some (.ref (bA i41)), some (gv c43), some (gv c44), j45, some (gv c46), some (gv c47), j52, j53, j50], [], gm_h s q)) (cp_searchTurned_l143  i41 c43 c44 c46 c47 fuel v48 g51) (jm_sup cd_65 (jm_cl jm_CD km_n (d + 3)) (143, [some (.ref 25), some (.ref (bA i41)), some (gv c43), some (gv c44), j45, some (gv c46), some (gv c47), some (gv v48), j49, j50], [], gm_h s g51)) := by
  intro fuel
  induction fuel with
  | zero => intros; exact jr_none
  | succ fuel ih =>
    intro v48 g51 j45 j49 j50 hj45 hj49 hj50
    unfold cp_searchTurned_l143
    exact (
      r_iload (pc2 := 145) rfl rfl rfl (
      r_aload (pc2 := 146) rfl rfl rfl (
      r_getI (pc2 := 149) rfl rfl (sh_T hs rfl rfl) (
      r_aload (pc2 := 150) rfl rfl rfl (
      r_getI (pc2 := 153) rfl rfl (sh_T hs rfl rfl) (
      r_iadd (pc2 := 154) rfl rfl (
      r_iload (pc2 := 156) rfl rfl rfl (
      r_isub (pc2 := 157) rfl rfl (
      jr_g fun h55 => r_cge (pc2 := 160) (t := 219) rfl h55.1 h55.2 rfl (fun _ =>
      r_aload (pc2 := 161) rfl rfl rfl (
      r_getI (pc2 := 164) rfl rfl (sh_T hs rfl rfl) (
      r_iload (pc2 := 165) rfl rfl rfl (
      r_isub (pc2 := 166) rfl rfl (
      r_istoreL (L3 := fun v56 => [some (.ref 25), some (.ref (bA i41)), some (gv c43), some (gv c44), j45, some (gv c46), some (gv c47), some (gv v48), some (gv v56), j50]) (pc2 := 168) rfl rfl (fun _ => rfl) fun v56 => (
      r_b1 (rl_cp_searchTurned_l168 hs d   i41 c43 c44 c46 c47 v48 hi42 fz v56 g51 _ _ hj45 hj50) (fun g78 c h => match c, h with | _, ⟨j76, hj76, rfl⟩ => (
      r_iinc (kk := 1) (L2 := [some (.ref 25), some (.ref (bA i41)), some (gv c43), some (gv c44), j45, some (gv c46), some (gv c47), some (gv (v48 + 1)), j76, j50]) (pc2 := 216) rfl ic_1 rfl rfl rfl (
      r_goto (t := 143) rfl (
      ih (v48 + 1) g78 _ _ _ hj45 hj76 hj50)))))))))) (fun _ =>
      jr_leaf ⟨_, _, rfl, hj49, rfl⟩))))))))))
theorem rf_cp_searchTurned {s : gm_S} {n m : Nat} (hs : gm_sh s n m) (d : Nat)  (g : gm_T) (i1 : Nat) (a2 : Int) (hi1 : i1 < m) : jr (eV s) (cp_searchTurned g i1 a2) (jm_cl jm_CD km_n (d + 4) 65 [.ref 25, .ref (bA i1), gv a2] (gm_h s g)) := by
  unfold cp_searchTurned
  exact (r_ent (cd := cd_65) (n := 10) (L0 := [some (.ref 25), some (.ref (bA i1)), some (gv a2), none, none, none, none, none, none, none]) rfl rfl rfl rfl (
      r_iload (pc2 := 1) rfl rfl rfl (
      r_aload (pc2 := 2) rfl rfl rfl (
      r_getA (pc2 := 5) rfl rfl (sh_b0 hs hi1) (sh_bA hs hi1 rfl rfl) (
      r_ic (x := 0) (pc2 := 6) rfl ic_0 rfl (
      r_iald (len := 5) (pc2 := 7) rfl rfl (sh_bT hs hi1 rfl rfl) (sh_bL hs hi1 rfl rfl) rfl ⟨by decide, by decide⟩ (
      r_aload (pc2 := 8) rfl rfl rfl (
      r_getA (pc2 := 11) rfl rfl (sh_b0 hs hi1) (sh_bA hs hi1 rfl rfl) (
      r_ic (x := 0) (pc2 := 12) rfl ic_0 rfl (
      r_iald (len := 5) (pc2 := 13) rfl rfl (sh_bT hs hi1 rfl rfl) (sh_bL hs hi1 rfl rfl) rfl ⟨by decide, by decide⟩ (
      r_callSP (pc2 := 16) (args := [gv a2, gv (gm_I g (bA i1 + 5) 0), gv (gm_I g (bA i1 + 6) 0)]) (st2 := []) rfl rfl rfl rfl rfl rfl (rf_cc_cellX hs (d + 1) g a2 (gm_I g (bA i1 + 5) 0) (gm_I g (bA i1 + 6) 0) ) fun v1 => (
      r_istore (L2 := [some (.ref 25), some (.ref (bA i1)), some (gv a2), some (gv v1), none, none, none, none, none, none]) (pc2 := 17) rfl rfl rfl (
      r_iload (pc2 := 18) rfl rfl rfl (
      r_aload (pc2 := 19) rfl rfl rfl (
      r_getA (pc2 := 22) rfl rfl (sh_b0 hs hi1) (sh_bA hs hi1 rfl rfl) (
      r_ic (x := 0) (pc2 := 23) rfl ic_0 rfl (
      r_iald (len := 5) (pc2 := 24) rfl rfl (sh_bT hs hi1 rfl rfl) (sh_bL hs hi1 rfl rfl) rfl ⟨by decide, by decide⟩ (
      r_aload (pc2 := 25) rfl rfl rfl (
      r_getA (pc2 := 28) rfl rfl (sh_b0 hs hi1) (sh_bA hs hi1 rfl rfl) (
      r_ic (x := 0) (pc2 := 29) rfl ic_0 rfl (
      r_iald (len := 5) (pc2 := 30) rfl rfl (sh_bT hs hi1 rfl rfl) (sh_bL hs hi1 rfl rfl) rfl ⟨by decide, by decide⟩ (
      r_callSP (pc2 := 33) (args := [gv a2, gv (gm_I g (bA i1 + 5) 0), gv (gm_I g (bA i1 + 6) 0)]) (st2 := []) rfl rfl rfl rfl rfl rfl (rf_cc_cellY hs (d + 1) g a2 (gm_I g (bA i1 + 5) 0) (gm_I g (bA i1 + 6) 0) ) fun v2 => (
      r_istore (L2 := [some (.ref 25), some (.ref (bA i1)), some (gv a2), some (gv v1), some (gv v2), none, none, none, none, none]) (pc2 := 35) rfl rfl rfl (
      r_iload (pc2 := 36) rfl rfl rfl (
      r_istore (L2 := [some (.ref 25), some (.ref (bA i1)), some (gv a2), some (gv v1), some (gv v2), some (gv v1), none, none, none, none]) (pc2 := 38) rfl rfl rfl (
      r_iload (pc2 := 40) rfl rfl rfl (
      r_istore (L2 := [some (.ref 25), some (.ref (bA i1)), some (gv a2), some (gv v1), some (gv v2), some (gv v1), some (gv v2), none, none, none]) (pc2 := 42) rfl rfl rfl (
      r_ic (x := 1) (pc2 := 43) rfl ic_1 rfl (
      r_istore (L2 := [some (.ref 25), some (.ref (bA i1)), some (gv a2), some (gv v1), some (gv v2), some (gv v1), some (gv v2), some (gv 1), none, none]) (pc2 := 45) rfl rfl rfl (
      r_b4 (rl_cp_searchTurned_l45 hs d  g i1 a2 hi1 fz v1 v2 v1 v2 1 _ _ rfl rfl) (fun v33 v34 v35 v36 c h => match c, h with | _, ⟨j37, j38, j39, hj37, hj38, hj39, rfl⟩ => (
      r_aload (pc2 := 135) rfl rfl rfl (
      r_getI (pc2 := 138) rfl rfl (sh_T hs rfl rfl) (
      r_iload (pc2 := 140) rfl rfl rfl (
      r_isub (pc2 := 141) rfl rfl (
      r_istoreL (L3 := fun v40 => [some (.ref 25), some (.ref (bA i1)), some (gv a2), some (gv v33), some (gv v34), some (gv v35), some (gv v36), some (gv v40), j38, j39]) (pc2 := 143) rfl rfl (fun _ => rfl) fun v40 => (
      r_b1 (rl_cp_searchTurned_l143 hs d   i1 a2 v33 v35 v36 hi1 fz v40 g _ _ _ rfl hj38 hj39) (fun g84 c h => match c, h with | _, ⟨j81, j82, hj81, hj82, rfl⟩ => (
      r_vret rfl rfl)))))))))))))))))))))))))))))))))))))))
theorem rl_cp_search_l21 {s : gm_S} {n m : Nat} (hs : gm_sh s n m) (d : Nat)  (i4 : Nat) (hi5 : i4 < m) : ∀ (fuel : Nat) (v6 : Int) (g7 : gm_T), jr (fun (q : gm_T) (c : Option jm_R) => ∃ (j8 : Option Value), jm_lg j8 = false ∧ c = jm_sup cd_64 (jm_cl jm_CD km_n (d + 4)) (38, [some (.ref 25), some (.ref (bA i4)), j8], [], gm_h s q)) (cp_search_l21  i4 fuel v6 g7) (jm_sup cd_64 (jm_cl jm_CD km_n (d + 4)) (21, [some (.ref 25), some (.ref (bA i4)), some (gv v6)], [], gm_h s g7)) := by
  intro fuel
  induction fuel with
  | zero => intros; exact jr_none
  | succ fuel ih =>
    intro v6 g7  
    unfold cp_search_l21
    exact (
      r_iload (pc2 := 22) rfl rfl rfl (
      r_ic (x := 4) (pc2 := 23) rfl ic_4 rfl (
      jr_g fun h10 => r_cge (pc2 := 26) (t := 38) rfl h10 (rgk rfl) rfl (fun _ =>
      r_aload (pc2 := 27) rfl rfl rfl (
      r_aload (pc2 := 28) rfl rfl rfl (
      r_iload (pc2 := 29) rfl rfl rfl (
      r_callVV (pc2 := 32) (args := [.ref 25, .ref (bA i4), gv v6]) (st2 := []) rfl rfl rfl rfl rfl rfl (rc_of (sh_T hs rfl rfl)) (rf_cp_searchTurned hs d g7 i4 v6 hi5) fun g11 => (
      r_iinc (kk := 1) (L2 := [some (.ref 25), some (.ref (bA i4)), some (gv (v6 + 1))]) (pc2 := 35) rfl ic_1 rfl rfl rfl (
      r_goto (t := 21) rfl (
      ih (v6 + 1) g11))))))) (fun _ =>
      jr_leaf ⟨_, rfl, rfl⟩))))
theorem rf_cp_search {s : gm_S} {n m : Nat} (hs : gm_sh s n m) (d : Nat)  (g : gm_T) (i1 : Nat) (hi1 : i1 < m) : jr (eI s) (cp_search g i1) (jm_cl jm_CD km_n (d + 5) 64 [.ref 25, .ref (bA i1)] (gm_h s g)) := by
  unfold cp_search
  exact (r_ent (cd := cd_64) (n := 3) (L0 := [some (.ref 25), some (.ref (bA i1)), none]) rfl rfl rfl rfl (
      r_aload (pc2 := 1) rfl rfl rfl (
      r_ic (x := -1) (pc2 := 2) rfl ic_m1 rfl (
      r_putI (pc2 := 5) rfl rfl (sh_T hs rfl rfl) fun g1 => (
      r_aload (pc2 := 6) rfl rfl rfl (
      r_ic (x := 0) (pc2 := 7) rfl ic_0 rfl (
      r_putI (pc2 := 10) rfl rfl (sh_T hs rfl rfl) fun g2 => (
      r_aload (pc2 := 11) rfl rfl rfl (
      r_getI (pc2 := 14) rfl rfl (sh_b0 hs hi1) (
      jr_g fun h3 => r_ifne (pc2 := 17) (t := 19) rfl h3 rfl (fun _ =>
      r_ic (x := 0) (pc2 := 18) rfl ic_0 rfl (
      r_zret rfl (by decide) rfl)) (fun _ =>
      r_ic (x := 0) (pc2 := 20) rfl ic_0 rfl (
      r_istore (L2 := [some (.ref 25), some (.ref (bA i1)), some (gv 0)]) (pc2 := 21) rfl rfl rfl (
      r_b1 (rl_cp_search_l21 hs d   i1 hi1 fz 0 g2  ) (fun g14 c h => match c, h with | _, ⟨j13, hj13, rfl⟩ => (
      r_aload (pc2 := 39) rfl rfl rfl (
      r_getI (pc2 := 42) rfl rfl (sh_T hs rfl rfl) (
      jr_g fun h15 => r_iflt (pc2 := 45) (t := 49) rfl h15 rfl (fun _ =>
      r_ic (x := 0) (pc2 := 50) rfl ic_0 rfl (
      r_zret rfl (by decide) rfl)) (fun _ =>
      r_ic (x := 1) (pc2 := 46) rfl ic_1 rfl (
      r_goto (t := 50) rfl (
      r_zret rfl (by decide) rfl))))))))))))))))))))
theorem rf_cq_open {s : gm_S} {n m : Nat} (hs : gm_sh s n m) (d : Nat)  (g : gm_T)   : jr (eV s) (cq_open g ) (jm_cl jm_CD km_n (d + 1) 69 [.ref 40] (gm_h s g)) := by
  unfold cq_open
  exact (r_ent (cd := cd_69) (n := 1) (L0 := [some (.ref 40)]) rfl rfl rfl rfl (
      r_aload (pc2 := 1) rfl rfl rfl (
      r_dup (pc2 := 2) rfl rfl rfl (
      r_getI (pc2 := 5) rfl rfl (sh_T hs rfl rfl) (
      r_ic (x := 1) (pc2 := 6) rfl ic_1 rfl (
      r_iadd (pc2 := 7) rfl rfl (
      r_putI (pc2 := 10) rfl rfl (sh_T hs rfl rfl) fun g1 => (
      r_aload (pc2 := 11) rfl rfl rfl (
      r_getA (pc2 := 14) rfl rfl (sh_T hs rfl rfl) (sh_A hs rfl rfl) (
      r_aload (pc2 := 15) rfl rfl rfl (
      r_getI (pc2 := 18) rfl rfl (sh_T hs rfl rfl) (
      r_ic (x := 0) (pc2 := 19) rfl ic_0 rfl (
      jr_g fun h3 => r_iast (len := 241) (pc2 := 20) rfl rfl (sh_T hs rfl rfl) (sh_L hs rfl rfl) rfl h3 fun g2 => (
      r_aload (pc2 := 21) rfl rfl rfl (
      r_getA (pc2 := 24) rfl rfl (sh_T hs rfl rfl) (sh_A hs rfl rfl) (
      r_aload (pc2 := 25) rfl rfl rfl (
      r_getI (pc2 := 28) rfl rfl (sh_T hs rfl rfl) (
      r_aload (pc2 := 29) rfl rfl rfl (
      r_getI (pc2 := 32) rfl rfl (sh_T hs rfl rfl) (
      jr_g fun h5 => r_iast (len := 241) (pc2 := 33) rfl rfl (sh_T hs rfl rfl) (sh_L hs rfl rfl) rfl h5 fun g4 => (
      r_aload (pc2 := 34) rfl rfl rfl (
      r_getA (pc2 := 37) rfl rfl (sh_T hs rfl rfl) (sh_A hs rfl rfl) (
      r_aload (pc2 := 38) rfl rfl rfl (
      r_getI (pc2 := 41) rfl rfl (sh_T hs rfl rfl) (
      r_ic (x := 0) (pc2 := 42) rfl ic_0 rfl (
      jr_g fun h7 => r_zast (len := 241) (pc2 := 43) rfl rfl (sh_T hs rfl rfl) (sh_L hs rfl rfl) rfl h7 (by decide) fun g6 => (
      r_vret rfl rfl)))))))))))))))))))))))))))
theorem rf_cq_isLetter {s : gm_S} {n m : Nat} (hs : gm_sh s n m) (d : Nat)  (g : gm_T) (a0 : Int)  : jr (pI s g) (cq_isLetter g a0) (jm_cl jm_CD km_n (d + 1) 74 [gv a0] (gm_h s g)) := by
  unfold cq_isLetter
  exact (r_ent (cd := cd_74) (n := 1) (L0 := [some (gv a0)]) rfl rfl rfl rfl (
      r_iload (pc2 := 1) rfl rfl rfl (
      jr_g fun h1 => (jr_ite (fun h2 => r_sw (pc2 := 104) rfl (sw_yes ic_98 h2) (
      r_ic (x := 1) (pc2 := 105) rfl ic_1 rfl (
      r_zret rfl (by decide) rfl))) (fun h2 =>
      jr_ite (fun h3 => r_sw (pc2 := 104) rfl (sw_no ic_98 h1 (rgk rfl) h2 (sw_yes ic_99 h3)) (
      r_ic (x := 1) (pc2 := 105) rfl ic_1 rfl (
      r_zret rfl (by decide) rfl))) (fun h3 =>
      jr_ite (fun h4 => r_sw (pc2 := 106) rfl (sw_no ic_98 h1 (rgk rfl) h2 (sw_no ic_99 h1 (rgk rfl) h3 (sw_yes ic_100 h4))) (
      r_ic (x := 0) (pc2 := 107) rfl ic_0 rfl (
      r_zret rfl (by decide) rfl))) (fun h4 =>
      jr_ite (fun h5 => r_sw (pc2 := 104) rfl (sw_no ic_98 h1 (rgk rfl) h2 (sw_no ic_99 h1 (rgk rfl) h3 (sw_no ic_100 h1 (rgk rfl) h4 (sw_yes ic_101 h5)))) (
      r_ic (x := 1) (pc2 := 105) rfl ic_1 rfl (
      r_zret rfl (by decide) rfl))) (fun h5 =>
      jr_ite (fun h6 => r_sw (pc2 := 106) rfl (sw_no ic_98 h1 (rgk rfl) h2 (sw_no ic_99 h1 (rgk rfl) h3 (sw_no ic_100 h1 (rgk rfl) h4 (sw_no ic_101 h1 (rgk rfl) h5 (sw_yes ic_102 h6))))) (
      r_ic (x := 0) (pc2 := 107) rfl ic_0 rfl (
      r_zret rfl (by decide) rfl))) (fun h6 =>
      jr_ite (fun h7 => r_sw (pc2 := 104) rfl (sw_no ic_98 h1 (rgk rfl) h2 (sw_no ic_99 h1 (rgk rfl) h3 (sw_no ic_100 h1 (rgk rfl) h4 (sw_no ic_101 h1 (rgk rfl) h5 (sw_no ic_102 h1 (rgk rfl) h6 (sw_yes ic_103 h7)))))) (
      r_ic (x := 1) (pc2 := 105) rfl ic_1 rfl (
      r_zret rfl (by decide) rfl))) (fun h7 =>
      jr_ite (fun h8 => r_sw (pc2 := 106) rfl (sw_no ic_98 h1 (rgk rfl) h2 (sw_no ic_99 h1 (rgk rfl) h3 (sw_no ic_100 h1 (rgk rfl) h4 (sw_no ic_101 h1 (rgk rfl) h5 (sw_no ic_102 h1 (rgk rfl) h6 (sw_no ic_103 h1 (rgk rfl) h7 (sw_yes ic_104 h8))))))) (
      r_ic (x := 0) (pc2 := 107) rfl ic_0 rfl (
      r_zret rfl (by decide) rfl))) (fun h8 =>
      jr_ite (fun h9 => r_sw (pc2 := 106) rfl (sw_no ic_98 h1 (rgk rfl) h2 (sw_no ic_99 h1 (rgk rfl) h3 (sw_no ic_100 h1 (rgk rfl) h4 (sw_no ic_101 h1 (rgk rfl) h5 (sw_no ic_102 h1 (rgk rfl) h6 (sw_no ic_103 h1 (rgk rfl) h7 (sw_no ic_104 h1 (rgk rfl) h8 (sw_yes ic_105 h9)))))))) (
      r_ic (x := 0) (pc2 := 107) rfl ic_0 rfl (
      r_zret rfl (by decide) rfl))) (fun h9 =>
      jr_ite (fun h10 => r_sw (pc2 := 104) rfl (sw_no ic_98 h1 (rgk rfl) h2 (sw_no ic_99 h1 (rgk rfl) h3 (sw_no ic_100 h1 (rgk rfl) h4 (sw_no ic_101 h1 (rgk rfl) h5 (sw_no ic_102 h1 (rgk rfl) h6 (sw_no ic_103 h1 (rgk rfl) h7 (sw_no ic_104 h1 (rgk rfl) h8 (sw_no ic_105 h1 (rgk rfl) h9 (sw_yes ic_106 h10))))))))) (
      r_ic (x := 1) (pc2 := 105) rfl ic_1 rfl (
      r_zret rfl (by decide) rfl))) (fun h10 =>
      jr_ite (fun h11 => r_sw (pc2 := 106) rfl (sw_no ic_98 h1 (rgk rfl) h2 (sw_no ic_99 h1 (rgk rfl) h3 (sw_no ic_100 h1 (rgk rfl) h4 (sw_no ic_101 h1 (rgk rfl) h5 (sw_no ic_102 h1 (rgk rfl) h6 (sw_no ic_103 h1 (rgk rfl) h7 (sw_no ic_104 h1 (rgk rfl) h8 (sw_no ic_105 h1 (rgk rfl) h9 (sw_no ic_106 h1 (rgk rfl) h10 (sw_yes ic_107 h11)))))))))) (
      r_ic (x := 0) (pc2 := 107) rfl ic_0 rfl (
      r_zret rfl (by decide) rfl))) (fun h11 =>
      jr_ite (fun h12 => r_sw (pc2 := 106) rfl (sw_no ic_98 h1 (rgk rfl) h2 (sw_no ic_99 h1 (rgk rfl) h3 (sw_no ic_100 h1 (rgk rfl) h4 (sw_no ic_101 h1 (rgk rfl) h5 (sw_no ic_102 h1 (rgk rfl) h6 (sw_no ic_103 h1 (rgk rfl) h7 (sw_no ic_104 h1 (rgk rfl) h8 (sw_no ic_105 h1 (rgk rfl) h9 (sw_no ic_106 h1 (rgk rfl) h10 (sw_no ic_107 h1 (rgk rfl) h11 (sw_yes ic_108 h12))))))))))) (
      r_ic (x := 0) (pc2 := 107) rfl ic_0 rfl (
      r_zret rfl (by decide) rfl))) (fun h12 =>
      jr_ite (fun h13 => r_sw (pc2 := 106) rfl (sw_no ic_98 h1 (rgk rfl) h2 (sw_no ic_99 h1 (rgk rfl) h3 (sw_no ic_100 h1 (rgk rfl) h4 (sw_no ic_101 h1 (rgk rfl) h5 (sw_no ic_102 h1 (rgk rfl) h6 (sw_no ic_103 h1 (rgk rfl) h7 (sw_no ic_104 h1 (rgk rfl) h8 (sw_no ic_105 h1 (rgk rfl) h9 (sw_no ic_106 h1 (rgk rfl) h10 (sw_no ic_107 h1 (rgk rfl) h11 (sw_no ic_108 h1 (rgk rfl) h12 (sw_yes ic_109 h13)))))))))))) (
      r_ic (x := 0) (pc2 := 107) rfl ic_0 rfl (
      r_zret rfl (by decide) rfl))) (fun h13 =>
      jr_ite (fun h14 => r_sw (pc2 := 104) rfl (sw_no ic_98 h1 (rgk rfl) h2 (sw_no ic_99 h1 (rgk rfl) h3 (sw_no ic_100 h1 (rgk rfl) h4 (sw_no ic_101 h1 (rgk rfl) h5 (sw_no ic_102 h1 (rgk rfl) h6 (sw_no ic_103 h1 (rgk rfl) h7 (sw_no ic_104 h1 (rgk rfl) h8 (sw_no ic_105 h1 (rgk rfl) h9 (sw_no ic_106 h1 (rgk rfl) h10 (sw_no ic_107 h1 (rgk rfl) h11 (sw_no ic_108 h1 (rgk rfl) h12 (sw_no ic_109 h1 (rgk rfl) h13 (sw_yes ic_110 h14))))))))))))) (
      r_ic (x := 1) (pc2 := 105) rfl ic_1 rfl (
      r_zret rfl (by decide) rfl))) (fun h14 =>
      jr_ite (fun h15 => r_sw (pc2 := 106) rfl (sw_no ic_98 h1 (rgk rfl) h2 (sw_no ic_99 h1 (rgk rfl) h3 (sw_no ic_100 h1 (rgk rfl) h4 (sw_no ic_101 h1 (rgk rfl) h5 (sw_no ic_102 h1 (rgk rfl) h6 (sw_no ic_103 h1 (rgk rfl) h7 (sw_no ic_104 h1 (rgk rfl) h8 (sw_no ic_105 h1 (rgk rfl) h9 (sw_no ic_106 h1 (rgk rfl) h10 (sw_no ic_107 h1 (rgk rfl) h11 (sw_no ic_108 h1 (rgk rfl) h12 (sw_no ic_109 h1 (rgk rfl) h13 (sw_no ic_110 h1 (rgk rfl) h14 (sw_yes ic_111 h15)))))))))))))) (
      r_ic (x := 0) (pc2 := 107) rfl ic_0 rfl (
      r_zret rfl (by decide) rfl))) (fun h15 =>
      jr_ite (fun h16 => r_sw (pc2 := 104) rfl (sw_no ic_98 h1 (rgk rfl) h2 (sw_no ic_99 h1 (rgk rfl) h3 (sw_no ic_100 h1 (rgk rfl) h4 (sw_no ic_101 h1 (rgk rfl) h5 (sw_no ic_102 h1 (rgk rfl) h6 (sw_no ic_103 h1 (rgk rfl) h7 (sw_no ic_104 h1 (rgk rfl) h8 (sw_no ic_105 h1 (rgk rfl) h9 (sw_no ic_106 h1 (rgk rfl) h10 (sw_no ic_107 h1 (rgk rfl) h11 (sw_no ic_108 h1 (rgk rfl) h12 (sw_no ic_109 h1 (rgk rfl) h13 (sw_no ic_110 h1 (rgk rfl) h14 (sw_no ic_111 h1 (rgk rfl) h15 (sw_yes ic_112 h16))))))))))))))) (
      r_ic (x := 1) (pc2 := 105) rfl ic_1 rfl (
      r_zret rfl (by decide) rfl))) (fun h16 =>
      jr_ite (fun h17 => r_sw (pc2 := 106) rfl (sw_no ic_98 h1 (rgk rfl) h2 (sw_no ic_99 h1 (rgk rfl) h3 (sw_no ic_100 h1 (rgk rfl) h4 (sw_no ic_101 h1 (rgk rfl) h5 (sw_no ic_102 h1 (rgk rfl) h6 (sw_no ic_103 h1 (rgk rfl) h7 (sw_no ic_104 h1 (rgk rfl) h8 (sw_no ic_105 h1 (rgk rfl) h9 (sw_no ic_106 h1 (rgk rfl) h10 (sw_no ic_107 h1 (rgk rfl) h11 (sw_no ic_108 h1 (rgk rfl) h12 (sw_no ic_109 h1 (rgk rfl) h13 (sw_no ic_110 h1 (rgk rfl) h14 (sw_no ic_111 h1 (rgk rfl) h15 (sw_no ic_112 h1 (rgk rfl) h16 (sw_yes ic_113 h17)))))))))))))))) (
      r_ic (x := 0) (pc2 := 107) rfl ic_0 rfl (
      r_zret rfl (by decide) rfl))) (fun h17 =>
      jr_ite (fun h18 => r_sw (pc2 := 106) rfl (sw_no ic_98 h1 (rgk rfl) h2 (sw_no ic_99 h1 (rgk rfl) h3 (sw_no ic_100 h1 (rgk rfl) h4 (sw_no ic_101 h1 (rgk rfl) h5 (sw_no ic_102 h1 (rgk rfl) h6 (sw_no ic_103 h1 (rgk rfl) h7 (sw_no ic_104 h1 (rgk rfl) h8 (sw_no ic_105 h1 (rgk rfl) h9 (sw_no ic_106 h1 (rgk rfl) h10 (sw_no ic_107 h1 (rgk rfl) h11 (sw_no ic_108 h1 (rgk rfl) h12 (sw_no ic_109 h1 (rgk rfl) h13 (sw_no ic_110 h1 (rgk rfl) h14 (sw_no ic_111 h1 (rgk rfl) h15 (sw_no ic_112 h1 (rgk rfl) h16 (sw_no ic_113 h1 (rgk rfl) h17 (sw_yes ic_114 h18))))))))))))))))) (
      r_ic (x := 0) (pc2 := 107) rfl ic_0 rfl (
      r_zret rfl (by decide) rfl))) (fun h18 =>
      jr_ite (fun h19 => r_sw (pc2 := 104) rfl (sw_no ic_98 h1 (rgk rfl) h2 (sw_no ic_99 h1 (rgk rfl) h3 (sw_no ic_100 h1 (rgk rfl) h4 (sw_no ic_101 h1 (rgk rfl) h5 (sw_no ic_102 h1 (rgk rfl) h6 (sw_no ic_103 h1 (rgk rfl) h7 (sw_no ic_104 h1 (rgk rfl) h8 (sw_no ic_105 h1 (rgk rfl) h9 (sw_no ic_106 h1 (rgk rfl) h10 (sw_no ic_107 h1 (rgk rfl) h11 (sw_no ic_108 h1 (rgk rfl) h12 (sw_no ic_109 h1 (rgk rfl) h13 (sw_no ic_110 h1 (rgk rfl) h14 (sw_no ic_111 h1 (rgk rfl) h15 (sw_no ic_112 h1 (rgk rfl) h16 (sw_no ic_113 h1 (rgk rfl) h17 (sw_no ic_114 h1 (rgk rfl) h18 (sw_yes ic_115 h19)))))))))))))))))) (
      r_ic (x := 1) (pc2 := 105) rfl ic_1 rfl (
      r_zret rfl (by decide) rfl))) (fun h19 =>
      jr_ite (fun h20 => r_sw (pc2 := 104) rfl (sw_no ic_98 h1 (rgk rfl) h2 (sw_no ic_99 h1 (rgk rfl) h3 (sw_no ic_100 h1 (rgk rfl) h4 (sw_no ic_101 h1 (rgk rfl) h5 (sw_no ic_102 h1 (rgk rfl) h6 (sw_no ic_103 h1 (rgk rfl) h7 (sw_no ic_104 h1 (rgk rfl) h8 (sw_no ic_105 h1 (rgk rfl) h9 (sw_no ic_106 h1 (rgk rfl) h10 (sw_no ic_107 h1 (rgk rfl) h11 (sw_no ic_108 h1 (rgk rfl) h12 (sw_no ic_109 h1 (rgk rfl) h13 (sw_no ic_110 h1 (rgk rfl) h14 (sw_no ic_111 h1 (rgk rfl) h15 (sw_no ic_112 h1 (rgk rfl) h16 (sw_no ic_113 h1 (rgk rfl) h17 (sw_no ic_114 h1 (rgk rfl) h18 (sw_no ic_115 h1 (rgk rfl) h19 (sw_yes ic_116 h20))))))))))))))))))) (
      r_ic (x := 1) (pc2 := 105) rfl ic_1 rfl (
      r_zret rfl (by decide) rfl))) (fun h20 =>
      jr_ite (fun h21 => r_sw (pc2 := 106) rfl (sw_no ic_98 h1 (rgk rfl) h2 (sw_no ic_99 h1 (rgk rfl) h3 (sw_no ic_100 h1 (rgk rfl) h4 (sw_no ic_101 h1 (rgk rfl) h5 (sw_no ic_102 h1 (rgk rfl) h6 (sw_no ic_103 h1 (rgk rfl) h7 (sw_no ic_104 h1 (rgk rfl) h8 (sw_no ic_105 h1 (rgk rfl) h9 (sw_no ic_106 h1 (rgk rfl) h10 (sw_no ic_107 h1 (rgk rfl) h11 (sw_no ic_108 h1 (rgk rfl) h12 (sw_no ic_109 h1 (rgk rfl) h13 (sw_no ic_110 h1 (rgk rfl) h14 (sw_no ic_111 h1 (rgk rfl) h15 (sw_no ic_112 h1 (rgk rfl) h16 (sw_no ic_113 h1 (rgk rfl) h17 (sw_no ic_114 h1 (rgk rfl) h18 (sw_no ic_115 h1 (rgk rfl) h19 (sw_no ic_116 h1 (rgk rfl) h20 (sw_yes ic_117 h21)))))))))))))))))))) (
      r_ic (x := 0) (pc2 := 107) rfl ic_0 rfl (
      r_zret rfl (by decide) rfl))) (fun h21 =>
      jr_ite (fun h22 => r_sw (pc2 := 104) rfl (sw_no ic_98 h1 (rgk rfl) h2 (sw_no ic_99 h1 (rgk rfl) h3 (sw_no ic_100 h1 (rgk rfl) h4 (sw_no ic_101 h1 (rgk rfl) h5 (sw_no ic_102 h1 (rgk rfl) h6 (sw_no ic_103 h1 (rgk rfl) h7 (sw_no ic_104 h1 (rgk rfl) h8 (sw_no ic_105 h1 (rgk rfl) h9 (sw_no ic_106 h1 (rgk rfl) h10 (sw_no ic_107 h1 (rgk rfl) h11 (sw_no ic_108 h1 (rgk rfl) h12 (sw_no ic_109 h1 (rgk rfl) h13 (sw_no ic_110 h1 (rgk rfl) h14 (sw_no ic_111 h1 (rgk rfl) h15 (sw_no ic_112 h1 (rgk rfl) h16 (sw_no ic_113 h1 (rgk rfl) h17 (sw_no ic_114 h1 (rgk rfl) h18 (sw_no ic_115 h1 (rgk rfl) h19 (sw_no ic_116 h1 (rgk rfl) h20 (sw_no ic_117 h1 (rgk rfl) h21 (sw_yes ic_118 h22))))))))))))))))))))) (
      r_ic (x := 1) (pc2 := 105) rfl ic_1 rfl (
      r_zret rfl (by decide) rfl))) (fun h22 =>
      jr_ite (fun h23 => r_sw (pc2 := 104) rfl (sw_no ic_98 h1 (rgk rfl) h2 (sw_no ic_99 h1 (rgk rfl) h3 (sw_no ic_100 h1 (rgk rfl) h4 (sw_no ic_101 h1 (rgk rfl) h5 (sw_no ic_102 h1 (rgk rfl) h6 (sw_no ic_103 h1 (rgk rfl) h7 (sw_no ic_104 h1 (rgk rfl) h8 (sw_no ic_105 h1 (rgk rfl) h9 (sw_no ic_106 h1 (rgk rfl) h10 (sw_no ic_107 h1 (rgk rfl) h11 (sw_no ic_108 h1 (rgk rfl) h12 (sw_no ic_109 h1 (rgk rfl) h13 (sw_no ic_110 h1 (rgk rfl) h14 (sw_no ic_111 h1 (rgk rfl) h15 (sw_no ic_112 h1 (rgk rfl) h16 (sw_no ic_113 h1 (rgk rfl) h17 (sw_no ic_114 h1 (rgk rfl) h18 (sw_no ic_115 h1 (rgk rfl) h19 (sw_no ic_116 h1 (rgk rfl) h20 (sw_no ic_117 h1 (rgk rfl) h21 (sw_no ic_118 h1 (rgk rfl) h22 (sw_yes ic_119 h23)))))))))))))))))))))) (
      r_ic (x := 1) (pc2 := 105) rfl ic_1 rfl (
      r_zret rfl (by decide) rfl))) (fun h23 =>
      r_sw (pc2 := 106) rfl (sw_no ic_98 h1 (rgk rfl) h2 (sw_no ic_99 h1 (rgk rfl) h3 (sw_no ic_100 h1 (rgk rfl) h4 (sw_no ic_101 h1 (rgk rfl) h5 (sw_no ic_102 h1 (rgk rfl) h6 (sw_no ic_103 h1 (rgk rfl) h7 (sw_no ic_104 h1 (rgk rfl) h8 (sw_no ic_105 h1 (rgk rfl) h9 (sw_no ic_106 h1 (rgk rfl) h10 (sw_no ic_107 h1 (rgk rfl) h11 (sw_no ic_108 h1 (rgk rfl) h12 (sw_no ic_109 h1 (rgk rfl) h13 (sw_no ic_110 h1 (rgk rfl) h14 (sw_no ic_111 h1 (rgk rfl) h15 (sw_no ic_112 h1 (rgk rfl) h16 (sw_no ic_113 h1 (rgk rfl) h17 (sw_no ic_114 h1 (rgk rfl) h18 (sw_no ic_115 h1 (rgk rfl) h19 (sw_no ic_116 h1 (rgk rfl) h20 (sw_no ic_117 h1 (rgk rfl) h21 (sw_no ic_118 h1 (rgk rfl) h22 (sw_no ic_119 h1 (rgk rfl) h23 rfl)))))))))))))))))))))) (
      r_ic (x := 0) (pc2 := 107) rfl ic_0 rfl (
      r_zret rfl (by decide) rfl))))))))))))))))))))))))))))
theorem rf_cq_valueOf {s : gm_S} {n m : Nat} (hs : gm_sh s n m) (d : Nat)  (g : gm_T) (a1 : Int) (a2 : Int)  : jr (pI s g) (cq_valueOf n g a1 a2) (jm_cl jm_CD km_n (d + 3) 76 [.ref 40, gv a1, gv a2] (gm_h s g)) := by
  unfold cq_valueOf
  exact (r_ent (cd := cd_76) (n := 5) (L0 := [some (.ref 40), some (gv a1), some (gv a2), none, none]) rfl rfl rfl rfl (
      r_aload (pc2 := 1) rfl rfl rfl (
      r_getA (pc2 := 4) rfl rfl (sh_T hs rfl rfl) (sh_A hs rfl rfl) (
      r_getA (pc2 := 7) rfl rfl (sh_T hs rfl rfl) (sh_A hs rfl rfl) (
      r_iload (pc2 := 8) rfl rfl rfl (
      jr_g fun h1 => r_aald (pc2 := 9) rfl rfl hs h1 (
      r_astore (L2 := [some (.ref 40), some (gv a1), some (gv a2), some (.ref (bA a2.toNat)), none]) (pc2 := 10) rfl rfl rfl (
      r_iload (pc2 := 11) rfl rfl rfl (
      jr_g fun h2 => (jr_ite (fun h5 => r_sw (pc2 := 145) rfl (sw_yes ic_99 h5) (
      r_aload (pc2 := 146) rfl rfl rfl (
      r_getI (pc2 := 149) rfl rfl (sh_b0 hs (bn_lt hs h1)) (
      r_iret rfl rfl)))) (fun h5 =>
      jr_ite (fun h6 => r_sw (pc2 := 190) rfl (sw_no ic_99 h2 (rgk rfl) h5 (sw_yes ic_100 h6)) (
      r_aload (pc2 := 191) rfl rfl rfl (
      r_getA (pc2 := 194) rfl rfl (sh_T hs rfl rfl) (sh_A hs rfl rfl) (
      r_iload (pc2 := 195) rfl rfl rfl (
      r_callVP (pc2 := 198) (args := [.ref 32, gv a2]) (st2 := []) rfl rfl rfl rfl rfl rfl (rc_of (sh_T hs rfl rfl)) (rf_cx_boxNow hs d g a2 ) fun v50 => (
      r_istore (L2 := [some (.ref 40), some (gv a1), some (gv a2), some (.ref (bA a2.toNat)), some (gv v50)]) (pc2 := 200) rfl rfl rfl (
      r_iload (pc2 := 202) rfl rfl rfl (
      jr_g fun h51 => r_ifge (pc2 := 205) (t := 210) rfl h51 rfl (fun _ =>
      r_ic (x := 99) (pc2 := 207) rfl ic_99 rfl (
      r_goto (t := 212) rfl (
      r_iret rfl rfl))) (fun _ =>
      r_iload (pc2 := 212) rfl rfl rfl (
      r_iret rfl rfl)))))))))) (fun h6 =>
      jr_ite (fun h7 => r_sw (pc2 := 135) rfl (sw_no ic_99 h2 (rgk rfl) h5 (sw_no ic_100 h2 (rgk rfl) h6 (sw_yes ic_101 h7))) (
      r_aload (pc2 := 136) rfl rfl rfl (
      r_getI (pc2 := 139) rfl rfl (sh_b0 hs (bn_lt hs h1)) (
      r_iret rfl rfl)))) (fun h7 =>
      jr_ite (fun h8 => r_sw (pc2 := 190) rfl (sw_no ic_99 h2 (rgk rfl) h5 (sw_no ic_100 h2 (rgk rfl) h6 (sw_no ic_101 h2 (rgk rfl) h7 (sw_yes ic_102 h8)))) (
      r_aload (pc2 := 191) rfl rfl rfl (
      r_getA (pc2 := 194) rfl rfl (sh_T hs rfl rfl) (sh_A hs rfl rfl) (
      r_iload (pc2 := 195) rfl rfl rfl (
      r_callVP (pc2 := 198) (args := [.ref 32, gv a2]) (st2 := []) rfl rfl rfl rfl rfl rfl (rc_of (sh_T hs rfl rfl)) (rf_cx_boxNow hs d g a2 ) fun v48 => (
      r_istore (L2 := [some (.ref 40), some (gv a1), some (gv a2), some (.ref (bA a2.toNat)), some (gv v48)]) (pc2 := 200) rfl rfl rfl (
      r_iload (pc2 := 202) rfl rfl rfl (
      jr_g fun h49 => r_ifge (pc2 := 205) (t := 210) rfl h49 rfl (fun _ =>
      r_ic (x := 99) (pc2 := 207) rfl ic_99 rfl (
      r_goto (t := 212) rfl (
      r_iret rfl rfl))) (fun _ =>
      r_iload (pc2 := 212) rfl rfl rfl (
      r_iret rfl rfl)))))))))) (fun h8 =>
      jr_ite (fun h9 => r_sw (pc2 := 159) rfl (sw_no ic_99 h2 (rgk rfl) h5 (sw_no ic_100 h2 (rgk rfl) h6 (sw_no ic_101 h2 (rgk rfl) h7 (sw_no ic_102 h2 (rgk rfl) h8 (sw_yes ic_103 h9))))) (
      r_aload (pc2 := 160) rfl rfl rfl (
      r_getA (pc2 := 163) rfl rfl (sh_T hs rfl rfl) (sh_A hs rfl rfl) (
      r_getA (pc2 := 166) rfl rfl (sh_T hs rfl rfl) (sh_A hs rfl rfl) (
      r_iload (pc2 := 167) rfl rfl rfl (
      jr_g fun h46 => r_iald (len := 30) (pc2 := 168) rfl rfl (sh_T hs rfl rfl) (sh_L hs rfl rfl) rfl h46 (
      r_callSP (pc2 := 171) (args := [gv (gm_I g 19 a2.toNat)]) (st2 := []) rfl rfl rfl rfl rfl rfl (rf_jd_bitCount hs (d + 1) g (gm_I g 19 a2.toNat) ) fun v47 => (
      r_iret rfl rfl)))))))) (fun h9 =>
      jr_ite (fun h10 => r_sw (pc2 := 190) rfl (sw_no ic_99 h2 (rgk rfl) h5 (sw_no ic_100 h2 (rgk rfl) h6 (sw_no ic_101 h2 (rgk rfl) h7 (sw_no ic_102 h2 (rgk rfl) h8 (sw_no ic_103 h2 (rgk rfl) h9 (sw_yes ic_104 h10)))))) (
      r_aload (pc2 := 191) rfl rfl rfl (
      r_getA (pc2 := 194) rfl rfl (sh_T hs rfl rfl) (sh_A hs rfl rfl) (
      r_iload (pc2 := 195) rfl rfl rfl (
      r_callVP (pc2 := 198) (args := [.ref 32, gv a2]) (st2 := []) rfl rfl rfl rfl rfl rfl (rc_of (sh_T hs rfl rfl)) (rf_cx_boxNow hs d g a2 ) fun v44 => (
      r_istore (L2 := [some (.ref 40), some (gv a1), some (gv a2), some (.ref (bA a2.toNat)), some (gv v44)]) (pc2 := 200) rfl rfl rfl (
      r_iload (pc2 := 202) rfl rfl rfl (
      jr_g fun h45 => r_ifge (pc2 := 205) (t := 210) rfl h45 rfl (fun _ =>
      r_ic (x := 99) (pc2 := 207) rfl ic_99 rfl (
      r_goto (t := 212) rfl (
      r_iret rfl rfl))) (fun _ =>
      r_iload (pc2 := 212) rfl rfl rfl (
      r_iret rfl rfl)))))))))) (fun h10 =>
      jr_ite (fun h11 => r_sw (pc2 := 190) rfl (sw_no ic_99 h2 (rgk rfl) h5 (sw_no ic_100 h2 (rgk rfl) h6 (sw_no ic_101 h2 (rgk rfl) h7 (sw_no ic_102 h2 (rgk rfl) h8 (sw_no ic_103 h2 (rgk rfl) h9 (sw_no ic_104 h2 (rgk rfl) h10 (sw_yes ic_105 h11))))))) (
      r_aload (pc2 := 191) rfl rfl rfl (
      r_getA (pc2 := 194) rfl rfl (sh_T hs rfl rfl) (sh_A hs rfl rfl) (
      r_iload (pc2 := 195) rfl rfl rfl (
      r_callVP (pc2 := 198) (args := [.ref 32, gv a2]) (st2 := []) rfl rfl rfl rfl rfl rfl (rc_of (sh_T hs rfl rfl)) (rf_cx_boxNow hs d g a2 ) fun v42 => (
      r_istore (L2 := [some (.ref 40), some (gv a1), some (gv a2), some (.ref (bA a2.toNat)), some (gv v42)]) (pc2 := 200) rfl rfl rfl (
      r_iload (pc2 := 202) rfl rfl rfl (
      jr_g fun h43 => r_ifge (pc2 := 205) (t := 210) rfl h43 rfl (fun _ =>
      r_ic (x := 99) (pc2 := 207) rfl ic_99 rfl (
      r_goto (t := 212) rfl (
      r_iret rfl rfl))) (fun _ =>
      r_iload (pc2 := 212) rfl rfl rfl (
      r_iret rfl rfl)))))))))) (fun h11 =>
      jr_ite (fun h12 => r_sw (pc2 := 150) rfl (sw_no ic_99 h2 (rgk rfl) h5 (sw_no ic_100 h2 (rgk rfl) h6 (sw_no ic_101 h2 (rgk rfl) h7 (sw_no ic_102 h2 (rgk rfl) h8 (sw_no ic_103 h2 (rgk rfl) h9 (sw_no ic_104 h2 (rgk rfl) h10 (sw_no ic_105 h2 (rgk rfl) h11 (sw_yes ic_106 h12)))))))) (
      r_aload (pc2 := 151) rfl rfl rfl (
      r_getA (pc2 := 154) rfl rfl (sh_T hs rfl rfl) (sh_A hs rfl rfl) (
      r_iload (pc2 := 155) rfl rfl rfl (
      r_callVP (pc2 := 158) (args := [.ref 14, gv a2]) (st2 := []) rfl rfl rfl rfl rfl rfl (rc_of (sh_T hs rfl rfl)) (rf_cj_countAt hs d g a2 ) fun v41 => (
      r_iret rfl rfl)))))) (fun h12 =>
      jr_ite (fun h13 => r_sw (pc2 := 190) rfl (sw_no ic_99 h2 (rgk rfl) h5 (sw_no ic_100 h2 (rgk rfl) h6 (sw_no ic_101 h2 (rgk rfl) h7 (sw_no ic_102 h2 (rgk rfl) h8 (sw_no ic_103 h2 (rgk rfl) h9 (sw_no ic_104 h2 (rgk rfl) h10 (sw_no ic_105 h2 (rgk rfl) h11 (sw_no ic_106 h2 (rgk rfl) h12 (sw_yes ic_107 h13))))))))) (
      r_aload (pc2 := 191) rfl rfl rfl (
      r_getA (pc2 := 194) rfl rfl (sh_T hs rfl rfl) (sh_A hs rfl rfl) (
      r_iload (pc2 := 195) rfl rfl rfl (
      r_callVP (pc2 := 198) (args := [.ref 32, gv a2]) (st2 := []) rfl rfl rfl rfl rfl rfl (rc_of (sh_T hs rfl rfl)) (rf_cx_boxNow hs d g a2 ) fun v39 => (
      r_istore (L2 := [some (.ref 40), some (gv a1), some (gv a2), some (.ref (bA a2.toNat)), some (gv v39)]) (pc2 := 200) rfl rfl rfl (
      r_iload (pc2 := 202) rfl rfl rfl (
      jr_g fun h40 => r_ifge (pc2 := 205) (t := 210) rfl h40 rfl (fun _ =>
      r_ic (x := 99) (pc2 := 207) rfl ic_99 rfl (
      r_goto (t := 212) rfl (
      r_iret rfl rfl))) (fun _ =>
      r_iload (pc2 := 212) rfl rfl rfl (
      r_iret rfl rfl)))))))))) (fun h13 =>
      jr_ite (fun h14 => r_sw (pc2 := 190) rfl (sw_no ic_99 h2 (rgk rfl) h5 (sw_no ic_100 h2 (rgk rfl) h6 (sw_no ic_101 h2 (rgk rfl) h7 (sw_no ic_102 h2 (rgk rfl) h8 (sw_no ic_103 h2 (rgk rfl) h9 (sw_no ic_104 h2 (rgk rfl) h10 (sw_no ic_105 h2 (rgk rfl) h11 (sw_no ic_106 h2 (rgk rfl) h12 (sw_no ic_107 h2 (rgk rfl) h13 (sw_yes ic_108 h14)))))))))) (
      r_aload (pc2 := 191) rfl rfl rfl (
      r_getA (pc2 := 194) rfl rfl (sh_T hs rfl rfl) (sh_A hs rfl rfl) (
      r_iload (pc2 := 195) rfl rfl rfl (
      r_callVP (pc2 := 198) (args := [.ref 32, gv a2]) (st2 := []) rfl rfl rfl rfl rfl rfl (rc_of (sh_T hs rfl rfl)) (rf_cx_boxNow hs d g a2 ) fun v37 => (
      r_istore (L2 := [some (.ref 40), some (gv a1), some (gv a2), some (.ref (bA a2.toNat)), some (gv v37)]) (pc2 := 200) rfl rfl rfl (
      r_iload (pc2 := 202) rfl rfl rfl (
      jr_g fun h38 => r_ifge (pc2 := 205) (t := 210) rfl h38 rfl (fun _ =>
      r_ic (x := 99) (pc2 := 207) rfl ic_99 rfl (
      r_goto (t := 212) rfl (
      r_iret rfl rfl))) (fun _ =>
      r_iload (pc2 := 212) rfl rfl rfl (
      r_iret rfl rfl)))))))))) (fun h14 =>
      jr_ite (fun h15 => r_sw (pc2 := 190) rfl (sw_no ic_99 h2 (rgk rfl) h5 (sw_no ic_100 h2 (rgk rfl) h6 (sw_no ic_101 h2 (rgk rfl) h7 (sw_no ic_102 h2 (rgk rfl) h8 (sw_no ic_103 h2 (rgk rfl) h9 (sw_no ic_104 h2 (rgk rfl) h10 (sw_no ic_105 h2 (rgk rfl) h11 (sw_no ic_106 h2 (rgk rfl) h12 (sw_no ic_107 h2 (rgk rfl) h13 (sw_no ic_108 h2 (rgk rfl) h14 (sw_yes ic_109 h15))))))))))) (
      r_aload (pc2 := 191) rfl rfl rfl (
      r_getA (pc2 := 194) rfl rfl (sh_T hs rfl rfl) (sh_A hs rfl rfl) (
      r_iload (pc2 := 195) rfl rfl rfl (
      r_callVP (pc2 := 198) (args := [.ref 32, gv a2]) (st2 := []) rfl rfl rfl rfl rfl rfl (rc_of (sh_T hs rfl rfl)) (rf_cx_boxNow hs d g a2 ) fun v35 => (
      r_istore (L2 := [some (.ref 40), some (gv a1), some (gv a2), some (.ref (bA a2.toNat)), some (gv v35)]) (pc2 := 200) rfl rfl rfl (
      r_iload (pc2 := 202) rfl rfl rfl (
      jr_g fun h36 => r_ifge (pc2 := 205) (t := 210) rfl h36 rfl (fun _ =>
      r_ic (x := 99) (pc2 := 207) rfl ic_99 rfl (
      r_goto (t := 212) rfl (
      r_iret rfl rfl))) (fun _ =>
      r_iload (pc2 := 212) rfl rfl rfl (
      r_iret rfl rfl)))))))))) (fun h15 =>
      jr_ite (fun h16 => r_sw (pc2 := 140) rfl (sw_no ic_99 h2 (rgk rfl) h5 (sw_no ic_100 h2 (rgk rfl) h6 (sw_no ic_101 h2 (rgk rfl) h7 (sw_no ic_102 h2 (rgk rfl) h8 (sw_no ic_103 h2 (rgk rfl) h9 (sw_no ic_104 h2 (rgk rfl) h10 (sw_no ic_105 h2 (rgk rfl) h11 (sw_no ic_106 h2 (rgk rfl) h12 (sw_no ic_107 h2 (rgk rfl) h13 (sw_no ic_108 h2 (rgk rfl) h14 (sw_no ic_109 h2 (rgk rfl) h15 (sw_yes ic_110 h16)))))))))))) (
      r_aload (pc2 := 141) rfl rfl rfl (
      r_getI (pc2 := 144) rfl rfl (sh_b0 hs (bn_lt hs h1)) (
      r_iret rfl rfl)))) (fun h16 =>
      jr_ite (fun h17 => r_sw (pc2 := 190) rfl (sw_no ic_99 h2 (rgk rfl) h5 (sw_no ic_100 h2 (rgk rfl) h6 (sw_no ic_101 h2 (rgk rfl) h7 (sw_no ic_102 h2 (rgk rfl) h8 (sw_no ic_103 h2 (rgk rfl) h9 (sw_no ic_104 h2 (rgk rfl) h10 (sw_no ic_105 h2 (rgk rfl) h11 (sw_no ic_106 h2 (rgk rfl) h12 (sw_no ic_107 h2 (rgk rfl) h13 (sw_no ic_108 h2 (rgk rfl) h14 (sw_no ic_109 h2 (rgk rfl) h15 (sw_no ic_110 h2 (rgk rfl) h16 (sw_yes ic_111 h17))))))))))))) (
      r_aload (pc2 := 191) rfl rfl rfl (
      r_getA (pc2 := 194) rfl rfl (sh_T hs rfl rfl) (sh_A hs rfl rfl) (
      r_iload (pc2 := 195) rfl rfl rfl (
      r_callVP (pc2 := 198) (args := [.ref 32, gv a2]) (st2 := []) rfl rfl rfl rfl rfl rfl (rc_of (sh_T hs rfl rfl)) (rf_cx_boxNow hs d g a2 ) fun v33 => (
      r_istore (L2 := [some (.ref 40), some (gv a1), some (gv a2), some (.ref (bA a2.toNat)), some (gv v33)]) (pc2 := 200) rfl rfl rfl (
      r_iload (pc2 := 202) rfl rfl rfl (
      jr_g fun h34 => r_ifge (pc2 := 205) (t := 210) rfl h34 rfl (fun _ =>
      r_ic (x := 99) (pc2 := 207) rfl ic_99 rfl (
      r_goto (t := 212) rfl (
      r_iret rfl rfl))) (fun _ =>
      r_iload (pc2 := 212) rfl rfl rfl (
      r_iret rfl rfl)))))))))) (fun h17 =>
      jr_ite (fun h18 => r_sw (pc2 := 130) rfl (sw_no ic_99 h2 (rgk rfl) h5 (sw_no ic_100 h2 (rgk rfl) h6 (sw_no ic_101 h2 (rgk rfl) h7 (sw_no ic_102 h2 (rgk rfl) h8 (sw_no ic_103 h2 (rgk rfl) h9 (sw_no ic_104 h2 (rgk rfl) h10 (sw_no ic_105 h2 (rgk rfl) h11 (sw_no ic_106 h2 (rgk rfl) h12 (sw_no ic_107 h2 (rgk rfl) h13 (sw_no ic_108 h2 (rgk rfl) h14 (sw_no ic_109 h2 (rgk rfl) h15 (sw_no ic_110 h2 (rgk rfl) h16 (sw_no ic_111 h2 (rgk rfl) h17 (sw_yes ic_112 h18)))))))))))))) (
      r_aload (pc2 := 131) rfl rfl rfl (
      r_getI (pc2 := 134) rfl rfl (sh_b0 hs (bn_lt hs h1)) (
      r_iret rfl rfl)))) (fun h18 =>
      jr_ite (fun h19 => r_sw (pc2 := 190) rfl (sw_no ic_99 h2 (rgk rfl) h5 (sw_no ic_100 h2 (rgk rfl) h6 (sw_no ic_101 h2 (rgk rfl) h7 (sw_no ic_102 h2 (rgk rfl) h8 (sw_no ic_103 h2 (rgk rfl) h9 (sw_no ic_104 h2 (rgk rfl) h10 (sw_no ic_105 h2 (rgk rfl) h11 (sw_no ic_106 h2 (rgk rfl) h12 (sw_no ic_107 h2 (rgk rfl) h13 (sw_no ic_108 h2 (rgk rfl) h14 (sw_no ic_109 h2 (rgk rfl) h15 (sw_no ic_110 h2 (rgk rfl) h16 (sw_no ic_111 h2 (rgk rfl) h17 (sw_no ic_112 h2 (rgk rfl) h18 (sw_yes ic_113 h19))))))))))))))) (
      r_aload (pc2 := 191) rfl rfl rfl (
      r_getA (pc2 := 194) rfl rfl (sh_T hs rfl rfl) (sh_A hs rfl rfl) (
      r_iload (pc2 := 195) rfl rfl rfl (
      r_callVP (pc2 := 198) (args := [.ref 32, gv a2]) (st2 := []) rfl rfl rfl rfl rfl rfl (rc_of (sh_T hs rfl rfl)) (rf_cx_boxNow hs d g a2 ) fun v31 => (
      r_istore (L2 := [some (.ref 40), some (gv a1), some (gv a2), some (.ref (bA a2.toNat)), some (gv v31)]) (pc2 := 200) rfl rfl rfl (
      r_iload (pc2 := 202) rfl rfl rfl (
      jr_g fun h32 => r_ifge (pc2 := 205) (t := 210) rfl h32 rfl (fun _ =>
      r_ic (x := 99) (pc2 := 207) rfl ic_99 rfl (
      r_goto (t := 212) rfl (
      r_iret rfl rfl))) (fun _ =>
      r_iload (pc2 := 212) rfl rfl rfl (
      r_iret rfl rfl)))))))))) (fun h19 =>
      jr_ite (fun h20 => r_sw (pc2 := 190) rfl (sw_no ic_99 h2 (rgk rfl) h5 (sw_no ic_100 h2 (rgk rfl) h6 (sw_no ic_101 h2 (rgk rfl) h7 (sw_no ic_102 h2 (rgk rfl) h8 (sw_no ic_103 h2 (rgk rfl) h9 (sw_no ic_104 h2 (rgk rfl) h10 (sw_no ic_105 h2 (rgk rfl) h11 (sw_no ic_106 h2 (rgk rfl) h12 (sw_no ic_107 h2 (rgk rfl) h13 (sw_no ic_108 h2 (rgk rfl) h14 (sw_no ic_109 h2 (rgk rfl) h15 (sw_no ic_110 h2 (rgk rfl) h16 (sw_no ic_111 h2 (rgk rfl) h17 (sw_no ic_112 h2 (rgk rfl) h18 (sw_no ic_113 h2 (rgk rfl) h19 (sw_yes ic_114 h20)))))))))))))))) (
      r_aload (pc2 := 191) rfl rfl rfl (
      r_getA (pc2 := 194) rfl rfl (sh_T hs rfl rfl) (sh_A hs rfl rfl) (
      r_iload (pc2 := 195) rfl rfl rfl (
      r_callVP (pc2 := 198) (args := [.ref 32, gv a2]) (st2 := []) rfl rfl rfl rfl rfl rfl (rc_of (sh_T hs rfl rfl)) (rf_cx_boxNow hs d g a2 ) fun v29 => (
      r_istore (L2 := [some (.ref 40), some (gv a1), some (gv a2), some (.ref (bA a2.toNat)), some (gv v29)]) (pc2 := 200) rfl rfl rfl (
      r_iload (pc2 := 202) rfl rfl rfl (
      jr_g fun h30 => r_ifge (pc2 := 205) (t := 210) rfl h30 rfl (fun _ =>
      r_ic (x := 99) (pc2 := 207) rfl ic_99 rfl (
      r_goto (t := 212) rfl (
      r_iret rfl rfl))) (fun _ =>
      r_iload (pc2 := 212) rfl rfl rfl (
      r_iret rfl rfl)))))))))) (fun h20 =>
      jr_ite (fun h21 => r_sw (pc2 := 113) rfl (sw_no ic_99 h2 (rgk rfl) h5 (sw_no ic_100 h2 (rgk rfl) h6 (sw_no ic_101 h2 (rgk rfl) h7 (sw_no ic_102 h2 (rgk rfl) h8 (sw_no ic_103 h2 (rgk rfl) h9 (sw_no ic_104 h2 (rgk rfl) h10 (sw_no ic_105 h2 (rgk rfl) h11 (sw_no ic_106 h2 (rgk rfl) h12 (sw_no ic_107 h2 (rgk rfl) h13 (sw_no ic_108 h2 (rgk rfl) h14 (sw_no ic_109 h2 (rgk rfl) h15 (sw_no ic_110 h2 (rgk rfl) h16 (sw_no ic_111 h2 (rgk rfl) h17 (sw_no ic_112 h2 (rgk rfl) h18 (sw_no ic_113 h2 (rgk rfl) h19 (sw_no ic_114 h2 (rgk rfl) h20 (sw_yes ic_115 h21))))))))))))))))) (
      r_aload (pc2 := 114) rfl rfl rfl (
      r_getI (pc2 := 117) rfl rfl (sh_b0 hs (bn_lt hs h1)) (
      jr_g fun h28 => r_ifge (pc2 := 120) (t := 125) rfl h28 rfl (fun _ =>
      r_ic (x := 9) (pc2 := 122) rfl ic_9 rfl (
      r_goto (t := 129) rfl (
      r_iret rfl rfl))) (fun _ =>
      r_aload (pc2 := 126) rfl rfl rfl (
      r_getI (pc2 := 129) rfl rfl (sh_b0 hs (bn_lt hs h1)) (
      r_iret rfl rfl))))))) (fun h21 =>
      jr_ite (fun h22 => r_sw (pc2 := 108) rfl (sw_no ic_99 h2 (rgk rfl) h5 (sw_no ic_100 h2 (rgk rfl) h6 (sw_no ic_101 h2 (rgk rfl) h7 (sw_no ic_102 h2 (rgk rfl) h8 (sw_no ic_103 h2 (rgk rfl) h9 (sw_no ic_104 h2 (rgk rfl) h10 (sw_no ic_105 h2 (rgk rfl) h11 (sw_no ic_106 h2 (rgk rfl) h12 (sw_no ic_107 h2 (rgk rfl) h13 (sw_no ic_108 h2 (rgk rfl) h14 (sw_no ic_109 h2 (rgk rfl) h15 (sw_no ic_110 h2 (rgk rfl) h16 (sw_no ic_111 h2 (rgk rfl) h17 (sw_no ic_112 h2 (rgk rfl) h18 (sw_no ic_113 h2 (rgk rfl) h19 (sw_no ic_114 h2 (rgk rfl) h20 (sw_no ic_115 h2 (rgk rfl) h21 (sw_yes ic_116 h22)))))))))))))))))) (
      r_aload (pc2 := 109) rfl rfl rfl (
      r_getI (pc2 := 112) rfl rfl (sh_b0 hs (bn_lt hs h1)) (
      r_iret rfl rfl)))) (fun h22 =>
      jr_ite (fun h23 => r_sw (pc2 := 190) rfl (sw_no ic_99 h2 (rgk rfl) h5 (sw_no ic_100 h2 (rgk rfl) h6 (sw_no ic_101 h2 (rgk rfl) h7 (sw_no ic_102 h2 (rgk rfl) h8 (sw_no ic_103 h2 (rgk rfl) h9 (sw_no ic_104 h2 (rgk rfl) h10 (sw_no ic_105 h2 (rgk rfl) h11 (sw_no ic_106 h2 (rgk rfl) h12 (sw_no ic_107 h2 (rgk rfl) h13 (sw_no ic_108 h2 (rgk rfl) h14 (sw_no ic_109 h2 (rgk rfl) h15 (sw_no ic_110 h2 (rgk rfl) h16 (sw_no ic_111 h2 (rgk rfl) h17 (sw_no ic_112 h2 (rgk rfl) h18 (sw_no ic_113 h2 (rgk rfl) h19 (sw_no ic_114 h2 (rgk rfl) h20 (sw_no ic_115 h2 (rgk rfl) h21 (sw_no ic_116 h2 (rgk rfl) h22 (sw_yes ic_117 h23))))))))))))))))))) (
      r_aload (pc2 := 191) rfl rfl rfl (
      r_getA (pc2 := 194) rfl rfl (sh_T hs rfl rfl) (sh_A hs rfl rfl) (
      r_iload (pc2 := 195) rfl rfl rfl (
      r_callVP (pc2 := 198) (args := [.ref 32, gv a2]) (st2 := []) rfl rfl rfl rfl rfl rfl (rc_of (sh_T hs rfl rfl)) (rf_cx_boxNow hs d g a2 ) fun v26 => (
      r_istore (L2 := [some (.ref 40), some (gv a1), some (gv a2), some (.ref (bA a2.toNat)), some (gv v26)]) (pc2 := 200) rfl rfl rfl (
      r_iload (pc2 := 202) rfl rfl rfl (
      jr_g fun h27 => r_ifge (pc2 := 205) (t := 210) rfl h27 rfl (fun _ =>
      r_ic (x := 99) (pc2 := 207) rfl ic_99 rfl (
      r_goto (t := 212) rfl (
      r_iret rfl rfl))) (fun _ =>
      r_iload (pc2 := 212) rfl rfl rfl (
      r_iret rfl rfl)))))))))) (fun h23 =>
      jr_ite (fun h24 => r_sw (pc2 := 181) rfl (sw_no ic_99 h2 (rgk rfl) h5 (sw_no ic_100 h2 (rgk rfl) h6 (sw_no ic_101 h2 (rgk rfl) h7 (sw_no ic_102 h2 (rgk rfl) h8 (sw_no ic_103 h2 (rgk rfl) h9 (sw_no ic_104 h2 (rgk rfl) h10 (sw_no ic_105 h2 (rgk rfl) h11 (sw_no ic_106 h2 (rgk rfl) h12 (sw_no ic_107 h2 (rgk rfl) h13 (sw_no ic_108 h2 (rgk rfl) h14 (sw_no ic_109 h2 (rgk rfl) h15 (sw_no ic_110 h2 (rgk rfl) h16 (sw_no ic_111 h2 (rgk rfl) h17 (sw_no ic_112 h2 (rgk rfl) h18 (sw_no ic_113 h2 (rgk rfl) h19 (sw_no ic_114 h2 (rgk rfl) h20 (sw_no ic_115 h2 (rgk rfl) h21 (sw_no ic_116 h2 (rgk rfl) h22 (sw_no ic_117 h2 (rgk rfl) h23 (sw_yes ic_118 h24)))))))))))))))))))) (
      r_aload (pc2 := 182) rfl rfl rfl (
      r_getI (pc2 := 185) rfl rfl (sh_T hs rfl rfl) (
      r_iload (pc2 := 186) rfl rfl rfl (
      r_ishr (pc2 := 187) rfl rfl (
      r_ic (x := 1) (pc2 := 188) rfl ic_1 rfl (
      r_iand (pc2 := 189) rfl rfl (
      r_iret rfl rfl)))))))) (fun h24 =>
      jr_ite (fun h25 => r_sw (pc2 := 172) rfl (sw_no ic_99 h2 (rgk rfl) h5 (sw_no ic_100 h2 (rgk rfl) h6 (sw_no ic_101 h2 (rgk rfl) h7 (sw_no ic_102 h2 (rgk rfl) h8 (sw_no ic_103 h2 (rgk rfl) h9 (sw_no ic_104 h2 (rgk rfl) h10 (sw_no ic_105 h2 (rgk rfl) h11 (sw_no ic_106 h2 (rgk rfl) h12 (sw_no ic_107 h2 (rgk rfl) h13 (sw_no ic_108 h2 (rgk rfl) h14 (sw_no ic_109 h2 (rgk rfl) h15 (sw_no ic_110 h2 (rgk rfl) h16 (sw_no ic_111 h2 (rgk rfl) h17 (sw_no ic_112 h2 (rgk rfl) h18 (sw_no ic_113 h2 (rgk rfl) h19 (sw_no ic_114 h2 (rgk rfl) h20 (sw_no ic_115 h2 (rgk rfl) h21 (sw_no ic_116 h2 (rgk rfl) h22 (sw_no ic_117 h2 (rgk rfl) h23 (sw_no ic_118 h2 (rgk rfl) h24 (sw_yes ic_119 h25))))))))))))))))))))) (
      r_aload (pc2 := 173) rfl rfl rfl (
      r_getI (pc2 := 176) rfl rfl (sh_T hs rfl rfl) (
      r_iload (pc2 := 177) rfl rfl rfl (
      r_ishr (pc2 := 178) rfl rfl (
      r_ic (x := 1) (pc2 := 179) rfl ic_1 rfl (
      r_iand (pc2 := 180) rfl rfl (
      r_iret rfl rfl)))))))) (fun h25 =>
      r_sw (pc2 := 190) rfl (sw_no ic_99 h2 (rgk rfl) h5 (sw_no ic_100 h2 (rgk rfl) h6 (sw_no ic_101 h2 (rgk rfl) h7 (sw_no ic_102 h2 (rgk rfl) h8 (sw_no ic_103 h2 (rgk rfl) h9 (sw_no ic_104 h2 (rgk rfl) h10 (sw_no ic_105 h2 (rgk rfl) h11 (sw_no ic_106 h2 (rgk rfl) h12 (sw_no ic_107 h2 (rgk rfl) h13 (sw_no ic_108 h2 (rgk rfl) h14 (sw_no ic_109 h2 (rgk rfl) h15 (sw_no ic_110 h2 (rgk rfl) h16 (sw_no ic_111 h2 (rgk rfl) h17 (sw_no ic_112 h2 (rgk rfl) h18 (sw_no ic_113 h2 (rgk rfl) h19 (sw_no ic_114 h2 (rgk rfl) h20 (sw_no ic_115 h2 (rgk rfl) h21 (sw_no ic_116 h2 (rgk rfl) h22 (sw_no ic_117 h2 (rgk rfl) h23 (sw_no ic_118 h2 (rgk rfl) h24 (sw_no ic_119 h2 (rgk rfl) h25 rfl))))))))))))))))))))) (
      r_aload (pc2 := 191) rfl rfl rfl (
      r_getA (pc2 := 194) rfl rfl (sh_T hs rfl rfl) (sh_A hs rfl rfl) (
      r_iload (pc2 := 195) rfl rfl rfl (
      r_callVP (pc2 := 198) (args := [.ref 32, gv a2]) (st2 := []) rfl rfl rfl rfl rfl rfl (rc_of (sh_T hs rfl rfl)) (rf_cx_boxNow hs d g a2 ) fun v3 => (
      r_istore (L2 := [some (.ref 40), some (gv a1), some (gv a2), some (.ref (bA a2.toNat)), some (gv v3)]) (pc2 := 200) rfl rfl rfl (
      r_iload (pc2 := 202) rfl rfl rfl (
      jr_g fun h4 => r_ifge (pc2 := 205) (t := 210) rfl h4 rfl (fun _ =>
      r_ic (x := 99) (pc2 := 207) rfl ic_99 rfl (
      r_goto (t := 212) rfl (
      r_iret rfl rfl))) (fun _ =>
      r_iload (pc2 := 212) rfl rfl rfl (
      r_iret rfl rfl))))))))))))))))))))))))))))))))))))))))
theorem rf_jd_compare {s : gm_S} {n m : Nat} (hs : gm_sh s n m) (d : Nat)  (g : gm_T) (a0 : Int) (a1 : Int)  : jr (pI s g) (jd_compare g a0 a1) (jm_cl jm_CD km_n (d + 1) 318 [gv a0, gv a1] (gm_h s g)) := by
  unfold jd_compare
  exact (r_ent (cd := cd_318) (n := 2) (L0 := [some (gv a0), some (gv a1)]) rfl rfl rfl rfl (
      r_iload (pc2 := 1) rfl rfl rfl (
      r_iload (pc2 := 2) rfl rfl rfl (
      jr_g fun h1 => r_cge (pc2 := 5) (t := 9) rfl h1.1 h1.2 rfl (fun _ =>
      r_ic (x := -1) (pc2 := 6) rfl ic_m1 rfl (
      r_goto (t := 19) rfl (
      r_iret rfl rfl))) (fun _ =>
      r_iload (pc2 := 10) rfl rfl rfl (
      r_iload (pc2 := 11) rfl rfl rfl (
      r_cne (pc2 := 14) (t := 18) rfl h1.1 h1.2 rfl (fun _ =>
      r_ic (x := 0) (pc2 := 15) rfl ic_0 rfl (
      r_goto (t := 19) rfl (
      r_iret rfl rfl))) (fun _ =>
      r_ic (x := 1) (pc2 := 19) rfl ic_1 rfl (
      r_iret rfl rfl)))))))))
theorem rl_cq_compareAll_l12 {s : gm_S} {n m : Nat} (hs : gm_sh s n m) (d : Nat)  (g : gm_T) (c2 : Int) (c4 : Int) (c5 : Int)  : ∀ (fuel : Nat) (v6 : Int) (v7 : Int) (j3 : Option Value) (j8 : Option Value) (hj3 : jm_lg j3 = false) (hj8 : jm_lg j8 = false), jr (fun (q : Int) (c : Option jm_R) => ∃ (j10 : Option Value) (j11 : Option Value), jm_lg j10 = false ∧ jm_lg j11 = false ∧ c = jm_sup cd_75 (jm_cl jm_CD km_n (d + 3)) (59, [some (.ref 40), some (gv c2), j3, some (gv c4), some (gv c5), some (gv q), j10, j11], [], gm_h s g)) (cq_compareAll_l12 n g c2 c4 c5 fuel v6 v7) (jm_sup cd_75 (jm_cl jm_CD km_n (d + 3)) (12, [some (.ref 40), some (gv c2), j3, some (gv c4), some (gv c5), some (gv v6), some (gv v7), j8], [], gm_h s g)) := by
  intro fuel
  induction fuel with
  | zero => intros; exact jr_none
  | succ fuel ih =>
    intro v6 v7 j3 j8 hj3 hj8
    unfold cq_compareAll_l12
    exact (
      r_iload (pc2 := 14) rfl rfl rfl (
      r_aload (pc2 := 15) rfl rfl rfl (
      r_getA (pc2 := 18) rfl rfl (sh_T hs rfl rfl) (sh_A hs rfl rfl) (
      r_getI (pc2 := 21) rfl rfl (sh_T hs rfl rfl) (
      jr_g fun h12 => r_cge (pc2 := 24) (t := 59) rfl h12.1 h12.2 rfl (fun _ =>
      r_aload (pc2 := 25) rfl rfl rfl (
      r_iload (pc2 := 26) rfl rfl rfl (
      r_iload (pc2 := 28) rfl rfl rfl (
      r_callVP (pc2 := 31) (args := [.ref 40, gv c2, gv v7]) (st2 := []) rfl rfl rfl rfl rfl rfl (rc_of (sh_T hs rfl rfl)) (rf_cq_valueOf hs d g c2 v7 ) fun v13 => (
      r_iload (pc2 := 32) rfl rfl rfl (
      r_callSP (pc2 := 35) (args := [gv v13, gv c4]) (st2 := []) rfl rfl rfl rfl rfl rfl (rf_jd_compare hs (d + 2) g v13 c4 ) fun v14 => (
      r_istore (L2 := [some (.ref 40), some (gv c2), j3, some (gv c4), some (gv c5), some (gv v6), some (gv v7), some (gv v14)]) (pc2 := 37) rfl rfl rfl (
      r_iload (pc2 := 39) rfl rfl rfl (
      r_iload (pc2 := 41) rfl rfl rfl (
      jr_g fun h15 => r_cne (pc2 := 44) (t := 53) rfl h15.1 h15.2 rfl (fun _ =>
      r_iload (pc2 := 46) rfl rfl rfl (
      r_ic (x := 1) (pc2 := 47) rfl ic_1 rfl (
      r_iload (pc2 := 49) rfl rfl rfl (
      r_ishl (pc2 := 50) rfl rfl (
      r_ior (pc2 := 51) rfl rfl (
      r_istoreL (L3 := fun v16 => [some (.ref 40), some (gv c2), j3, some (gv c4), some (gv c5), some (gv v16), some (gv v7), some (gv v14)]) (pc2 := 53) rfl rfl (fun _ => rfl) fun v16 => (
      r_iinc (kk := 1) (L2 := [some (.ref 40), some (gv c2), j3, some (gv c4), some (gv c5), some (gv v16), some (gv (v7 + 1)), some (gv v14)]) (pc2 := 56) rfl ic_1 rfl rfl rfl (
      r_goto (t := 12) rfl (
      ih v16 (v7 + 1) _ _ hj3 rfl))))))))) (fun _ =>
      r_iinc (kk := 1) (L2 := [some (.ref 40), some (gv c2), j3, some (gv c4), some (gv c5), some (gv v6), some (gv (v7 + 1)), some (gv v14)]) (pc2 := 56) rfl ic_1 rfl rfl rfl (
      r_goto (t := 12) rfl (
      ih v6 (v7 + 1) _ _ hj3 rfl))))))))))))) (fun _ =>
      jr_leaf ⟨_, _, rfl, hj8, rfl⟩))))))
theorem rf_cq_compareAll {s : gm_S} {n m : Nat} (hs : gm_sh s n m) (d : Nat)  (g : gm_T) (a1 : Int) (a2 : Int) (a3 : Int)  : jr (pI s g) (cq_compareAll n g a1 a2 a3) (jm_cl jm_CD km_n (d + 4) 75 [.ref 40, gv a1, gv a2, gv a3] (gm_h s g)) := by
  unfold cq_compareAll
  exact (r_ent (cd := cd_75) (n := 8) (L0 := [some (.ref 40), some (gv a1), some (gv a2), some (gv a3), none, none, none, none]) rfl rfl rfl rfl (
      r_iload (pc2 := 1) rfl rfl rfl (
      r_ic (x := 61) (pc2 := 3) rfl ic_61 rfl (
      r_isub (pc2 := 4) rfl rfl (
      r_istoreL (L3 := fun v1 => [some (.ref 40), some (gv a1), some (gv a2), some (gv a3), some (gv v1), none, none, none]) (pc2 := 6) rfl rfl (fun _ => rfl) fun v1 => (
      r_ic (x := 0) (pc2 := 7) rfl ic_0 rfl (
      r_istore (L2 := [some (.ref 40), some (gv a1), some (gv a2), some (gv a3), some (gv v1), some (gv 0), none, none]) (pc2 := 9) rfl rfl rfl (
      r_ic (x := 0) (pc2 := 10) rfl ic_0 rfl (
      r_istore (L2 := [some (.ref 40), some (gv a1), some (gv a2), some (gv a3), some (gv v1), some (gv 0), some (gv 0), none]) (pc2 := 12) rfl rfl rfl (
      r_b1 (rl_cq_compareAll_l12 hs d  g a1 a3 v1  fz 0 0 _ _ rfl rfl) (fun v20 c h => match c, h with | _, ⟨j21, j22, hj21, hj22, rfl⟩ => (
      r_iload (pc2 := 61) rfl rfl rfl (
      r_iret rfl rfl)))))))))))))
theorem rf_cq_close {s : gm_S} {n m : Nat} (hs : gm_sh s n m) (d : Nat)  (g : gm_T) (a1 : Int)  : jr (eV s) (cq_close g a1) (jm_cl jm_CD km_n (d + 1) 70 [.ref 40, gv a1] (gm_h s g)) := by
  unfold cq_close
  exact (r_ent (cd := cd_70) (n := 3) (L0 := [some (.ref 40), some (gv a1), none]) rfl rfl rfl rfl (
      r_aload (pc2 := 1) rfl rfl rfl (
      r_getA (pc2 := 4) rfl rfl (sh_T hs rfl rfl) (sh_A hs rfl rfl) (
      r_aload (pc2 := 5) rfl rfl rfl (
      r_getI (pc2 := 8) rfl rfl (sh_T hs rfl rfl) (
      jr_g fun h1 => r_iald (len := 241) (pc2 := 9) rfl rfl (sh_T hs rfl rfl) (sh_L hs rfl rfl) rfl h1 (
      r_b1 (R1 := (fun (q : Int) (c : Option jm_R) => c = jm_sup cd_70 (jm_cl jm_CD km_n d) (24, [some (.ref 40), some (gv a1), none], [gv q], gm_h s g))) (
      jr_g fun h3 => r_ifeq (pc2 := 12) (t := 23) rfl h3 rfl (fun _ =>
      r_iload (pc2 := 24) rfl rfl rfl (
      jr_leaf rfl)) (fun _ =>
      r_aload (pc2 := 13) rfl rfl rfl (
      r_getI (pc2 := 16) rfl rfl (sh_T hs rfl rfl) (
      r_iload (pc2 := 17) rfl rfl rfl (
      r_ic (x := -1) (pc2 := 18) rfl ic_m1 rfl (
      r_ixor (pc2 := 19) rfl rfl (
      r_iand (pc2 := 20) rfl rfl (
      r_goto (t := 24) rfl (
      jr_leaf rfl))))))))) (fun v2 c h => match c, h with | _, rfl => (
      r_istore (L2 := [some (.ref 40), some (gv a1), some (gv v2)]) (pc2 := 25) rfl rfl rfl (
      r_aload (pc2 := 26) rfl rfl rfl (
      r_getA (pc2 := 29) rfl rfl (sh_T hs rfl rfl) (sh_A hs rfl rfl) (
      r_aload (pc2 := 30) rfl rfl rfl (
      r_getI (pc2 := 33) rfl rfl (sh_T hs rfl rfl) (
      r_dup2 (pc2 := 34) rfl rfl ⟨rfl, rfl⟩ (
      r_iald (len := 241) (pc2 := 35) rfl rfl (sh_T hs rfl rfl) (sh_L hs rfl rfl) rfl h1 (
      r_iload (pc2 := 36) rfl rfl rfl (
      r_iand (pc2 := 37) rfl rfl (
      r_iast (len := 241) (pc2 := 38) rfl rfl (sh_T hs rfl rfl) (sh_L hs rfl rfl) rfl h1 fun g4 => (
      r_aload (pc2 := 39) rfl rfl rfl (
      r_getA (pc2 := 42) rfl rfl (sh_T hs rfl rfl) (sh_A hs rfl rfl) (
      r_aload (pc2 := 43) rfl rfl rfl (
      r_getI (pc2 := 46) rfl rfl (sh_T hs rfl rfl) (
      r_ic (x := 0) (pc2 := 47) rfl ic_0 rfl (
      jr_g fun h6 => r_zast (len := 241) (pc2 := 48) rfl rfl (sh_T hs rfl rfl) (sh_L hs rfl rfl) rfl h6 (by decide) fun g5 => (
      r_vret rfl rfl)))))))))))))))))))))))))
theorem rl_cq_readComparison_l69 {s : gm_S} {n m : Nat} (hs : gm_sh s n m) (d : Nat)  (g : gm_T) (c8 : Int) (c9 : Int) (c10 : Int)  : ∀ (fuel : Nat) (v11 : Int) (v12 : Int), jr (fun (q : Int × Int) (c : Option jm_R) => c = jm_sup cd_73 (jm_cl jm_CD km_n (d + 4)) (111, [some (.ref 40), some (.ref 1), some (gv c8), some (gv c9), some (gv c10), some (gv q.1), some (gv q.2)], [], gm_h s g)) (cq_readComparison_l69 n g c8 c9 c10 fuel v11 v12) (jm_sup cd_73 (jm_cl jm_CD km_n (d + 4)) (69, [some (.ref 40), some (.ref 1), some (gv c8), some (gv c9), some (gv c10), some (gv v11), some (gv v12)], [], gm_h s g)) := by
  intro fuel
  induction fuel with
  | zero => intros; exact jr_none
  | succ fuel ih =>
    intro v11 v12  
    unfold cq_readComparison_l69
    exact (
      r_iload (pc2 := 71) rfl rfl rfl (
      r_iload (pc2 := 72) rfl rfl rfl (
      r_ic (x := 5) (pc2 := 73) rfl ic_5 rfl (
      r_iadd (pc2 := 74) rfl rfl (
      jr_g fun h15 => r_cge (pc2 := 77) (t := 111) rfl h15.1 h15.2 rfl (fun _ =>
      r_iload (pc2 := 79) rfl rfl rfl (
      jr_g fun h16 => r_ifle (pc2 := 82) (t := 111) rfl h16 rfl (fun _ =>
      jr_leaf rfl) (fun _ =>
      r_aload (pc2 := 83) rfl rfl rfl (
      r_iload (pc2 := 85) rfl rfl rfl (
      r_callVP (pc2 := 88) (args := [.ref 1, gv v12]) (st2 := []) rfl rfl rfl rfl rfl rfl (rc_of (sh_T hs rfl rfl)) (rf_ct_digit hs (d + 2) g v12 ) fun v17 => (
      jr_g fun h18 => r_iflt (pc2 := 91) (t := 111) rfl h18 rfl (fun _ =>
      jr_leaf rfl) (fun _ =>
      r_ic (x := 10) (pc2 := 93) rfl ic_10 rfl (
      r_iload (pc2 := 95) rfl rfl rfl (
      r_imul (pc2 := 96) rfl rfl (
      r_aload (pc2 := 97) rfl rfl rfl (
      r_iload (pc2 := 99) rfl rfl rfl (
      r_callVP (pc2 := 102) (args := [.ref 1, gv v12]) (st2 := [gv (10 * v11)]) rfl rfl rfl rfl rfl rfl (rc_of (sh_T hs rfl rfl)) (rf_ct_digit hs (d + 2) g v12 ) fun v19 => (
      r_iadd (pc2 := 103) rfl rfl (
      r_istoreL (L3 := fun v20 => [some (.ref 40), some (.ref 1), some (gv c8), some (gv c9), some (gv c10), some (gv v20), some (gv v12)]) (pc2 := 105) rfl rfl (fun _ => rfl) fun v20 => (
      r_iinc (kk := 1) (L2 := [some (.ref 40), some (.ref 1), some (gv c8), some (gv c9), some (gv c10), some (gv v20), some (gv (v12 + 1))]) (pc2 := 108) rfl ic_1 rfl rfl rfl (
      r_goto (t := 69) rfl (
      ih v20 (v12 + 1)))))))))))))))))) (fun _ =>
      jr_leaf rfl))))))
theorem rf_cq_readComparison {s : gm_S} {n m : Nat} (hs : gm_sh s n m) (d : Nat)  (g : gm_T) (a2 : Int) (a3 : Int)  : jr (eI s) (cq_readComparison n g a2 a3) (jm_cl jm_CD km_n (d + 5) 73 [.ref 40, .ref 1, gv a2, gv a3] (gm_h s g)) := by
  unfold cq_readComparison
  exact (r_ent (cd := cd_73) (n := 7) (L0 := [some (.ref 40), some (.ref 1), some (gv a2), some (gv a3), none, none, none]) rfl rfl rfl rfl (
      r_iload (pc2 := 1) rfl rfl rfl (
      r_callSP (pc2 := 4) (args := [gv a3]) (st2 := []) rfl rfl rfl rfl rfl rfl (rf_cq_isLetter hs (d + 3) g a3 ) fun v1 => (
      jr_g fun h2 => r_ifne (pc2 := 7) (t := 10) rfl h2 rfl (fun _ =>
      r_iload (pc2 := 8) rfl rfl rfl (
      r_ineg (pc2 := 9) rfl rfl (
      r_iret rfl rfl))) (fun _ =>
      r_aload (pc2 := 11) rfl rfl rfl (
      r_iload (pc2 := 12) rfl rfl rfl (
      r_ic (x := 1) (pc2 := 13) rfl ic_1 rfl (
      r_iadd (pc2 := 14) rfl rfl (
      r_callVP (pc2 := 17) (args := [.ref 1, gv (a2 + 1)]) (st2 := []) rfl rfl rfl rfl rfl rfl (rc_of (sh_T hs rfl rfl)) (rf_ct_peek hs (d + 3) g (a2 + 1) ) fun v3 => (
      r_istore (L2 := [some (.ref 40), some (.ref 1), some (gv a2), some (gv a3), some (gv v3), none, none]) (pc2 := 19) rfl rfl rfl (
      r_iload (pc2 := 21) rfl rfl rfl (
      r_ic (x := 60) (pc2 := 23) rfl ic_60 rfl (
      jr_g fun h4 => r_ceq (pc2 := 26) (t := 45) rfl h4 (rgk rfl) rfl (fun _ =>
      r_aload (pc2 := 46) rfl rfl rfl (
      r_iload (pc2 := 47) rfl rfl rfl (
      r_ic (x := 2) (pc2 := 48) rfl ic_2 rfl (
      r_iadd (pc2 := 49) rfl rfl (
      r_callVP (pc2 := 52) (args := [.ref 1, gv (a2 + 2)]) (st2 := []) rfl rfl rfl rfl rfl rfl (rc_of (sh_T hs rfl rfl)) (rf_ct_digit hs (d + 2) g (a2 + 2) ) fun v5 => (
      r_istore (L2 := [some (.ref 40), some (.ref 1), some (gv a2), some (gv a3), some (gv v3), some (gv v5), none]) (pc2 := 54) rfl rfl rfl (
      r_iload (pc2 := 56) rfl rfl rfl (
      jr_g fun h6 => r_ifge (pc2 := 59) (t := 64) rfl h6 rfl (fun _ =>
      r_iload (pc2 := 60) rfl rfl rfl (
      r_ineg (pc2 := 61) rfl rfl (
      r_ic (x := 2) (pc2 := 62) rfl ic_2 rfl (
      r_isub (pc2 := 63) rfl rfl (
      r_iret rfl rfl))))) (fun _ =>
      r_iload (pc2 := 65) rfl rfl rfl (
      r_ic (x := 3) (pc2 := 66) rfl ic_3 rfl (
      r_iadd (pc2 := 67) rfl rfl (
      r_istoreL (L3 := fun v7 => [some (.ref 40), some (.ref 1), some (gv a2), some (gv a3), some (gv v3), some (gv v5), some (gv v7)]) (pc2 := 69) rfl rfl (fun _ => rfl) fun v7 => (
      r_b2 (rl_cq_readComparison_l69 hs d  g a2 a3 v3  fz v5 v7  ) (fun v22 v23 c h => match c, h with | _, rfl => (
      r_aload (pc2 := 112) rfl rfl rfl (
      r_aload (pc2 := 113) rfl rfl rfl (
      r_iload (pc2 := 114) rfl rfl rfl (
      r_iload (pc2 := 116) rfl rfl rfl (
      r_iload (pc2 := 118) rfl rfl rfl (
      r_callVP (pc2 := 121) (args := [.ref 40, gv a3, gv v3, gv v22]) (st2 := [.ref 40]) rfl rfl rfl rfl rfl rfl (rc_of (sh_T hs rfl rfl)) (rf_cq_compareAll hs d g a3 v3 v22 ) fun v24 => (
      r_callVV (pc2 := 124) (args := [.ref 40, gv v24]) (st2 := []) rfl rfl rfl rfl rfl rfl (rc_of (sh_T hs rfl rfl)) (rf_cq_close hs (d + 3) g v24 ) fun g25 => (
      r_iload (pc2 := 126) rfl rfl rfl (
      r_iret rfl rfl))))))))))))))))))))))) (fun _ =>
      r_iload (pc2 := 28) rfl rfl rfl (
      r_ic (x := 61) (pc2 := 30) rfl ic_61 rfl (
      r_ceq (pc2 := 33) (t := 45) rfl h4 (rgk rfl) rfl (fun _ =>
      r_aload (pc2 := 46) rfl rfl rfl (
      r_iload (pc2 := 47) rfl rfl rfl (
      r_ic (x := 2) (pc2 := 48) rfl ic_2 rfl (
      r_iadd (pc2 := 49) rfl rfl (
      r_callVP (pc2 := 52) (args := [.ref 1, gv (a2 + 2)]) (st2 := []) rfl rfl rfl rfl rfl rfl (rc_of (sh_T hs rfl rfl)) (rf_ct_digit hs (d + 2) g (a2 + 2) ) fun v26 => (
      r_istore (L2 := [some (.ref 40), some (.ref 1), some (gv a2), some (gv a3), some (gv v3), some (gv v26), none]) (pc2 := 54) rfl rfl rfl (
      r_iload (pc2 := 56) rfl rfl rfl (
      jr_g fun h27 => r_ifge (pc2 := 59) (t := 64) rfl h27 rfl (fun _ =>
      r_iload (pc2 := 60) rfl rfl rfl (
      r_ineg (pc2 := 61) rfl rfl (
      r_ic (x := 2) (pc2 := 62) rfl ic_2 rfl (
      r_isub (pc2 := 63) rfl rfl (
      r_iret rfl rfl))))) (fun _ =>
      r_iload (pc2 := 65) rfl rfl rfl (
      r_ic (x := 3) (pc2 := 66) rfl ic_3 rfl (
      r_iadd (pc2 := 67) rfl rfl (
      r_istoreL (L3 := fun v28 => [some (.ref 40), some (.ref 1), some (gv a2), some (gv a3), some (gv v3), some (gv v26), some (gv v28)]) (pc2 := 69) rfl rfl (fun _ => rfl) fun v28 => (
      r_b2 (rl_cq_readComparison_l69 hs d  g a2 a3 v3  fz v26 v28  ) (fun v36 v37 c h => match c, h with | _, rfl => (
      r_aload (pc2 := 112) rfl rfl rfl (
      r_aload (pc2 := 113) rfl rfl rfl (
      r_iload (pc2 := 114) rfl rfl rfl (
      r_iload (pc2 := 116) rfl rfl rfl (
      r_iload (pc2 := 118) rfl rfl rfl (
      r_callVP (pc2 := 121) (args := [.ref 40, gv a3, gv v3, gv v36]) (st2 := [.ref 40]) rfl rfl rfl rfl rfl rfl (rc_of (sh_T hs rfl rfl)) (rf_cq_compareAll hs d g a3 v3 v36 ) fun v38 => (
      r_callVV (pc2 := 124) (args := [.ref 40, gv v38]) (st2 := []) rfl rfl rfl rfl rfl rfl (rc_of (sh_T hs rfl rfl)) (rf_cq_close hs (d + 3) g v38 ) fun g39 => (
      r_iload (pc2 := 126) rfl rfl rfl (
      r_iret rfl rfl))))))))))))))))))))))) (fun _ =>
      r_iload (pc2 := 35) rfl rfl rfl (
      r_ic (x := 62) (pc2 := 37) rfl ic_62 rfl (
      r_ceq (pc2 := 40) (t := 45) rfl h4 (rgk rfl) rfl (fun _ =>
      r_aload (pc2 := 46) rfl rfl rfl (
      r_iload (pc2 := 47) rfl rfl rfl (
      r_ic (x := 2) (pc2 := 48) rfl ic_2 rfl (
      r_iadd (pc2 := 49) rfl rfl (
      r_callVP (pc2 := 52) (args := [.ref 1, gv (a2 + 2)]) (st2 := []) rfl rfl rfl rfl rfl rfl (rc_of (sh_T hs rfl rfl)) (rf_ct_digit hs (d + 2) g (a2 + 2) ) fun v40 => (
      r_istore (L2 := [some (.ref 40), some (.ref 1), some (gv a2), some (gv a3), some (gv v3), some (gv v40), none]) (pc2 := 54) rfl rfl rfl (
      r_iload (pc2 := 56) rfl rfl rfl (
      jr_g fun h41 => r_ifge (pc2 := 59) (t := 64) rfl h41 rfl (fun _ =>
      r_iload (pc2 := 60) rfl rfl rfl (
      r_ineg (pc2 := 61) rfl rfl (
      r_ic (x := 2) (pc2 := 62) rfl ic_2 rfl (
      r_isub (pc2 := 63) rfl rfl (
      r_iret rfl rfl))))) (fun _ =>
      r_iload (pc2 := 65) rfl rfl rfl (
      r_ic (x := 3) (pc2 := 66) rfl ic_3 rfl (
      r_iadd (pc2 := 67) rfl rfl (
      r_istoreL (L3 := fun v42 => [some (.ref 40), some (.ref 1), some (gv a2), some (gv a3), some (gv v3), some (gv v40), some (gv v42)]) (pc2 := 69) rfl rfl (fun _ => rfl) fun v42 => (
      r_b2 (rl_cq_readComparison_l69 hs d  g a2 a3 v3  fz v40 v42  ) (fun v50 v51 c h => match c, h with | _, rfl => (
      r_aload (pc2 := 112) rfl rfl rfl (
      r_aload (pc2 := 113) rfl rfl rfl (
      r_iload (pc2 := 114) rfl rfl rfl (
      r_iload (pc2 := 116) rfl rfl rfl (
      r_iload (pc2 := 118) rfl rfl rfl (
      r_callVP (pc2 := 121) (args := [.ref 40, gv a3, gv v3, gv v50]) (st2 := [.ref 40]) rfl rfl rfl rfl rfl rfl (rc_of (sh_T hs rfl rfl)) (rf_cq_compareAll hs d g a3 v3 v50 ) fun v52 => (
      r_callVV (pc2 := 124) (args := [.ref 40, gv v52]) (st2 := []) rfl rfl rfl rfl rfl rfl (rc_of (sh_T hs rfl rfl)) (rf_cq_close hs (d + 3) g v52 ) fun g53 => (
      r_iload (pc2 := 126) rfl rfl rfl (
      r_iret rfl rfl))))))))))))))))))))))) (fun _ =>
      r_iload (pc2 := 41) rfl rfl rfl (
      r_ineg (pc2 := 42) rfl rfl (
      r_ic (x := 1) (pc2 := 43) rfl ic_1 rfl (
      r_isub (pc2 := 44) rfl rfl (
      r_iret rfl rfl))))))))))))))))))))))))
theorem rf_cq_readFactor {s : gm_S} {n m : Nat} (hs : gm_sh s n m) (d : Nat)  (g : gm_T) (a2 : Int) (a3 : Int)  : jr (eI s) (cq_readFactor n g a2 a3) (jm_cl jm_CD km_n (d + 6) 71 [.ref 40, .ref 1, gv a2, gv a3] (gm_h s g)) := by
  unfold cq_readFactor
  exact (r_ent (cd := cd_71) (n := 4) (L0 := [some (.ref 40), some (.ref 1), some (gv a2), some (gv a3)]) rfl rfl rfl rfl (
      r_iload (pc2 := 1) rfl rfl rfl (
      r_ic (x := 33) (pc2 := 3) rfl ic_33 rfl (
      jr_g fun h1 => r_cne (pc2 := 6) (t := 36) rfl h1 (rgk rfl) rfl (fun _ =>
      r_aload (pc2 := 7) rfl rfl rfl (
      r_getA (pc2 := 10) rfl rfl (sh_T hs rfl rfl) (sh_A hs rfl rfl) (
      r_aload (pc2 := 11) rfl rfl rfl (
      r_getI (pc2 := 14) rfl rfl (sh_T hs rfl rfl) (
      r_aload (pc2 := 15) rfl rfl rfl (
      r_getA (pc2 := 18) rfl rfl (sh_T hs rfl rfl) (sh_A hs rfl rfl) (
      r_aload (pc2 := 19) rfl rfl rfl (
      r_getI (pc2 := 22) rfl rfl (sh_T hs rfl rfl) (
      jr_g fun h2 => r_iald (len := 241) (pc2 := 23) rfl rfl (sh_T hs rfl rfl) (sh_L hs rfl rfl) rfl h2 (
      jr_g fun h3 => r_ifne (pc2 := 26) (t := 30) rfl h3 rfl (fun _ =>
      r_ic (x := 1) (pc2 := 27) rfl ic_1 rfl (
      r_goto (t := 31) rfl (
      r_zast (len := 241) (pc2 := 32) rfl rfl (sh_T hs rfl rfl) (sh_L hs rfl rfl) rfl h2 (by decide) fun g4 => (
      r_iload (pc2 := 33) rfl rfl rfl (
      r_ic (x := 1) (pc2 := 34) rfl ic_1 rfl (
      r_iadd (pc2 := 35) rfl rfl (
      r_iret rfl rfl))))))) (fun _ =>
      r_ic (x := 0) (pc2 := 31) rfl ic_0 rfl (
      r_zast (len := 241) (pc2 := 32) rfl rfl (sh_T hs rfl rfl) (sh_L hs rfl rfl) rfl h2 (by decide) fun g5 => (
      r_iload (pc2 := 33) rfl rfl rfl (
      r_ic (x := 1) (pc2 := 34) rfl ic_1 rfl (
      r_iadd (pc2 := 35) rfl rfl (
      r_iret rfl rfl)))))))))))))))) (fun _ =>
      r_iload (pc2 := 37) rfl rfl rfl (
      r_ic (x := 40) (pc2 := 39) rfl ic_40 rfl (
      r_cne (pc2 := 42) (t := 50) rfl h1 (rgk rfl) rfl (fun _ =>
      r_aload (pc2 := 43) rfl rfl rfl (
      r_callVV (pc2 := 46) (args := [.ref 40]) (st2 := []) rfl rfl rfl rfl rfl rfl (rc_of (sh_T hs rfl rfl)) (rf_cq_open hs (d + 4) g ) fun g6 => (
      r_iload (pc2 := 47) rfl rfl rfl (
      r_ic (x := 1) (pc2 := 48) rfl ic_1 rfl (
      r_iadd (pc2 := 49) rfl rfl (
      r_iret rfl rfl)))))) (fun _ =>
      r_aload (pc2 := 51) rfl rfl rfl (
      r_aload (pc2 := 52) rfl rfl rfl (
      r_iload (pc2 := 53) rfl rfl rfl (
      r_iload (pc2 := 54) rfl rfl rfl (
      r_callVI (pc2 := 57) (args := [.ref 40, .ref 1, gv a2, gv a3]) (st2 := []) rfl rfl rfl rfl rfl rfl (rc_of (sh_T hs rfl rfl)) (rf_cq_readComparison hs d g a2 a3 ) fun v7 g8 => (
      r_iret rfl rfl)))))))))))))
theorem rf_cq_readBehind {s : gm_S} {n m : Nat} (hs : gm_sh s n m) (d : Nat)  (g : gm_T) (a1 : Int) (a2 : Int)  : jr (eI s) (cq_readBehind g a1 a2) (jm_cl jm_CD km_n (d + 2) 72 [.ref 40, gv a1, gv a2] (gm_h s g)) := by
  unfold cq_readBehind
  exact (r_ent (cd := cd_72) (n := 3) (L0 := [some (.ref 40), some (gv a1), some (gv a2)]) rfl rfl rfl rfl (
      r_iload (pc2 := 1) rfl rfl rfl (
      r_ic (x := 124) (pc2 := 3) rfl ic_124 rfl (
      jr_g fun h1 => r_cne (pc2 := 6) (t := 44) rfl h1 (rgk rfl) rfl (fun _ =>
      r_aload (pc2 := 7) rfl rfl rfl (
      r_getA (pc2 := 10) rfl rfl (sh_T hs rfl rfl) (sh_A hs rfl rfl) (
      r_aload (pc2 := 11) rfl rfl rfl (
      r_getI (pc2 := 14) rfl rfl (sh_T hs rfl rfl) (
      r_dup2 (pc2 := 15) rfl rfl ⟨rfl, rfl⟩ (
      jr_g fun h2 => r_iald (len := 241) (pc2 := 16) rfl rfl (sh_T hs rfl rfl) (sh_L hs rfl rfl) rfl h2 (
      r_aload (pc2 := 17) rfl rfl rfl (
      r_getA (pc2 := 20) rfl rfl (sh_T hs rfl rfl) (sh_A hs rfl rfl) (
      r_aload (pc2 := 21) rfl rfl rfl (
      r_getI (pc2 := 24) rfl rfl (sh_T hs rfl rfl) (
      r_iald (len := 241) (pc2 := 25) rfl rfl (sh_T hs rfl rfl) (sh_L hs rfl rfl) rfl h2 (
      r_ior (pc2 := 26) rfl rfl (
      r_iast (len := 241) (pc2 := 27) rfl rfl (sh_T hs rfl rfl) (sh_L hs rfl rfl) rfl h2 fun g3 => (
      r_aload (pc2 := 28) rfl rfl rfl (
      r_getA (pc2 := 31) rfl rfl (sh_T hs rfl rfl) (sh_A hs rfl rfl) (
      r_aload (pc2 := 32) rfl rfl rfl (
      r_getI (pc2 := 35) rfl rfl (sh_T hs rfl rfl) (
      r_aload (pc2 := 36) rfl rfl rfl (
      r_getI (pc2 := 39) rfl rfl (sh_T hs rfl rfl) (
      jr_g fun h5 => r_iast (len := 241) (pc2 := 40) rfl rfl (sh_T hs rfl rfl) (sh_L hs rfl rfl) rfl h5 fun g4 => (
      r_iload (pc2 := 41) rfl rfl rfl (
      r_ic (x := 1) (pc2 := 42) rfl ic_1 rfl (
      r_iadd (pc2 := 43) rfl rfl (
      r_iret rfl rfl)))))))))))))))))))))))) (fun _ =>
      r_iload (pc2 := 45) rfl rfl rfl (
      r_ic (x := 41) (pc2 := 47) rfl ic_41 rfl (
      r_cne (pc2 := 50) (t := 98) rfl h1 (rgk rfl) rfl (fun _ =>
      r_aload (pc2 := 51) rfl rfl rfl (
      r_getI (pc2 := 54) rfl rfl (sh_T hs rfl rfl) (
      jr_g fun h6 => r_ifle (pc2 := 57) (t := 98) rfl h6 rfl (fun _ =>
      r_iload (pc2 := 99) rfl rfl rfl (
      r_ic (x := 38) (pc2 := 101) rfl ic_38 rfl (
      r_cne (pc2 := 104) (t := 110) rfl h1 (rgk rfl) rfl (fun _ =>
      r_iload (pc2 := 105) rfl rfl rfl (
      r_ic (x := 1) (pc2 := 106) rfl ic_1 rfl (
      r_iadd (pc2 := 107) rfl rfl (
      r_goto (t := 112) rfl (
      r_iret rfl rfl))))) (fun _ =>
      r_iload (pc2 := 111) rfl rfl rfl (
      r_ineg (pc2 := 112) rfl rfl (
      r_iret rfl rfl)))))) (fun _ =>
      r_aload (pc2 := 58) rfl rfl rfl (
      r_dup (pc2 := 59) rfl rfl rfl (
      r_getI (pc2 := 62) rfl rfl (sh_T hs rfl rfl) (
      r_ic (x := 1) (pc2 := 63) rfl ic_1 rfl (
      r_isub (pc2 := 64) rfl rfl (
      r_putI (pc2 := 67) rfl rfl (sh_T hs rfl rfl) fun g7 => (
      r_aload (pc2 := 68) rfl rfl rfl (
      r_aload (pc2 := 69) rfl rfl rfl (
      r_getA (pc2 := 72) rfl rfl (sh_T hs rfl rfl) (sh_A hs rfl rfl) (
      r_aload (pc2 := 73) rfl rfl rfl (
      r_getI (pc2 := 76) rfl rfl (sh_T hs rfl rfl) (
      r_ic (x := 1) (pc2 := 77) rfl ic_1 rfl (
      r_iadd (pc2 := 78) rfl rfl (
      jr_g fun h8 => r_iald (len := 241) (pc2 := 79) rfl rfl (sh_T hs rfl rfl) (sh_L hs rfl rfl) rfl h8 (
      r_aload (pc2 := 80) rfl rfl rfl (
      r_getA (pc2 := 83) rfl rfl (sh_T hs rfl rfl) (sh_A hs rfl rfl) (
      r_aload (pc2 := 84) rfl rfl rfl (
      r_getI (pc2 := 87) rfl rfl (sh_T hs rfl rfl) (
      r_ic (x := 1) (pc2 := 88) rfl ic_1 rfl (
      r_iadd (pc2 := 89) rfl rfl (
      r_iald (len := 241) (pc2 := 90) rfl rfl (sh_T hs rfl rfl) (sh_L hs rfl rfl) rfl h8 (
      r_ior (pc2 := 91) rfl rfl (
      r_callVV (pc2 := 94) (args := [.ref 40, gv (zO (gm_I g7 41 (((gm_I g7 40 6) + 1)).toNat) (gm_I g7 42 (((gm_I g7 40 6) + 1)).toNat))]) (st2 := []) rfl rfl rfl rfl rfl rfl (rc_of (sh_T hs rfl rfl)) (rf_cq_close hs d g7 (zO (gm_I g7 41 (((gm_I g7 40 6) + 1)).toNat) (gm_I g7 42 (((gm_I g7 40 6) + 1)).toNat)) ) fun g9 => (
      r_iload (pc2 := 95) rfl rfl rfl (
      r_ic (x := 1) (pc2 := 96) rfl ic_1 rfl (
      r_iadd (pc2 := 97) rfl rfl (
      r_iret rfl rfl)))))))))))))))))))))))))))))) (fun _ =>
      r_iload (pc2 := 99) rfl rfl rfl (
      r_ic (x := 38) (pc2 := 101) rfl ic_38 rfl (
      r_cne (pc2 := 104) (t := 110) rfl h1 (rgk rfl) rfl (fun _ =>
      r_iload (pc2 := 105) rfl rfl rfl (
      r_ic (x := 1) (pc2 := 106) rfl ic_1 rfl (
      r_iadd (pc2 := 107) rfl rfl (
      r_goto (t := 112) rfl (
      r_iret rfl rfl))))) (fun _ =>
      r_iload (pc2 := 111) rfl rfl rfl (
      r_ineg (pc2 := 112) rfl rfl (
      r_iret rfl rfl)))))))))))))
theorem rl_cq_readTape_l39 {s : gm_S} {n m : Nat} (hs : gm_sh s n m) (d : Nat)    : ∀ (fuel : Nat) (v9 : Int) (v10 : Int) (v11 : Int) (g14 : gm_T) (j7 : Option Value) (j8 : Option Value) (j12 : Option Value) (j13 : Option Value) (hj7 : jm_lg j7 = false) (hj8 : jm_lg j8 = false) (hj12 : jm_lg j12 = false) (hj13 : jm_lg j13 = false), jr (fun (x : (Int × gm_T) ⊕ (Int × gm_T)) (c : Option jm_R) => match x with | .inl q => (∃ (j16 : Option Value) (j17 : Option Value) (j18 : Option Value) (j19 : Option Value), jm_lg j16 = false ∧ jm_lg j17 = false ∧ jm_lg j18 = false ∧ jm_lg j19 = false ∧ c = jm_sup cd_68 (jm_cl jm_CD km_n (d + 6)) (153, [some (.ref 40), some (.ref 1), j7, j8, some (gv q.1), j16, j17, j18, j19], [], gm_h s q.2)) | .inr r => eI s r c) (cq_readTape_l39 n   fuel v9 v10 v11 g14) (jm_sup cd_68 (jm_cl jm_CD km_n (d + 6)) (39, [some (.ref 40), some (.ref 1), j7, j8, some (gv v9), some (gv v10), some (gv v11), j12, j13], [], gm_h s g14)) := by
  intro fuel
  induction fuel with
  | zero => intros; exact jr_none
  | succ fuel ih =>
    intro v9 v10 v11 g14 j7 j8 j12 j13 hj7 hj8 hj12 hj13
    unfold cq_readTape_l39
    exact (
      r_iload (pc2 := 41) rfl rfl rfl (
      r_ic (x := 240) (pc2 := 44) rfl ic_240 rfl (
      jr_g fun h21 => r_cge (pc2 := 47) (t := 153) rfl h21 (rgk rfl) rfl (fun _ =>
      r_iload (pc2 := 49) rfl rfl rfl (
      r_aload (pc2 := 50) rfl rfl rfl (
      r_getI (pc2 := 53) rfl rfl (sh_T hs rfl rfl) (
      jr_g fun h22 => r_cge (pc2 := 56) (t := 153) rfl h22.1 h22.2 rfl (fun _ =>
      r_aload (pc2 := 57) rfl rfl rfl (
      r_iload (pc2 := 59) rfl rfl rfl (
      r_callVP (pc2 := 62) (args := [.ref 1, gv v10]) (st2 := []) rfl rfl rfl rfl rfl rfl (rc_of (sh_T hs rfl rfl)) (rf_ct_peek hs (d + 5) g14 v10 ) fun v23 => (
      r_istore (L2 := [some (.ref 40), some (.ref 1), j7, j8, some (gv v9), some (gv v10), some (gv v11), some (gv v23), j13]) (pc2 := 64) rfl rfl rfl (
      r_iload (pc2 := 66) rfl rfl rfl (
      r_b2 (R1 := (fun (q : Int × gm_T) (c : Option jm_R) => c = jm_sup cd_68 (jm_cl jm_CD km_n (d + 6)) (89, [some (.ref 40), some (.ref 1), j7, j8, some (gv v9), some (gv v10), some (gv v11), some (gv v23), j13], [gv q.1], gm_h s q.2))) (
      jr_g fun h26 => r_ifeq (pc2 := 69) (t := 81) rfl h26 rfl (fun _ =>
      r_aload (pc2 := 82) rfl rfl rfl (
      r_iload (pc2 := 84) rfl rfl rfl (
      r_iload (pc2 := 86) rfl rfl rfl (
      r_callVI (pc2 := 89) (args := [.ref 40, gv v10, gv v23]) (st2 := []) rfl rfl rfl rfl rfl rfl (rc_of (sh_T hs rfl rfl)) (rf_cq_readBehind hs (d + 4) g14 v10 v23 ) fun v27 g28 => (
      jr_leaf rfl))))) (fun _ =>
      r_aload (pc2 := 70) rfl rfl rfl (
      r_aload (pc2 := 71) rfl rfl rfl (
      r_iload (pc2 := 73) rfl rfl rfl (
      r_iload (pc2 := 75) rfl rfl rfl (
      r_callVI (pc2 := 78) (args := [.ref 40, .ref 1, gv v10, gv v23]) (st2 := []) rfl rfl rfl rfl rfl rfl (rc_of (sh_T hs rfl rfl)) (rf_cq_readFactor hs d g14 v10 v23 ) fun v29 g30 => (
      r_goto (t := 89) rfl (
      jr_leaf rfl)))))))) (fun v24 g25 c h => match c, h with | _, rfl => (
      r_istore (L2 := [some (.ref 40), some (.ref 1), j7, j8, some (gv v9), some (gv v10), some (gv v11), some (gv v23), some (gv v24)]) (pc2 := 91) rfl rfl rfl (
      r_iload (pc2 := 93) rfl rfl rfl (
      r_iload (pc2 := 95) rfl rfl rfl (
      jr_g fun h31 => r_cgt (pc2 := 98) (t := 102) rfl h31 h22.1 rfl (fun _ =>
      r_iload (pc2 := 100) rfl rfl rfl (
      r_ineg (pc2 := 101) rfl rfl (
      r_iret rfl rfl))) (fun _ =>
      r_iload (pc2 := 104) rfl rfl rfl (
      jr_g fun h32 => r_ifeq (pc2 := 107) (t := 129) rfl h32 rfl (fun _ =>
      r_iload (pc2 := 131) rfl rfl rfl (
      r_ic (x := 41) (pc2 := 133) rfl ic_41 rfl (
      jr_g fun h33 => r_ceq (pc2 := 136) (t := 140) rfl h33 (rgk rfl) rfl (fun _ =>
      r_ic (x := 0) (pc2 := 141) rfl ic_0 rfl (
      r_istore (L2 := [some (.ref 40), some (.ref 1), j7, j8, some (gv 0), some (gv v10), some (gv v11), some (gv v23), some (gv v24)]) (pc2 := 143) rfl rfl (jm_st1j hj8 rfl ⟨rfl, rfl⟩) (
      r_iload (pc2 := 145) rfl rfl rfl (
      r_istore (L2 := [some (.ref 40), some (.ref 1), j7, j8, some (gv 0), some (gv v24), some (gv v11), some (gv v23), some (gv v24)]) (pc2 := 147) rfl rfl rfl (
      r_iinc (kk := 1) (L2 := [some (.ref 40), some (.ref 1), j7, j8, some (gv 0), some (gv v24), some (gv (v11 + 1)), some (gv v23), some (gv v24)]) (pc2 := 150) rfl ic_1 rfl rfl rfl (
      r_goto (t := 39) rfl (
      ih 0 v24 (v11 + 1) g25 _ _ _ _ hj7 hj8 rfl rfl))))))) (fun _ =>
      r_ic (x := 1) (pc2 := 137) rfl ic_1 rfl (
      r_goto (t := 141) rfl (
      r_istore (L2 := [some (.ref 40), some (.ref 1), j7, j8, some (gv 1), some (gv v10), some (gv v11), some (gv v23), some (gv v24)]) (pc2 := 143) rfl rfl (jm_st1j hj8 rfl ⟨rfl, rfl⟩) (
      r_iload (pc2 := 145) rfl rfl rfl (
      r_istore (L2 := [some (.ref 40), some (.ref 1), j7, j8, some (gv 1), some (gv v24), some (gv v11), some (gv v23), some (gv v24)]) (pc2 := 147) rfl rfl rfl (
      r_iinc (kk := 1) (L2 := [some (.ref 40), some (.ref 1), j7, j8, some (gv 1), some (gv v24), some (gv (v11 + 1)), some (gv v23), some (gv v24)]) (pc2 := 150) rfl ic_1 rfl rfl rfl (
      r_goto (t := 39) rfl (
      ih 1 v24 (v11 + 1) g25 _ _ _ _ hj7 hj8 rfl rfl))))))))))) (fun _ =>
      r_iload (pc2 := 109) rfl rfl rfl (
      r_ic (x := 33) (pc2 := 111) rfl ic_33 rfl (
      jr_g fun h36 => r_ceq (pc2 := 114) (t := 121) rfl h36 (rgk rfl) rfl (fun _ =>
      r_ic (x := 1) (pc2 := 122) rfl ic_1 rfl (
      r_goto (t := 141) rfl (
      r_istore (L2 := [some (.ref 40), some (.ref 1), j7, j8, some (gv 1), some (gv v10), some (gv v11), some (gv v23), some (gv v24)]) (pc2 := 143) rfl rfl (jm_st1j hj8 rfl ⟨rfl, rfl⟩) (
      r_iload (pc2 := 145) rfl rfl rfl (
      r_istore (L2 := [some (.ref 40), some (.ref 1), j7, j8, some (gv 1), some (gv v24), some (gv v11), some (gv v23), some (gv v24)]) (pc2 := 147) rfl rfl rfl (
      r_iinc (kk := 1) (L2 := [some (.ref 40), some (.ref 1), j7, j8, some (gv 1), some (gv v24), some (gv (v11 + 1)), some (gv v23), some (gv v24)]) (pc2 := 150) rfl ic_1 rfl rfl rfl (
      r_goto (t := 39) rfl (
      ih 1 v24 (v11 + 1) g25 _ _ _ _ hj7 hj8 rfl rfl)))))))) (fun _ =>
      r_iload (pc2 := 116) rfl rfl rfl (
      r_ic (x := 40) (pc2 := 118) rfl ic_40 rfl (
      r_cne (pc2 := 121) (t := 125) rfl h36 (rgk rfl) rfl (fun _ =>
      r_ic (x := 1) (pc2 := 122) rfl ic_1 rfl (
      r_goto (t := 141) rfl (
      r_istore (L2 := [some (.ref 40), some (.ref 1), j7, j8, some (gv 1), some (gv v10), some (gv v11), some (gv v23), some (gv v24)]) (pc2 := 143) rfl rfl (jm_st1j hj8 rfl ⟨rfl, rfl⟩) (
      r_iload (pc2 := 145) rfl rfl rfl (
      r_istore (L2 := [some (.ref 40), some (.ref 1), j7, j8, some (gv 1), some (gv v24), some (gv v11), some (gv v23), some (gv v24)]) (pc2 := 147) rfl rfl rfl (
      r_iinc (kk := 1) (L2 := [some (.ref 40), some (.ref 1), j7, j8, some (gv 1), some (gv v24), some (gv (v11 + 1)), some (gv v23), some (gv v24)]) (pc2 := 150) rfl ic_1 rfl rfl rfl (
      r_goto (t := 39) rfl (
      ih 1 v24 (v11 + 1) g25 _ _ _ _ hj7 hj8 rfl rfl)))))))) (fun _ =>
      r_ic (x := 0) (pc2 := 126) rfl ic_0 rfl (
      r_goto (t := 141) rfl (
      r_istore (L2 := [some (.ref 40), some (.ref 1), j7, j8, some (gv 0), some (gv v10), some (gv v11), some (gv v23), some (gv v24)]) (pc2 := 143) rfl rfl (jm_st1j hj8 rfl ⟨rfl, rfl⟩) (
      r_iload (pc2 := 145) rfl rfl rfl (
      r_istore (L2 := [some (.ref 40), some (.ref 1), j7, j8, some (gv 0), some (gv v24), some (gv v11), some (gv v23), some (gv v24)]) (pc2 := 147) rfl rfl rfl (
      r_iinc (kk := 1) (L2 := [some (.ref 40), some (.ref 1), j7, j8, some (gv 0), some (gv v24), some (gv (v11 + 1)), some (gv v23), some (gv v24)]) (pc2 := 150) rfl ic_1 rfl rfl rfl (
      r_goto (t := 39) rfl (
      ih 0 v24 (v11 + 1) g25 _ _ _ _ hj7 hj8 rfl rfl))))))))))))))))))))))))))) (fun _ =>
      jr_leaf ⟨_, _, _, _, rfl, rfl, hj12, hj13, rfl⟩))))) (fun _ =>
      jr_leaf ⟨_, _, _, _, rfl, rfl, hj12, hj13, rfl⟩))))
theorem rf_cq_readTape {s : gm_S} {n m : Nat} (hs : gm_sh s n m) (d : Nat)  (g : gm_T) (a2 : Int) (a3 : Int)  : jr (eI s) (cq_readTape n g a2 a3) (jm_cl jm_CD km_n (d + 7) 68 [.ref 40, .ref 1, gv a2, gv a3] (gm_h s g)) := by
  unfold cq_readTape
  exact (r_ent (cd := cd_68) (n := 9) (L0 := [some (.ref 40), some (.ref 1), some (gv a2), some (gv a3), none, none, none, none, none]) rfl rfl rfl rfl (
      r_aload (pc2 := 1) rfl rfl rfl (
      r_aload (pc2 := 2) rfl rfl rfl (
      r_getA (pc2 := 5) rfl rfl (sh_T hs rfl rfl) (sh_A hs rfl rfl) (
      r_callVP (pc2 := 8) (args := [.ref 10]) (st2 := [.ref 40]) rfl rfl rfl rfl rfl rfl (rc_of (sh_T hs rfl rfl)) (rf_cf_allBits hs (d + 5) g ) fun v1 => (
      r_putI (pc2 := 11) rfl rfl (sh_T hs rfl rfl) fun g2 => (
      r_aload (pc2 := 12) rfl rfl rfl (
      r_iload (pc2 := 13) rfl rfl rfl (
      r_putI (pc2 := 16) rfl rfl (sh_T hs rfl rfl) fun g3 => (
      r_aload (pc2 := 17) rfl rfl rfl (
      r_iload (pc2 := 18) rfl rfl rfl (
      r_putI (pc2 := 21) rfl rfl (sh_T hs rfl rfl) fun g4 => (
      r_aload (pc2 := 22) rfl rfl rfl (
      r_ic (x := -1) (pc2 := 23) rfl ic_m1 rfl (
      r_putI (pc2 := 26) rfl rfl (sh_T hs rfl rfl) fun g5 => (
      r_aload (pc2 := 27) rfl rfl rfl (
      r_callVV (pc2 := 30) (args := [.ref 40]) (st2 := []) rfl rfl rfl rfl rfl rfl (rc_of (sh_T hs rfl rfl)) (rf_cq_open hs (d + 5) g5 ) fun g6 => (
      r_ic (x := 1) (pc2 := 31) rfl ic_1 rfl (
      r_istore (L2 := [some (.ref 40), some (.ref 1), some (gv a2), some (gv a3), some (gv 1), none, none, none, none]) (pc2 := 33) rfl rfl rfl (
      r_ic (x := 0) (pc2 := 34) rfl ic_0 rfl (
      r_istore (L2 := [some (.ref 40), some (.ref 1), some (gv a2), some (gv a3), some (gv 1), some (gv 0), none, none, none]) (pc2 := 36) rfl rfl rfl (
      r_ic (x := 0) (pc2 := 37) rfl ic_0 rfl (
      r_istore (L2 := [some (.ref 40), some (.ref 1), some (gv a2), some (gv a3), some (gv 1), some (gv 0), some (gv 0), none, none]) (pc2 := 39) rfl rfl rfl (
      r_c2 (rl_cq_readTape_l39 hs d     fz 1 0 0 g6 _ _ _ _ rfl rfl rfl rfl) (fun r c h => jr_leaf h) (fun v42 g47 c h => match c, h with | _, ⟨j43, j44, j45, j46, hj43, hj44, hj45, hj46, rfl⟩ => (
      r_iload (pc2 := 155) rfl rfl rfl (
      jr_g fun h48 => r_ifne (pc2 := 158) (t := 165) rfl h48 rfl (fun _ =>
      r_aload (pc2 := 159) rfl rfl rfl (
      r_getI (pc2 := 162) rfl rfl (sh_T hs rfl rfl) (
      jr_g fun h49 => r_ifle (pc2 := 165) (t := 170) rfl h49 rfl (fun _ =>
      r_aload (pc2 := 171) rfl rfl rfl (
      r_aload (pc2 := 172) rfl rfl rfl (
      r_getA (pc2 := 175) rfl rfl (sh_T hs rfl rfl) (sh_A hs rfl rfl) (
      r_ic (x := 0) (pc2 := 176) rfl ic_0 rfl (
      r_iald (len := 241) (pc2 := 177) rfl rfl (sh_T hs rfl rfl) (sh_L hs rfl rfl) rfl ⟨by decide, by decide⟩ (
      r_aload (pc2 := 178) rfl rfl rfl (
      r_getA (pc2 := 181) rfl rfl (sh_T hs rfl rfl) (sh_A hs rfl rfl) (
      r_ic (x := 0) (pc2 := 182) rfl ic_0 rfl (
      r_iald (len := 241) (pc2 := 183) rfl rfl (sh_T hs rfl rfl) (sh_L hs rfl rfl) rfl ⟨by decide, by decide⟩ (
      r_ior (pc2 := 184) rfl rfl (
      r_putI (pc2 := 187) rfl rfl (sh_T hs rfl rfl) fun g50 => (
      r_ic (x := -1) (pc2 := 188) rfl ic_m1 rfl (
      r_iret rfl rfl))))))))))))) (fun _ =>
      r_aload (pc2 := 166) rfl rfl rfl (
      r_getI (pc2 := 169) rfl rfl (sh_T hs rfl rfl) (
      r_iret rfl rfl)))))) (fun _ =>
      r_aload (pc2 := 166) rfl rfl rfl (
      r_getI (pc2 := 169) rfl rfl (sh_T hs rfl rfl) (
      r_iret rfl rfl))))))))))))))))))))))))))))))
theorem rf_ck_skip {s : gm_S} {n m : Nat} (hs : gm_sh s n m) (d : Nat)  (g : gm_T) (a1 : Int)  : jr (eI s) (ck_skip g a1) (jm_cl jm_CD km_n (d + 2) 79 [.ref 3, gv a1] (gm_h s g)) := by
  unfold ck_skip
  exact (r_ent (cd := cd_79) (n := 2) (L0 := [some (.ref 3), some (gv a1)]) rfl rfl rfl rfl (
      r_aload (pc2 := 1) rfl rfl rfl (
      r_getA (pc2 := 4) rfl rfl (sh_T hs rfl rfl) (sh_A hs rfl rfl) (
      r_aload (pc2 := 5) rfl rfl rfl (
      r_getI (pc2 := 8) rfl rfl (sh_T hs rfl rfl) (
      r_callVP (pc2 := 11) (args := [.ref 1, gv (gm_I g 3 1)]) (st2 := []) rfl rfl rfl rfl rfl rfl (rc_of (sh_T hs rfl rfl)) (rf_ct_peek hs d g (gm_I g 3 1) ) fun v1 => (
      r_iload (pc2 := 12) rfl rfl rfl (
      jr_g fun h2 => r_ceq (pc2 := 15) (t := 17) rfl h2.1 h2.2 rfl (fun _ =>
      r_aload (pc2 := 18) rfl rfl rfl (
      r_dup (pc2 := 19) rfl rfl rfl (
      r_getI (pc2 := 22) rfl rfl (sh_T hs rfl rfl) (
      r_ic (x := 1) (pc2 := 23) rfl ic_1 rfl (
      r_iadd (pc2 := 24) rfl rfl (
      r_putI (pc2 := 27) rfl rfl (sh_T hs rfl rfl) fun g3 => (
      r_ic (x := 1) (pc2 := 28) rfl ic_1 rfl (
      r_zret rfl (by decide) rfl)))))))) (fun _ =>
      r_ic (x := 0) (pc2 := 16) rfl ic_0 rfl (
      r_zret rfl (by decide) rfl))))))))))
theorem rf_ck_readCoordinate {s : gm_S} {n m : Nat} (hs : gm_sh s n m) (d : Nat)  (g : gm_T)   : jr (eI s) (ck_readCoordinate g ) (jm_cl jm_CD km_n (d + 3) 81 [.ref 3] (gm_h s g)) := by
  unfold ck_readCoordinate
  exact (r_ent (cd := cd_81) (n := 3) (L0 := [some (.ref 3), none, none]) rfl rfl rfl rfl (
      r_aload (pc2 := 1) rfl rfl rfl (
      r_ic (x := 45) (pc2 := 3) rfl ic_45 rfl (
      r_callVI (pc2 := 6) (args := [.ref 3, gv 45]) (st2 := []) rfl rfl rfl rfl rfl rfl (rc_of (sh_T hs rfl rfl)) (rf_ck_skip hs d g 45 ) fun v1 g2 => (
      r_istore (L2 := [some (.ref 3), some (gv v1), none]) (pc2 := 7) rfl rfl rfl (
      r_aload (pc2 := 8) rfl rfl rfl (
      r_getA (pc2 := 11) rfl rfl (sh_T hs rfl rfl) (sh_A hs rfl rfl) (
      r_aload (pc2 := 12) rfl rfl rfl (
      r_getI (pc2 := 15) rfl rfl (sh_T hs rfl rfl) (
      r_callVP (pc2 := 18) (args := [.ref 1, gv (gm_I g2 3 1)]) (st2 := []) rfl rfl rfl rfl rfl rfl (rc_of (sh_T hs rfl rfl)) (rf_ct_digit hs d g2 (gm_I g2 3 1) ) fun v3 => (
      r_istore (L2 := [some (.ref 3), some (gv v1), some (gv v3)]) (pc2 := 19) rfl rfl rfl (
      r_iload (pc2 := 20) rfl rfl rfl (
      jr_g fun h4 => r_iflt (pc2 := 23) (t := 31) rfl h4 rfl (fun _ =>
      r_ic (x := 0) (pc2 := 32) rfl ic_0 rfl (
      r_zret rfl (by decide) rfl)) (fun _ =>
      r_iload (pc2 := 24) rfl rfl rfl (
      jr_g fun h5 => r_ifeq (pc2 := 27) (t := 33) rfl h5 rfl (fun _ =>
      r_aload (pc2 := 34) rfl rfl rfl (
      r_dup (pc2 := 35) rfl rfl rfl (
      r_getI (pc2 := 38) rfl rfl (sh_T hs rfl rfl) (
      r_ic (x := 1) (pc2 := 39) rfl ic_1 rfl (
      r_iadd (pc2 := 40) rfl rfl (
      r_putI (pc2 := 43) rfl rfl (sh_T hs rfl rfl) fun g6 => (
      r_iload (pc2 := 44) rfl rfl rfl (
      r_ifle (pc2 := 47) (t := 96) rfl h4 rfl (fun _ =>
      r_aload (pc2 := 97) rfl rfl rfl (
      r_iload (pc2 := 98) rfl rfl rfl (
      r_ifeq (pc2 := 101) (t := 106) rfl h5 rfl (fun _ =>
      r_iload (pc2 := 107) rfl rfl rfl (
      r_putI (pc2 := 110) rfl rfl (sh_T hs rfl rfl) fun g7 => (
      r_ic (x := 1) (pc2 := 111) rfl ic_1 rfl (
      r_zret rfl (by decide) rfl)))) (fun _ =>
      r_iload (pc2 := 102) rfl rfl rfl (
      r_ineg (pc2 := 103) rfl rfl (
      r_goto (t := 107) rfl (
      r_putI (pc2 := 110) rfl rfl (sh_T hs rfl rfl) fun g8 => (
      r_ic (x := 1) (pc2 := 111) rfl ic_1 rfl (
      r_zret rfl (by decide) rfl))))))))) (fun _ =>
      r_aload (pc2 := 48) rfl rfl rfl (
      r_getA (pc2 := 51) rfl rfl (sh_T hs rfl rfl) (sh_A hs rfl rfl) (
      r_aload (pc2 := 52) rfl rfl rfl (
      r_getI (pc2 := 55) rfl rfl (sh_T hs rfl rfl) (
      r_callVP (pc2 := 58) (args := [.ref 1, gv (gm_I g6 3 1)]) (st2 := []) rfl rfl rfl rfl rfl rfl (rc_of (sh_T hs rfl rfl)) (rf_ct_digit hs d g6 (gm_I g6 3 1) ) fun v9 => (
      jr_g fun h10 => r_iflt (pc2 := 61) (t := 96) rfl h10 rfl (fun _ =>
      r_aload (pc2 := 97) rfl rfl rfl (
      r_iload (pc2 := 98) rfl rfl rfl (
      r_ifeq (pc2 := 101) (t := 106) rfl h5 rfl (fun _ =>
      r_iload (pc2 := 107) rfl rfl rfl (
      r_putI (pc2 := 110) rfl rfl (sh_T hs rfl rfl) fun g11 => (
      r_ic (x := 1) (pc2 := 111) rfl ic_1 rfl (
      r_zret rfl (by decide) rfl)))) (fun _ =>
      r_iload (pc2 := 102) rfl rfl rfl (
      r_ineg (pc2 := 103) rfl rfl (
      r_goto (t := 107) rfl (
      r_putI (pc2 := 110) rfl rfl (sh_T hs rfl rfl) fun g12 => (
      r_ic (x := 1) (pc2 := 111) rfl ic_1 rfl (
      r_zret rfl (by decide) rfl))))))))) (fun _ =>
      r_ic (x := 10) (pc2 := 63) rfl ic_10 rfl (
      r_iload (pc2 := 64) rfl rfl rfl (
      r_imul (pc2 := 65) rfl rfl (
      r_aload (pc2 := 66) rfl rfl rfl (
      r_getA (pc2 := 69) rfl rfl (sh_T hs rfl rfl) (sh_A hs rfl rfl) (
      r_aload (pc2 := 70) rfl rfl rfl (
      r_getI (pc2 := 73) rfl rfl (sh_T hs rfl rfl) (
      r_callVP (pc2 := 76) (args := [.ref 1, gv (gm_I g6 3 1)]) (st2 := [gv (10 * v3)]) rfl rfl rfl rfl rfl rfl (rc_of (sh_T hs rfl rfl)) (rf_ct_digit hs d g6 (gm_I g6 3 1) ) fun v13 => (
      r_iadd (pc2 := 77) rfl rfl (
      r_istoreL (L3 := fun v14 => [some (.ref 3), some (gv v1), some (gv v14)]) (pc2 := 78) rfl rfl (fun _ => rfl) fun v14 => (
      r_iload (pc2 := 79) rfl rfl rfl (
      r_ic (x := 20) (pc2 := 81) rfl ic_20 rfl (
      jr_g fun h15 => r_cle (pc2 := 84) (t := 86) rfl h15 (rgk rfl) rfl (fun _ =>
      r_aload (pc2 := 87) rfl rfl rfl (
      r_dup (pc2 := 88) rfl rfl rfl (
      r_getI (pc2 := 91) rfl rfl (sh_T hs rfl rfl) (
      r_ic (x := 1) (pc2 := 92) rfl ic_1 rfl (
      r_iadd (pc2 := 93) rfl rfl (
      r_putI (pc2 := 96) rfl rfl (sh_T hs rfl rfl) fun g16 => (
      r_aload (pc2 := 97) rfl rfl rfl (
      r_iload (pc2 := 98) rfl rfl rfl (
      r_ifeq (pc2 := 101) (t := 106) rfl h5 rfl (fun _ =>
      r_iload (pc2 := 107) rfl rfl rfl (
      r_putI (pc2 := 110) rfl rfl (sh_T hs rfl rfl) fun g17 => (
      r_ic (x := 1) (pc2 := 111) rfl ic_1 rfl (
      r_zret rfl (by decide) rfl)))) (fun _ =>
      r_iload (pc2 := 102) rfl rfl rfl (
      r_ineg (pc2 := 103) rfl rfl (
      r_goto (t := 107) rfl (
      r_putI (pc2 := 110) rfl rfl (sh_T hs rfl rfl) fun g18 => (
      r_ic (x := 1) (pc2 := 111) rfl ic_1 rfl (
      r_zret rfl (by decide) rfl))))))))))))))) (fun _ =>
      r_ic (x := 0) (pc2 := 85) rfl ic_0 rfl (
      r_zret rfl (by decide) rfl))))))))))))))))))))))))))))) (fun _ =>
      r_iload (pc2 := 28) rfl rfl rfl (
      r_ifne (pc2 := 31) (t := 33) rfl h4 rfl (fun _ =>
      r_ic (x := 0) (pc2 := 32) rfl ic_0 rfl (
      r_zret rfl (by decide) rfl)) (fun _ =>
      r_aload (pc2 := 34) rfl rfl rfl (
      r_dup (pc2 := 35) rfl rfl rfl (
      r_getI (pc2 := 38) rfl rfl (sh_T hs rfl rfl) (
      r_ic (x := 1) (pc2 := 39) rfl ic_1 rfl (
      r_iadd (pc2 := 40) rfl rfl (
      r_putI (pc2 := 43) rfl rfl (sh_T hs rfl rfl) fun g19 => (
      r_iload (pc2 := 44) rfl rfl rfl (
      r_ifle (pc2 := 47) (t := 96) rfl h4 rfl (fun _ =>
      r_aload (pc2 := 97) rfl rfl rfl (
      r_iload (pc2 := 98) rfl rfl rfl (
      r_ifeq (pc2 := 101) (t := 106) rfl h5 rfl (fun _ =>
      r_iload (pc2 := 107) rfl rfl rfl (
      r_putI (pc2 := 110) rfl rfl (sh_T hs rfl rfl) fun g20 => (
      r_ic (x := 1) (pc2 := 111) rfl ic_1 rfl (
      r_zret rfl (by decide) rfl)))) (fun _ =>
      r_iload (pc2 := 102) rfl rfl rfl (
      r_ineg (pc2 := 103) rfl rfl (
      r_goto (t := 107) rfl (
      r_putI (pc2 := 110) rfl rfl (sh_T hs rfl rfl) fun g21 => (
      r_ic (x := 1) (pc2 := 111) rfl ic_1 rfl (
      r_zret rfl (by decide) rfl))))))))) (fun _ =>
      r_aload (pc2 := 48) rfl rfl rfl (
      r_getA (pc2 := 51) rfl rfl (sh_T hs rfl rfl) (sh_A hs rfl rfl) (
      r_aload (pc2 := 52) rfl rfl rfl (
      r_getI (pc2 := 55) rfl rfl (sh_T hs rfl rfl) (
      r_callVP (pc2 := 58) (args := [.ref 1, gv (gm_I g19 3 1)]) (st2 := []) rfl rfl rfl rfl rfl rfl (rc_of (sh_T hs rfl rfl)) (rf_ct_digit hs d g19 (gm_I g19 3 1) ) fun v22 => (
      jr_g fun h23 => r_iflt (pc2 := 61) (t := 96) rfl h23 rfl (fun _ =>
      r_aload (pc2 := 97) rfl rfl rfl (
      r_iload (pc2 := 98) rfl rfl rfl (
      r_ifeq (pc2 := 101) (t := 106) rfl h5 rfl (fun _ =>
      r_iload (pc2 := 107) rfl rfl rfl (
      r_putI (pc2 := 110) rfl rfl (sh_T hs rfl rfl) fun g24 => (
      r_ic (x := 1) (pc2 := 111) rfl ic_1 rfl (
      r_zret rfl (by decide) rfl)))) (fun _ =>
      r_iload (pc2 := 102) rfl rfl rfl (
      r_ineg (pc2 := 103) rfl rfl (
      r_goto (t := 107) rfl (
      r_putI (pc2 := 110) rfl rfl (sh_T hs rfl rfl) fun g25 => (
      r_ic (x := 1) (pc2 := 111) rfl ic_1 rfl (
      r_zret rfl (by decide) rfl))))))))) (fun _ =>
      r_ic (x := 10) (pc2 := 63) rfl ic_10 rfl (
      r_iload (pc2 := 64) rfl rfl rfl (
      r_imul (pc2 := 65) rfl rfl (
      r_aload (pc2 := 66) rfl rfl rfl (
      r_getA (pc2 := 69) rfl rfl (sh_T hs rfl rfl) (sh_A hs rfl rfl) (
      r_aload (pc2 := 70) rfl rfl rfl (
      r_getI (pc2 := 73) rfl rfl (sh_T hs rfl rfl) (
      r_callVP (pc2 := 76) (args := [.ref 1, gv (gm_I g19 3 1)]) (st2 := [gv (10 * v3)]) rfl rfl rfl rfl rfl rfl (rc_of (sh_T hs rfl rfl)) (rf_ct_digit hs d g19 (gm_I g19 3 1) ) fun v26 => (
      r_iadd (pc2 := 77) rfl rfl (
      r_istoreL (L3 := fun v27 => [some (.ref 3), some (gv v1), some (gv v27)]) (pc2 := 78) rfl rfl (fun _ => rfl) fun v27 => (
      r_iload (pc2 := 79) rfl rfl rfl (
      r_ic (x := 20) (pc2 := 81) rfl ic_20 rfl (
      jr_g fun h28 => r_cle (pc2 := 84) (t := 86) rfl h28 (rgk rfl) rfl (fun _ =>
      r_aload (pc2 := 87) rfl rfl rfl (
      r_dup (pc2 := 88) rfl rfl rfl (
      r_getI (pc2 := 91) rfl rfl (sh_T hs rfl rfl) (
      r_ic (x := 1) (pc2 := 92) rfl ic_1 rfl (
      r_iadd (pc2 := 93) rfl rfl (
      r_putI (pc2 := 96) rfl rfl (sh_T hs rfl rfl) fun g29 => (
      r_aload (pc2 := 97) rfl rfl rfl (
      r_iload (pc2 := 98) rfl rfl rfl (
      r_ifeq (pc2 := 101) (t := 106) rfl h5 rfl (fun _ =>
      r_iload (pc2 := 107) rfl rfl rfl (
      r_putI (pc2 := 110) rfl rfl (sh_T hs rfl rfl) fun g30 => (
      r_ic (x := 1) (pc2 := 111) rfl ic_1 rfl (
      r_zret rfl (by decide) rfl)))) (fun _ =>
      r_iload (pc2 := 102) rfl rfl rfl (
      r_ineg (pc2 := 103) rfl rfl (
      r_goto (t := 107) rfl (
      r_putI (pc2 := 110) rfl rfl (sh_T hs rfl rfl) fun g31 => (
      r_ic (x := 1) (pc2 := 111) rfl ic_1 rfl (
      r_zret rfl (by decide) rfl))))))))))))))) (fun _ =>
      r_ic (x := 0) (pc2 := 85) rfl ic_0 rfl (
      r_zret rfl (by decide) rfl))))))))))))))))))))))))))))))))))))))))))))))
theorem rf_ck_readPoint_4 {s : gm_S} {n m : Nat} (hs : gm_sh s n m) (d : Nat)  (g : gm_T) (a1 : Int) (a5 : Int)  : jr (eI s) (ck_readPoint_4 g a1 a5) (jm_cl jm_CD km_n (d + 4) 80 [.ref 3, gv a1, .ref 4, .ref 5, .ref 6, gv a5] (gm_h s g)) := by
  unfold ck_readPoint_4
  exact (r_ent (cd := cd_80) (n := 6) (L0 := [some (.ref 3), some (gv a1), some (.ref 4), some (.ref 5), some (.ref 6), some (gv a5)]) rfl rfl rfl rfl (
      r_aload (pc2 := 1) rfl rfl rfl (
      r_callVI (pc2 := 4) (args := [.ref 3]) (st2 := []) rfl rfl rfl rfl rfl rfl (rc_of (sh_T hs rfl rfl)) (rf_ck_readCoordinate hs d g ) fun v1 g2 => (
      jr_g fun h3 => r_ifne (pc2 := 7) (t := 9) rfl h3 rfl (fun _ =>
      r_ic (x := 0) (pc2 := 8) rfl ic_0 rfl (
      r_zret rfl (by decide) rfl)) (fun _ =>
      r_aload (pc2 := 10) rfl rfl rfl (
      r_iload (pc2 := 12) rfl rfl rfl (
      r_aload (pc2 := 13) rfl rfl rfl (
      r_getI (pc2 := 16) rfl rfl (sh_T hs rfl rfl) (
      jr_g fun h5 => r_iast (len := 8) (pc2 := 17) rfl rfl (sh_T hs rfl rfl) (sh_L hs rfl rfl) rfl h5 fun g4 => (
      r_aload (pc2 := 18) rfl rfl rfl (
      r_ic (x := 44) (pc2 := 20) rfl ic_44 rfl (
      r_callVI (pc2 := 23) (args := [.ref 3, gv 44]) (st2 := []) rfl rfl rfl rfl rfl rfl (rc_of (sh_T hs rfl rfl)) (rf_ck_skip hs (d + 1) g4 44 ) fun v6 g7 => (
      jr_g fun h8 => r_ifeq (pc2 := 26) (t := 33) rfl h8 rfl (fun _ =>
      r_ic (x := 0) (pc2 := 34) rfl ic_0 rfl (
      r_zret rfl (by decide) rfl)) (fun _ =>
      r_aload (pc2 := 27) rfl rfl rfl (
      r_callVI (pc2 := 30) (args := [.ref 3]) (st2 := []) rfl rfl rfl rfl rfl rfl (rc_of (sh_T hs rfl rfl)) (rf_ck_readCoordinate hs d g7 ) fun v9 g10 => (
      jr_g fun h11 => r_ifne (pc2 := 33) (t := 35) rfl h11 rfl (fun _ =>
      r_ic (x := 0) (pc2 := 34) rfl ic_0 rfl (
      r_zret rfl (by decide) rfl)) (fun _ =>
      r_aload (pc2 := 36) rfl rfl rfl (
      r_iload (pc2 := 38) rfl rfl rfl (
      r_aload (pc2 := 39) rfl rfl rfl (
      r_getI (pc2 := 42) rfl rfl (sh_T hs rfl rfl) (
      r_iast (len := 8) (pc2 := 43) rfl rfl (sh_T hs rfl rfl) (sh_L hs rfl rfl) rfl h5 fun g12 => (
      r_aload (pc2 := 44) rfl rfl rfl (
      r_iload (pc2 := 45) rfl rfl rfl (
      r_callVI (pc2 := 48) (args := [.ref 3, gv a1]) (st2 := []) rfl rfl rfl rfl rfl rfl (rc_of (sh_T hs rfl rfl)) (rf_ck_skip hs (d + 1) g12 a1 ) fun v13 g14 => (
      jr_g fun h15 => r_ifeq (pc2 := 51) (t := 65) rfl h15 rfl (fun _ =>
      r_ic (x := 0) (pc2 := 66) rfl ic_0 rfl (
      r_zret rfl (by decide) rfl)) (fun _ =>
      r_aload (pc2 := 52) rfl rfl rfl (
      r_getA (pc2 := 55) rfl rfl (sh_T hs rfl rfl) (sh_A hs rfl rfl) (
      r_aload (pc2 := 56) rfl rfl rfl (
      r_getI (pc2 := 59) rfl rfl (sh_T hs rfl rfl) (
      r_callVP (pc2 := 62) (args := [.ref 1, gv (gm_I g14 3 1)]) (st2 := []) rfl rfl rfl rfl rfl rfl (rc_of (sh_T hs rfl rfl)) (rf_ct_digit hs (d + 1) g14 (gm_I g14 3 1) ) fun v16 => (
      jr_g fun h17 => r_ifge (pc2 := 65) (t := 67) rfl h17 rfl (fun _ =>
      r_ic (x := 0) (pc2 := 66) rfl ic_0 rfl (
      r_zret rfl (by decide) rfl)) (fun _ =>
      r_aload (pc2 := 69) rfl rfl rfl (
      r_iload (pc2 := 71) rfl rfl rfl (
      r_aload (pc2 := 72) rfl rfl rfl (
      r_getA (pc2 := 75) rfl rfl (sh_T hs rfl rfl) (sh_A hs rfl rfl) (
      r_aload (pc2 := 76) rfl rfl rfl (
      r_getI (pc2 := 79) rfl rfl (sh_T hs rfl rfl) (
      r_callVP (pc2 := 82) (args := [.ref 1, gv (gm_I g14 3 1)]) (st2 := [gv a5, .ref 6]) rfl rfl rfl rfl rfl rfl (rc_of (sh_T hs rfl rfl)) (rf_ct_digit hs (d + 1) g14 (gm_I g14 3 1) ) fun v18 => (
      r_iast (len := 8) (pc2 := 83) rfl rfl (sh_T hs rfl rfl) (sh_L hs rfl rfl) rfl h5 fun g19 => (
      r_aload (pc2 := 84) rfl rfl rfl (
      r_dup (pc2 := 85) rfl rfl rfl (
      r_getI (pc2 := 88) rfl rfl (sh_T hs rfl rfl) (
      r_ic (x := 1) (pc2 := 89) rfl ic_1 rfl (
      r_iadd (pc2 := 90) rfl rfl (
      r_putI (pc2 := 93) rfl rfl (sh_T hs rfl rfl) fun g20 => (
      r_ic (x := 1) (pc2 := 94) rfl ic_1 rfl (
      r_zret rfl (by decide) rfl)))))))))))))))))))))))))))))))))))))))))))))))
theorem rf_ck_readPoint_7 {s : gm_S} {n m : Nat} (hs : gm_sh s n m) (d : Nat)  (g : gm_T) (a1 : Int) (a5 : Int)  : jr (eI s) (ck_readPoint_7 g a1 a5) (jm_cl jm_CD km_n (d + 4) 80 [.ref 3, gv a1, .ref 7, .ref 8, .ref 9, gv a5] (gm_h s g)) := by
  unfold ck_readPoint_7
  exact (r_ent (cd := cd_80) (n := 6) (L0 := [some (.ref 3), some (gv a1), some (.ref 7), some (.ref 8), some (.ref 9), some (gv a5)]) rfl rfl rfl rfl (
      r_aload (pc2 := 1) rfl rfl rfl (
      r_callVI (pc2 := 4) (args := [.ref 3]) (st2 := []) rfl rfl rfl rfl rfl rfl (rc_of (sh_T hs rfl rfl)) (rf_ck_readCoordinate hs d g ) fun v1 g2 => (
      jr_g fun h3 => r_ifne (pc2 := 7) (t := 9) rfl h3 rfl (fun _ =>
      r_ic (x := 0) (pc2 := 8) rfl ic_0 rfl (
      r_zret rfl (by decide) rfl)) (fun _ =>
      r_aload (pc2 := 10) rfl rfl rfl (
      r_iload (pc2 := 12) rfl rfl rfl (
      r_aload (pc2 := 13) rfl rfl rfl (
      r_getI (pc2 := 16) rfl rfl (sh_T hs rfl rfl) (
      jr_g fun h5 => r_iast (len := 5) (pc2 := 17) rfl rfl (sh_T hs rfl rfl) (sh_L hs rfl rfl) rfl h5 fun g4 => (
      r_aload (pc2 := 18) rfl rfl rfl (
      r_ic (x := 44) (pc2 := 20) rfl ic_44 rfl (
      r_callVI (pc2 := 23) (args := [.ref 3, gv 44]) (st2 := []) rfl rfl rfl rfl rfl rfl (rc_of (sh_T hs rfl rfl)) (rf_ck_skip hs (d + 1) g4 44 ) fun v6 g7 => (
      jr_g fun h8 => r_ifeq (pc2 := 26) (t := 33) rfl h8 rfl (fun _ =>
      r_ic (x := 0) (pc2 := 34) rfl ic_0 rfl (
      r_zret rfl (by decide) rfl)) (fun _ =>
      r_aload (pc2 := 27) rfl rfl rfl (
      r_callVI (pc2 := 30) (args := [.ref 3]) (st2 := []) rfl rfl rfl rfl rfl rfl (rc_of (sh_T hs rfl rfl)) (rf_ck_readCoordinate hs d g7 ) fun v9 g10 => (
      jr_g fun h11 => r_ifne (pc2 := 33) (t := 35) rfl h11 rfl (fun _ =>
      r_ic (x := 0) (pc2 := 34) rfl ic_0 rfl (
      r_zret rfl (by decide) rfl)) (fun _ =>
      r_aload (pc2 := 36) rfl rfl rfl (
      r_iload (pc2 := 38) rfl rfl rfl (
      r_aload (pc2 := 39) rfl rfl rfl (
      r_getI (pc2 := 42) rfl rfl (sh_T hs rfl rfl) (
      r_iast (len := 5) (pc2 := 43) rfl rfl (sh_T hs rfl rfl) (sh_L hs rfl rfl) rfl h5 fun g12 => (
      r_aload (pc2 := 44) rfl rfl rfl (
      r_iload (pc2 := 45) rfl rfl rfl (
      r_callVI (pc2 := 48) (args := [.ref 3, gv a1]) (st2 := []) rfl rfl rfl rfl rfl rfl (rc_of (sh_T hs rfl rfl)) (rf_ck_skip hs (d + 1) g12 a1 ) fun v13 g14 => (
      jr_g fun h15 => r_ifeq (pc2 := 51) (t := 65) rfl h15 rfl (fun _ =>
      r_ic (x := 0) (pc2 := 66) rfl ic_0 rfl (
      r_zret rfl (by decide) rfl)) (fun _ =>
      r_aload (pc2 := 52) rfl rfl rfl (
      r_getA (pc2 := 55) rfl rfl (sh_T hs rfl rfl) (sh_A hs rfl rfl) (
      r_aload (pc2 := 56) rfl rfl rfl (
      r_getI (pc2 := 59) rfl rfl (sh_T hs rfl rfl) (
      r_callVP (pc2 := 62) (args := [.ref 1, gv (gm_I g14 3 1)]) (st2 := []) rfl rfl rfl rfl rfl rfl (rc_of (sh_T hs rfl rfl)) (rf_ct_digit hs (d + 1) g14 (gm_I g14 3 1) ) fun v16 => (
      jr_g fun h17 => r_ifge (pc2 := 65) (t := 67) rfl h17 rfl (fun _ =>
      r_ic (x := 0) (pc2 := 66) rfl ic_0 rfl (
      r_zret rfl (by decide) rfl)) (fun _ =>
      r_aload (pc2 := 69) rfl rfl rfl (
      r_iload (pc2 := 71) rfl rfl rfl (
      r_aload (pc2 := 72) rfl rfl rfl (
      r_getA (pc2 := 75) rfl rfl (sh_T hs rfl rfl) (sh_A hs rfl rfl) (
      r_aload (pc2 := 76) rfl rfl rfl (
      r_getI (pc2 := 79) rfl rfl (sh_T hs rfl rfl) (
      r_callVP (pc2 := 82) (args := [.ref 1, gv (gm_I g14 3 1)]) (st2 := [gv a5, .ref 9]) rfl rfl rfl rfl rfl rfl (rc_of (sh_T hs rfl rfl)) (rf_ct_digit hs (d + 1) g14 (gm_I g14 3 1) ) fun v18 => (
      r_iast (len := 5) (pc2 := 83) rfl rfl (sh_T hs rfl rfl) (sh_L hs rfl rfl) rfl h5 fun g19 => (
      r_aload (pc2 := 84) rfl rfl rfl (
      r_dup (pc2 := 85) rfl rfl rfl (
      r_getI (pc2 := 88) rfl rfl (sh_T hs rfl rfl) (
      r_ic (x := 1) (pc2 := 89) rfl ic_1 rfl (
      r_iadd (pc2 := 90) rfl rfl (
      r_putI (pc2 := 93) rfl rfl (sh_T hs rfl rfl) fun g20 => (
      r_ic (x := 1) (pc2 := 94) rfl ic_1 rfl (
      r_zret rfl (by decide) rfl)))))))))))))))))))))))))))))))))))))))))))))))
theorem rl_ck_readTape_l15 {s : gm_S} {n m : Nat} (hs : gm_sh s n m) (d : Nat)    : ∀ (fuel : Nat) (g4 : gm_T), jr (fun (x : (gm_T) ⊕ (Int × gm_T)) (c : Option jm_R) => match x with | .inl q => (c = jm_sup cd_78 (jm_cl jm_CD km_n (d + 4)) (83, [some (.ref 3)], [], gm_h s q)) | .inr r => eI s r c) (ck_readTape_l15   fuel g4) (jm_sup cd_78 (jm_cl jm_CD km_n (d + 4)) (15, [some (.ref 3)], [], gm_h s g4)) := by
  intro fuel
  induction fuel with
  | zero => intros; exact jr_none
  | succ fuel ih =>
    intro g4  
    unfold ck_readTape_l15
    exact (
      r_aload (pc2 := 16) rfl rfl rfl (
      r_getI (pc2 := 19) rfl rfl (sh_T hs rfl rfl) (
      r_ic (x := 8) (pc2 := 21) rfl ic_8 rfl (
      jr_g fun h6 => r_cge (pc2 := 24) (t := 83) rfl h6 (rgk rfl) rfl (fun _ =>
      r_aload (pc2 := 25) rfl rfl rfl (
      r_getI (pc2 := 28) rfl rfl (sh_T hs rfl rfl) (
      r_ifeq (pc2 := 31) (t := 40) rfl h6 rfl (fun _ =>
      r_aload (pc2 := 41) rfl rfl rfl (
      r_ic (x := 58) (pc2 := 43) rfl ic_58 rfl (
      r_aload (pc2 := 44) rfl rfl rfl (
      r_getA (pc2 := 47) rfl rfl (sh_T hs rfl rfl) (sh_A hs rfl rfl) (
      r_aload (pc2 := 48) rfl rfl rfl (
      r_getA (pc2 := 51) rfl rfl (sh_T hs rfl rfl) (sh_A hs rfl rfl) (
      r_aload (pc2 := 52) rfl rfl rfl (
      r_getA (pc2 := 55) rfl rfl (sh_T hs rfl rfl) (sh_A hs rfl rfl) (
      r_aload (pc2 := 56) rfl rfl rfl (
      r_getI (pc2 := 59) rfl rfl (sh_T hs rfl rfl) (
      r_callVI (pc2 := 62) (args := [.ref 3, gv 58, .ref 4, .ref 5, .ref 6, gv (gm_I g4 3 3)]) (st2 := []) rfl rfl rfl rfl rfl rfl (rc_of (sh_T hs rfl rfl)) (rf_ck_readPoint_4 hs d g4 58 (gm_I g4 3 3) ) fun v7 g8 => (
      jr_g fun h9 => r_ifne (pc2 := 65) (t := 70) rfl h9 rfl (fun _ =>
      r_aload (pc2 := 66) rfl rfl rfl (
      r_getI (pc2 := 69) rfl rfl (sh_T hs rfl rfl) (
      r_iret rfl rfl))) (fun _ =>
      r_aload (pc2 := 71) rfl rfl rfl (
      r_dup (pc2 := 72) rfl rfl rfl (
      r_getI (pc2 := 75) rfl rfl (sh_T hs rfl rfl) (
      r_ic (x := 1) (pc2 := 76) rfl ic_1 rfl (
      r_iadd (pc2 := 77) rfl rfl (
      r_putI (pc2 := 80) rfl rfl (sh_T hs rfl rfl) fun g10 => (
      r_goto (t := 15) rfl (
      ih g10)))))))))))))))))))) (fun _ =>
      r_aload (pc2 := 32) rfl rfl rfl (
      r_ic (x := 59) (pc2 := 34) rfl ic_59 rfl (
      r_callVI (pc2 := 37) (args := [.ref 3, gv 59]) (st2 := []) rfl rfl rfl rfl rfl rfl (rc_of (sh_T hs rfl rfl)) (rf_ck_skip hs (d + 2) g4 59 ) fun v11 g12 => (
      jr_g fun h13 => r_ifeq (pc2 := 40) (t := 83) rfl h13 rfl (fun _ =>
      jr_leaf rfl) (fun _ =>
      r_aload (pc2 := 41) rfl rfl rfl (
      r_ic (x := 58) (pc2 := 43) rfl ic_58 rfl (
      r_aload (pc2 := 44) rfl rfl rfl (
      r_getA (pc2 := 47) rfl rfl (sh_T hs rfl rfl) (sh_A hs rfl rfl) (
      r_aload (pc2 := 48) rfl rfl rfl (
      r_getA (pc2 := 51) rfl rfl (sh_T hs rfl rfl) (sh_A hs rfl rfl) (
      r_aload (pc2 := 52) rfl rfl rfl (
      r_getA (pc2 := 55) rfl rfl (sh_T hs rfl rfl) (sh_A hs rfl rfl) (
      r_aload (pc2 := 56) rfl rfl rfl (
      r_getI (pc2 := 59) rfl rfl (sh_T hs rfl rfl) (
      r_callVI (pc2 := 62) (args := [.ref 3, gv 58, .ref 4, .ref 5, .ref 6, gv (gm_I g12 3 3)]) (st2 := []) rfl rfl rfl rfl rfl rfl (rc_of (sh_T hs rfl rfl)) (rf_ck_readPoint_4 hs d g12 58 (gm_I g12 3 3) ) fun v14 g15 => (
      jr_g fun h16 => r_ifne (pc2 := 65) (t := 70) rfl h16 rfl (fun _ =>
      r_aload (pc2 := 66) rfl rfl rfl (
      r_getI (pc2 := 69) rfl rfl (sh_T hs rfl rfl) (
      r_iret rfl rfl))) (fun _ =>
      r_aload (pc2 := 71) rfl rfl rfl (
      r_dup (pc2 := 72) rfl rfl rfl (
      r_getI (pc2 := 75) rfl rfl (sh_T hs rfl rfl) (
      r_ic (x := 1) (pc2 := 76) rfl ic_1 rfl (
      r_iadd (pc2 := 77) rfl rfl (
      r_putI (pc2 := 80) rfl rfl (sh_T hs rfl rfl) fun g17 => (
      r_goto (t := 15) rfl (
      ih g17))))))))))))))))))))))))))) (fun _ =>
      jr_leaf rfl)))))
theorem rl_ck_readTape_l96 {s : gm_S} {n m : Nat} (hs : gm_sh s n m) (d : Nat)    : ∀ (fuel : Nat) (g20 : gm_T), jr (fun (x : (gm_T) ⊕ (Int × gm_T)) (c : Option jm_R) => match x with | .inl q => (c = jm_sup cd_78 (jm_cl jm_CD km_n (d + 4)) (156, [some (.ref 3)], [], gm_h s q)) | .inr r => eI s r c) (ck_readTape_l96   fuel g20) (jm_sup cd_78 (jm_cl jm_CD km_n (d + 4)) (96, [some (.ref 3)], [], gm_h s g20)) := by
  intro fuel
  induction fuel with
  | zero => intros; exact jr_none
  | succ fuel ih =>
    intro g20  
    unfold ck_readTape_l96
    exact (
      r_aload (pc2 := 97) rfl rfl rfl (
      r_getI (pc2 := 100) rfl rfl (sh_T hs rfl rfl) (
      r_ic (x := 5) (pc2 := 101) rfl ic_5 rfl (
      jr_g fun h22 => r_cge (pc2 := 104) (t := 156) rfl h22 (rgk rfl) rfl (fun _ =>
      r_aload (pc2 := 105) rfl rfl rfl (
      r_ic (x := 124) (pc2 := 107) rfl ic_124 rfl (
      r_callVI (pc2 := 110) (args := [.ref 3, gv 124]) (st2 := []) rfl rfl rfl rfl rfl rfl (rc_of (sh_T hs rfl rfl)) (rf_ck_skip hs (d + 2) g20 124 ) fun v23 g24 => (
      jr_g fun h25 => r_ifeq (pc2 := 113) (t := 156) rfl h25 rfl (fun _ =>
      jr_leaf rfl) (fun _ =>
      r_aload (pc2 := 114) rfl rfl rfl (
      r_ic (x := 61) (pc2 := 116) rfl ic_61 rfl (
      r_aload (pc2 := 117) rfl rfl rfl (
      r_getA (pc2 := 120) rfl rfl (sh_T hs rfl rfl) (sh_A hs rfl rfl) (
      r_aload (pc2 := 121) rfl rfl rfl (
      r_getA (pc2 := 124) rfl rfl (sh_T hs rfl rfl) (sh_A hs rfl rfl) (
      r_aload (pc2 := 125) rfl rfl rfl (
      r_getA (pc2 := 128) rfl rfl (sh_T hs rfl rfl) (sh_A hs rfl rfl) (
      r_aload (pc2 := 129) rfl rfl rfl (
      r_getI (pc2 := 132) rfl rfl (sh_T hs rfl rfl) (
      r_callVI (pc2 := 135) (args := [.ref 3, gv 61, .ref 7, .ref 8, .ref 9, gv (gm_I g24 3 7)]) (st2 := []) rfl rfl rfl rfl rfl rfl (rc_of (sh_T hs rfl rfl)) (rf_ck_readPoint_7 hs d g24 61 (gm_I g24 3 7) ) fun v26 g27 => (
      jr_g fun h28 => r_ifne (pc2 := 138) (t := 143) rfl h28 rfl (fun _ =>
      r_aload (pc2 := 139) rfl rfl rfl (
      r_getI (pc2 := 142) rfl rfl (sh_T hs rfl rfl) (
      r_iret rfl rfl))) (fun _ =>
      r_aload (pc2 := 144) rfl rfl rfl (
      r_dup (pc2 := 145) rfl rfl rfl (
      r_getI (pc2 := 148) rfl rfl (sh_T hs rfl rfl) (
      r_ic (x := 1) (pc2 := 149) rfl ic_1 rfl (
      r_iadd (pc2 := 150) rfl rfl (
      r_putI (pc2 := 153) rfl rfl (sh_T hs rfl rfl) fun g29 => (
      r_goto (t := 96) rfl (
      ih g29)))))))))))))))))))))))) (fun _ =>
      jr_leaf rfl)))))
theorem rf_ck_readTape {s : gm_S} {n m : Nat} (hs : gm_sh s n m) (d : Nat)  (g : gm_T)   : jr (eI s) (ck_readTape g ) (jm_cl jm_CD km_n (d + 5) 78 [.ref 3] (gm_h s g)) := by
  unfold ck_readTape
  exact (r_ent (cd := cd_78) (n := 1) (L0 := [some (.ref 3)]) rfl rfl rfl rfl (
      r_aload (pc2 := 1) rfl rfl rfl (
      r_ic (x := 0) (pc2 := 2) rfl ic_0 rfl (
      r_putI (pc2 := 5) rfl rfl (sh_T hs rfl rfl) fun g1 => (
      r_aload (pc2 := 6) rfl rfl rfl (
      r_ic (x := 0) (pc2 := 7) rfl ic_0 rfl (
      r_putI (pc2 := 10) rfl rfl (sh_T hs rfl rfl) fun g2 => (
      r_aload (pc2 := 11) rfl rfl rfl (
      r_ic (x := 0) (pc2 := 12) rfl ic_0 rfl (
      r_putI (pc2 := 15) rfl rfl (sh_T hs rfl rfl) fun g3 => (
      r_c1 (rl_ck_readTape_l15 hs d     fz g3  ) (fun r c h => jr_leaf h) (fun g18 c h => match c, h with | _, rfl => (
      r_aload (pc2 := 84) rfl rfl rfl (
      r_getI (pc2 := 87) rfl rfl (sh_T hs rfl rfl) (
      r_ic (x := 3) (pc2 := 88) rfl ic_3 rfl (
      jr_g fun h19 => r_cge (pc2 := 91) (t := 96) rfl h19 (rgk rfl) rfl (fun _ =>
      r_aload (pc2 := 92) rfl rfl rfl (
      r_getI (pc2 := 95) rfl rfl (sh_T hs rfl rfl) (
      r_iret rfl rfl))) (fun _ =>
      r_c1 (rl_ck_readTape_l96 hs d     fz g18  ) (fun r c h => jr_leaf h) (fun g30 c h => match c, h with | _, rfl => (
      r_aload (pc2 := 157) rfl rfl rfl (
      r_getI (pc2 := 160) rfl rfl (sh_T hs rfl rfl) (
      r_aload (pc2 := 161) rfl rfl rfl (
      r_getA (pc2 := 164) rfl rfl (sh_T hs rfl rfl) (sh_A hs rfl rfl) (
      r_getI (pc2 := 167) rfl rfl (sh_T hs rfl rfl) (
      jr_g fun h31 => r_cne (pc2 := 170) (t := 174) rfl h31.1 h31.2 rfl (fun _ =>
      r_ic (x := -1) (pc2 := 171) rfl ic_m1 rfl (
      r_goto (t := 178) rfl (
      r_iret rfl rfl))) (fun _ =>
      r_aload (pc2 := 175) rfl rfl rfl (
      r_getI (pc2 := 178) rfl rfl (sh_T hs rfl rfl) (
      r_iret rfl rfl)))))))))))))))))))))))))))
theorem rf_ck_next {s : gm_S} {n m : Nat} (hs : gm_sh s n m) (d : Nat)  (g : gm_T) (a1 : Int)  : jr (pI s g) (ck_next g a1) (jm_cl jm_CD km_n (d + 1) 83 [.ref 3, gv a1] (gm_h s g)) := by
  unfold ck_next
  exact (r_ent (cd := cd_83) (n := 2) (L0 := [some (.ref 3), some (gv a1)]) rfl rfl rfl rfl (
      r_iload (pc2 := 1) rfl rfl rfl (
      r_ic (x := 1) (pc2 := 2) rfl ic_1 rfl (
      r_iadd (pc2 := 3) rfl rfl (
      r_aload (pc2 := 4) rfl rfl rfl (
      r_getI (pc2 := 7) rfl rfl (sh_T hs rfl rfl) (
      jr_g fun h1 => r_cge (pc2 := 10) (t := 16) rfl h1.1 h1.2 rfl (fun _ =>
      r_iload (pc2 := 11) rfl rfl rfl (
      r_ic (x := 1) (pc2 := 12) rfl ic_1 rfl (
      r_iadd (pc2 := 13) rfl rfl (
      r_goto (t := 17) rfl (
      r_iret rfl rfl))))) (fun _ =>
      r_ic (x := 0) (pc2 := 17) rfl ic_0 rfl (
      r_iret rfl rfl)))))))))
theorem rf_ck_foldsBack {s : gm_S} {n m : Nat} (hs : gm_sh s n m) (d : Nat)  (g : gm_T) (a1 : Int) (a2 : Int)  : jr (pI s g) (ck_foldsBack g a1 a2) (jm_cl jm_CD km_n (d + 2) 88 [.ref 3, gv a1, gv a2] (gm_h s g)) := by
  unfold ck_foldsBack
  exact (r_ent (cd := cd_88) (n := 7) (L0 := [some (.ref 3), some (gv a1), some (gv a2), none, none, none, none]) rfl rfl rfl rfl (
      r_aload (pc2 := 1) rfl rfl rfl (
      r_getA (pc2 := 4) rfl rfl (sh_T hs rfl rfl) (sh_A hs rfl rfl) (
      r_aload (pc2 := 5) rfl rfl rfl (
      r_iload (pc2 := 6) rfl rfl rfl (
      r_callVP (pc2 := 9) (args := [.ref 3, gv a1]) (st2 := [.ref 4]) rfl rfl rfl rfl rfl rfl (rc_of (sh_T hs rfl rfl)) (rf_ck_next hs d g a1 ) fun v1 => (
      jr_g fun h2 => r_iald (len := 8) (pc2 := 10) rfl rfl (sh_T hs rfl rfl) (sh_L hs rfl rfl) rfl h2 (
      r_aload (pc2 := 11) rfl rfl rfl (
      r_getA (pc2 := 14) rfl rfl (sh_T hs rfl rfl) (sh_A hs rfl rfl) (
      r_iload (pc2 := 15) rfl rfl rfl (
      jr_g fun h3 => r_iald (len := 8) (pc2 := 16) rfl rfl (sh_T hs rfl rfl) (sh_L hs rfl rfl) rfl h3 (
      r_isub (pc2 := 17) rfl rfl (
      r_istoreL (L3 := fun v4 => [some (.ref 3), some (gv a1), some (gv a2), some (gv v4), none, none, none]) (pc2 := 18) rfl rfl (fun _ => rfl) fun v4 => (
      r_aload (pc2 := 19) rfl rfl rfl (
      r_getA (pc2 := 22) rfl rfl (sh_T hs rfl rfl) (sh_A hs rfl rfl) (
      r_aload (pc2 := 23) rfl rfl rfl (
      r_iload (pc2 := 24) rfl rfl rfl (
      r_callVP (pc2 := 27) (args := [.ref 3, gv a1]) (st2 := [.ref 5]) rfl rfl rfl rfl rfl rfl (rc_of (sh_T hs rfl rfl)) (rf_ck_next hs d g a1 ) fun v5 => (
      jr_g fun h6 => r_iald (len := 8) (pc2 := 28) rfl rfl (sh_T hs rfl rfl) (sh_L hs rfl rfl) rfl h6 (
      r_aload (pc2 := 29) rfl rfl rfl (
      r_getA (pc2 := 32) rfl rfl (sh_T hs rfl rfl) (sh_A hs rfl rfl) (
      r_iload (pc2 := 33) rfl rfl rfl (
      r_iald (len := 8) (pc2 := 34) rfl rfl (sh_T hs rfl rfl) (sh_L hs rfl rfl) rfl h3 (
      r_isub (pc2 := 35) rfl rfl (
      r_istoreL (L3 := fun v7 => [some (.ref 3), some (gv a1), some (gv a2), some (gv v4), some (gv v7), none, none]) (pc2 := 37) rfl rfl (fun _ => rfl) fun v7 => (
      r_aload (pc2 := 38) rfl rfl rfl (
      r_getA (pc2 := 41) rfl rfl (sh_T hs rfl rfl) (sh_A hs rfl rfl) (
      r_aload (pc2 := 42) rfl rfl rfl (
      r_iload (pc2 := 43) rfl rfl rfl (
      r_callVP (pc2 := 46) (args := [.ref 3, gv a2]) (st2 := [.ref 4]) rfl rfl rfl rfl rfl rfl (rc_of (sh_T hs rfl rfl)) (rf_ck_next hs d g a2 ) fun v8 => (
      jr_g fun h9 => r_iald (len := 8) (pc2 := 47) rfl rfl (sh_T hs rfl rfl) (sh_L hs rfl rfl) rfl h9 (
      r_aload (pc2 := 48) rfl rfl rfl (
      r_getA (pc2 := 51) rfl rfl (sh_T hs rfl rfl) (sh_A hs rfl rfl) (
      r_iload (pc2 := 52) rfl rfl rfl (
      jr_g fun h10 => r_iald (len := 8) (pc2 := 53) rfl rfl (sh_T hs rfl rfl) (sh_L hs rfl rfl) rfl h10 (
      r_isub (pc2 := 54) rfl rfl (
      r_istoreL (L3 := fun v11 => [some (.ref 3), some (gv a1), some (gv a2), some (gv v4), some (gv v7), some (gv v11), none]) (pc2 := 56) rfl rfl (fun _ => rfl) fun v11 => (
      r_aload (pc2 := 57) rfl rfl rfl (
      r_getA (pc2 := 60) rfl rfl (sh_T hs rfl rfl) (sh_A hs rfl rfl) (
      r_aload (pc2 := 61) rfl rfl rfl (
      r_iload (pc2 := 62) rfl rfl rfl (
      r_callVP (pc2 := 65) (args := [.ref 3, gv a2]) (st2 := [.ref 5]) rfl rfl rfl rfl rfl rfl (rc_of (sh_T hs rfl rfl)) (rf_ck_next hs d g a2 ) fun v12 => (
      jr_g fun h13 => r_iald (len := 8) (pc2 := 66) rfl rfl (sh_T hs rfl rfl) (sh_L hs rfl rfl) rfl h13 (
      r_aload (pc2 := 67) rfl rfl rfl (
      r_getA (pc2 := 70) rfl rfl (sh_T hs rfl rfl) (sh_A hs rfl rfl) (
      r_iload (pc2 := 71) rfl rfl rfl (
      r_iald (len := 8) (pc2 := 72) rfl rfl (sh_T hs rfl rfl) (sh_L hs rfl rfl) rfl h10 (
      r_isub (pc2 := 73) rfl rfl (
      r_istoreL (L3 := fun v14 => [some (.ref 3), some (gv a1), some (gv a2), some (gv v4), some (gv v7), some (gv v11), some (gv v14)]) (pc2 := 75) rfl rfl (fun _ => rfl) fun v14 => (
      r_iload (pc2 := 76) rfl rfl rfl (
      r_iload (pc2 := 78) rfl rfl rfl (
      r_imul (pc2 := 79) rfl rfl (
      r_iload (pc2 := 81) rfl rfl rfl (
      r_iload (pc2 := 83) rfl rfl rfl (
      r_imul (pc2 := 84) rfl rfl (
      r_isub (pc2 := 85) rfl rfl (
      jr_g fun h15 => r_ifne (pc2 := 88) (t := 105) rfl h15 rfl (fun _ =>
      r_iload (pc2 := 89) rfl rfl rfl (
      r_iload (pc2 := 91) rfl rfl rfl (
      r_imul (pc2 := 92) rfl rfl (
      r_iload (pc2 := 94) rfl rfl rfl (
      r_iload (pc2 := 96) rfl rfl rfl (
      r_imul (pc2 := 97) rfl rfl (
      r_iadd (pc2 := 98) rfl rfl (
      jr_g fun h16 => r_ifge (pc2 := 101) (t := 105) rfl h16 rfl (fun _ =>
      r_ic (x := 1) (pc2 := 102) rfl ic_1 rfl (
      r_goto (t := 106) rfl (
      r_zret rfl (by decide) rfl))) (fun _ =>
      r_ic (x := 0) (pc2 := 106) rfl ic_0 rfl (
      r_zret rfl (by decide) rfl)))))))))) (fun _ =>
      r_ic (x := 0) (pc2 := 106) rfl ic_0 rfl (
      r_zret rfl (by decide) rfl)))))))))))))))))))))))))))))))))))))))))))))))))))))))))))
theorem rf_ck_side {s : gm_S} {n m : Nat} (hs : gm_sh s n m) (d : Nat)  (g : gm_T) (a1 : Int) (a2 : Int)  : jr (pI s g) (ck_side g a1 a2) (jm_cl jm_CD km_n (d + 2) 90 [.ref 3, gv a1, gv a2] (gm_h s g)) := by
  unfold ck_side
  exact (r_ent (cd := cd_90) (n := 5) (L0 := [some (.ref 3), some (gv a1), some (gv a2), none, none]) rfl rfl rfl rfl (
      r_aload (pc2 := 1) rfl rfl rfl (
      r_iload (pc2 := 2) rfl rfl rfl (
      r_callVP (pc2 := 5) (args := [.ref 3, gv a1]) (st2 := []) rfl rfl rfl rfl rfl rfl (rc_of (sh_T hs rfl rfl)) (rf_ck_next hs d g a1 ) fun v1 => (
      r_istore (L2 := [some (.ref 3), some (gv a1), some (gv a2), some (gv v1), none]) (pc2 := 6) rfl rfl rfl (
      r_aload (pc2 := 7) rfl rfl rfl (
      r_getA (pc2 := 10) rfl rfl (sh_T hs rfl rfl) (sh_A hs rfl rfl) (
      r_iload (pc2 := 11) rfl rfl rfl (
      jr_g fun h2 => r_iald (len := 8) (pc2 := 12) rfl rfl (sh_T hs rfl rfl) (sh_L hs rfl rfl) rfl h2 (
      r_aload (pc2 := 13) rfl rfl rfl (
      r_getA (pc2 := 16) rfl rfl (sh_T hs rfl rfl) (sh_A hs rfl rfl) (
      r_iload (pc2 := 17) rfl rfl rfl (
      jr_g fun h3 => r_iald (len := 8) (pc2 := 18) rfl rfl (sh_T hs rfl rfl) (sh_L hs rfl rfl) rfl h3 (
      r_isub (pc2 := 19) rfl rfl (
      r_aload (pc2 := 20) rfl rfl rfl (
      r_getA (pc2 := 23) rfl rfl (sh_T hs rfl rfl) (sh_A hs rfl rfl) (
      r_iload (pc2 := 24) rfl rfl rfl (
      jr_g fun h4 => r_iald (len := 8) (pc2 := 25) rfl rfl (sh_T hs rfl rfl) (sh_L hs rfl rfl) rfl h4 (
      r_aload (pc2 := 26) rfl rfl rfl (
      r_getA (pc2 := 29) rfl rfl (sh_T hs rfl rfl) (sh_A hs rfl rfl) (
      r_iload (pc2 := 30) rfl rfl rfl (
      r_iald (len := 8) (pc2 := 31) rfl rfl (sh_T hs rfl rfl) (sh_L hs rfl rfl) rfl h3 (
      r_isub (pc2 := 32) rfl rfl (
      r_imul (pc2 := 33) rfl rfl (
      r_aload (pc2 := 34) rfl rfl rfl (
      r_getA (pc2 := 37) rfl rfl (sh_T hs rfl rfl) (sh_A hs rfl rfl) (
      r_iload (pc2 := 38) rfl rfl rfl (
      r_iald (len := 8) (pc2 := 39) rfl rfl (sh_T hs rfl rfl) (sh_L hs rfl rfl) rfl h2 (
      r_aload (pc2 := 40) rfl rfl rfl (
      r_getA (pc2 := 43) rfl rfl (sh_T hs rfl rfl) (sh_A hs rfl rfl) (
      r_iload (pc2 := 44) rfl rfl rfl (
      r_iald (len := 8) (pc2 := 45) rfl rfl (sh_T hs rfl rfl) (sh_L hs rfl rfl) rfl h3 (
      r_isub (pc2 := 46) rfl rfl (
      r_aload (pc2 := 47) rfl rfl rfl (
      r_getA (pc2 := 50) rfl rfl (sh_T hs rfl rfl) (sh_A hs rfl rfl) (
      r_iload (pc2 := 51) rfl rfl rfl (
      r_iald (len := 8) (pc2 := 52) rfl rfl (sh_T hs rfl rfl) (sh_L hs rfl rfl) rfl h4 (
      r_aload (pc2 := 53) rfl rfl rfl (
      r_getA (pc2 := 56) rfl rfl (sh_T hs rfl rfl) (sh_A hs rfl rfl) (
      r_iload (pc2 := 57) rfl rfl rfl (
      r_iald (len := 8) (pc2 := 58) rfl rfl (sh_T hs rfl rfl) (sh_L hs rfl rfl) rfl h3 (
      r_isub (pc2 := 59) rfl rfl (
      r_imul (pc2 := 60) rfl rfl (
      r_isub (pc2 := 61) rfl rfl (
      r_istoreL (L3 := fun v5 => [some (.ref 3), some (gv a1), some (gv a2), some (gv v1), some (gv v5)]) (pc2 := 63) rfl rfl (fun _ => rfl) fun v5 => (
      r_iload (pc2 := 65) rfl rfl rfl (
      r_ic (x := 0) (pc2 := 66) rfl ic_0 rfl (
      r_callSP (pc2 := 69) (args := [gv v5, gv 0]) (st2 := []) rfl rfl rfl rfl rfl rfl (rf_jd_compare hs d g v5 0 ) fun v6 => (
      r_iret rfl rfl)))))))))))))))))))))))))))))))))))))))))))))))))
theorem rf_ck_spans {s : gm_S} {n m : Nat} (hs : gm_sh s n m) (d : Nat)  (g : gm_T) (a1 : Int) (a2 : Int)  : jr (pI s g) (ck_spans g a1 a2) (jm_cl jm_CD km_n (d + 2) 91 [.ref 3, gv a1, gv a2] (gm_h s g)) := by
  unfold ck_spans
  exact (r_ent (cd := cd_91) (n := 4) (L0 := [some (.ref 3), some (gv a1), some (gv a2), none]) rfl rfl rfl rfl (
      r_aload (pc2 := 1) rfl rfl rfl (
      r_iload (pc2 := 2) rfl rfl rfl (
      r_callVP (pc2 := 5) (args := [.ref 3, gv a1]) (st2 := []) rfl rfl rfl rfl rfl rfl (rc_of (sh_T hs rfl rfl)) (rf_ck_next hs d g a1 ) fun v1 => (
      r_istore (L2 := [some (.ref 3), some (gv a1), some (gv a2), some (gv v1)]) (pc2 := 6) rfl rfl rfl (
      r_aload (pc2 := 7) rfl rfl rfl (
      r_getA (pc2 := 10) rfl rfl (sh_T hs rfl rfl) (sh_A hs rfl rfl) (
      r_iload (pc2 := 11) rfl rfl rfl (
      jr_g fun h2 => r_iald (len := 8) (pc2 := 12) rfl rfl (sh_T hs rfl rfl) (sh_L hs rfl rfl) rfl h2 (
      r_aload (pc2 := 13) rfl rfl rfl (
      r_getA (pc2 := 16) rfl rfl (sh_T hs rfl rfl) (sh_A hs rfl rfl) (
      r_iload (pc2 := 17) rfl rfl rfl (
      jr_g fun h3 => r_iald (len := 8) (pc2 := 18) rfl rfl (sh_T hs rfl rfl) (sh_L hs rfl rfl) rfl h3 (
      jr_g fun h4 => r_mmin (pc2 := 21) rfl rfl rfl h4.1 h4.2 (
      r_aload (pc2 := 22) rfl rfl rfl (
      r_getA (pc2 := 25) rfl rfl (sh_T hs rfl rfl) (sh_A hs rfl rfl) (
      r_iload (pc2 := 26) rfl rfl rfl (
      jr_g fun h5 => r_iald (len := 8) (pc2 := 27) rfl rfl (sh_T hs rfl rfl) (sh_L hs rfl rfl) rfl h5 (
      jr_g fun h6 => r_cgt (pc2 := 30) (t := 106) rfl h6.1 h6.2 rfl (fun _ =>
      r_aload (pc2 := 31) rfl rfl rfl (
      r_getA (pc2 := 34) rfl rfl (sh_T hs rfl rfl) (sh_A hs rfl rfl) (
      r_iload (pc2 := 35) rfl rfl rfl (
      r_iald (len := 8) (pc2 := 36) rfl rfl (sh_T hs rfl rfl) (sh_L hs rfl rfl) rfl h5 (
      r_aload (pc2 := 37) rfl rfl rfl (
      r_getA (pc2 := 40) rfl rfl (sh_T hs rfl rfl) (sh_A hs rfl rfl) (
      r_iload (pc2 := 41) rfl rfl rfl (
      r_iald (len := 8) (pc2 := 42) rfl rfl (sh_T hs rfl rfl) (sh_L hs rfl rfl) rfl h2 (
      r_aload (pc2 := 43) rfl rfl rfl (
      r_getA (pc2 := 46) rfl rfl (sh_T hs rfl rfl) (sh_A hs rfl rfl) (
      r_iload (pc2 := 47) rfl rfl rfl (
      r_iald (len := 8) (pc2 := 48) rfl rfl (sh_T hs rfl rfl) (sh_L hs rfl rfl) rfl h3 (
      r_mmax (pc2 := 51) rfl rfl rfl h4.1 h4.2 (
      jr_g fun h7 => r_cgt (pc2 := 54) (t := 106) rfl h6.2 h7 rfl (fun _ =>
      r_aload (pc2 := 55) rfl rfl rfl (
      r_getA (pc2 := 58) rfl rfl (sh_T hs rfl rfl) (sh_A hs rfl rfl) (
      r_iload (pc2 := 59) rfl rfl rfl (
      r_iald (len := 8) (pc2 := 60) rfl rfl (sh_T hs rfl rfl) (sh_L hs rfl rfl) rfl h2 (
      r_aload (pc2 := 61) rfl rfl rfl (
      r_getA (pc2 := 64) rfl rfl (sh_T hs rfl rfl) (sh_A hs rfl rfl) (
      r_iload (pc2 := 65) rfl rfl rfl (
      r_iald (len := 8) (pc2 := 66) rfl rfl (sh_T hs rfl rfl) (sh_L hs rfl rfl) rfl h3 (
      jr_g fun h8 => r_mmin (pc2 := 69) rfl rfl rfl h8.1 h8.2 (
      r_aload (pc2 := 70) rfl rfl rfl (
      r_getA (pc2 := 73) rfl rfl (sh_T hs rfl rfl) (sh_A hs rfl rfl) (
      r_iload (pc2 := 74) rfl rfl rfl (
      r_iald (len := 8) (pc2 := 75) rfl rfl (sh_T hs rfl rfl) (sh_L hs rfl rfl) rfl h5 (
      jr_g fun h9 => r_cgt (pc2 := 78) (t := 106) rfl h9.1 h9.2 rfl (fun _ =>
      r_aload (pc2 := 79) rfl rfl rfl (
      r_getA (pc2 := 82) rfl rfl (sh_T hs rfl rfl) (sh_A hs rfl rfl) (
      r_iload (pc2 := 83) rfl rfl rfl (
      r_iald (len := 8) (pc2 := 84) rfl rfl (sh_T hs rfl rfl) (sh_L hs rfl rfl) rfl h5 (
      r_aload (pc2 := 85) rfl rfl rfl (
      r_getA (pc2 := 88) rfl rfl (sh_T hs rfl rfl) (sh_A hs rfl rfl) (
      r_iload (pc2 := 89) rfl rfl rfl (
      r_iald (len := 8) (pc2 := 90) rfl rfl (sh_T hs rfl rfl) (sh_L hs rfl rfl) rfl h2 (
      r_aload (pc2 := 91) rfl rfl rfl (
      r_getA (pc2 := 94) rfl rfl (sh_T hs rfl rfl) (sh_A hs rfl rfl) (
      r_iload (pc2 := 95) rfl rfl rfl (
      r_iald (len := 8) (pc2 := 96) rfl rfl (sh_T hs rfl rfl) (sh_L hs rfl rfl) rfl h3 (
      r_mmax (pc2 := 99) rfl rfl rfl h8.1 h8.2 (
      jr_g fun h10 => r_cgt (pc2 := 102) (t := 106) rfl h9.2 h10 rfl (fun _ =>
      r_ic (x := 1) (pc2 := 103) rfl ic_1 rfl (
      r_goto (t := 107) rfl (
      r_zret rfl (by decide) rfl))) (fun _ =>
      r_ic (x := 0) (pc2 := 107) rfl ic_0 rfl (
      r_zret rfl (by decide) rfl)))))))))))))))) (fun _ =>
      r_ic (x := 0) (pc2 := 107) rfl ic_0 rfl (
      r_zret rfl (by decide) rfl)))))))))))))))) (fun _ =>
      r_ic (x := 0) (pc2 := 107) rfl ic_0 rfl (
      r_zret rfl (by decide) rfl)))))))))))))))) (fun _ =>
      r_ic (x := 0) (pc2 := 107) rfl ic_0 rfl (
      r_zret rfl (by decide) rfl)))))))))))))))))))))
theorem rf_ck_cross {s : gm_S} {n m : Nat} (hs : gm_sh s n m) (d : Nat)  (g : gm_T) (a1 : Int) (a2 : Int)  : jr (pI s g) (ck_cross g a1 a2) (jm_cl jm_CD km_n (d + 3) 89 [.ref 3, gv a1, gv a2] (gm_h s g)) := by
  unfold ck_cross
  exact (r_ent (cd := cd_89) (n := 7) (L0 := [some (.ref 3), some (gv a1), some (gv a2), none, none, none, none]) rfl rfl rfl rfl (
      r_aload (pc2 := 1) rfl rfl rfl (
      r_iload (pc2 := 2) rfl rfl rfl (
      r_iload (pc2 := 3) rfl rfl rfl (
      r_callVP (pc2 := 6) (args := [.ref 3, gv a1, gv a2]) (st2 := []) rfl rfl rfl rfl rfl rfl (rc_of (sh_T hs rfl rfl)) (rf_ck_side hs d g a1 a2 ) fun v1 => (
      r_istore (L2 := [some (.ref 3), some (gv a1), some (gv a2), some (gv v1), none, none, none]) (pc2 := 7) rfl rfl rfl (
      r_aload (pc2 := 8) rfl rfl rfl (
      r_iload (pc2 := 9) rfl rfl rfl (
      r_aload (pc2 := 10) rfl rfl rfl (
      r_iload (pc2 := 11) rfl rfl rfl (
      r_callVP (pc2 := 14) (args := [.ref 3, gv a2]) (st2 := [gv a1, .ref 3]) rfl rfl rfl rfl rfl rfl (rc_of (sh_T hs rfl rfl)) (rf_ck_next hs (d + 1) g a2 ) fun v2 => (
      r_callVP (pc2 := 17) (args := [.ref 3, gv a1, gv v2]) (st2 := []) rfl rfl rfl rfl rfl rfl (rc_of (sh_T hs rfl rfl)) (rf_ck_side hs d g a1 v2 ) fun v3 => (
      r_istore (L2 := [some (.ref 3), some (gv a1), some (gv a2), some (gv v1), some (gv v3), none, none]) (pc2 := 19) rfl rfl rfl (
      r_aload (pc2 := 20) rfl rfl rfl (
      r_iload (pc2 := 21) rfl rfl rfl (
      r_iload (pc2 := 22) rfl rfl rfl (
      r_callVP (pc2 := 25) (args := [.ref 3, gv a2, gv a1]) (st2 := []) rfl rfl rfl rfl rfl rfl (rc_of (sh_T hs rfl rfl)) (rf_ck_side hs d g a2 a1 ) fun v4 => (
      r_istore (L2 := [some (.ref 3), some (gv a1), some (gv a2), some (gv v1), some (gv v3), some (gv v4), none]) (pc2 := 27) rfl rfl rfl (
      r_aload (pc2 := 28) rfl rfl rfl (
      r_iload (pc2 := 29) rfl rfl rfl (
      r_aload (pc2 := 30) rfl rfl rfl (
      r_iload (pc2 := 31) rfl rfl rfl (
      r_callVP (pc2 := 34) (args := [.ref 3, gv a1]) (st2 := [gv a2, .ref 3]) rfl rfl rfl rfl rfl rfl (rc_of (sh_T hs rfl rfl)) (rf_ck_next hs (d + 1) g a1 ) fun v5 => (
      r_callVP (pc2 := 37) (args := [.ref 3, gv a2, gv v5]) (st2 := []) rfl rfl rfl rfl rfl rfl (rc_of (sh_T hs rfl rfl)) (rf_ck_side hs d g a2 v5 ) fun v6 => (
      r_istore (L2 := [some (.ref 3), some (gv a1), some (gv a2), some (gv v1), some (gv v3), some (gv v4), some (gv v6)]) (pc2 := 39) rfl rfl rfl (
      r_iload (pc2 := 40) rfl rfl rfl (
      r_iload (pc2 := 42) rfl rfl rfl (
      r_imul (pc2 := 43) rfl rfl (
      jr_g fun h7 => r_ifge (pc2 := 46) (t := 56) rfl h7 rfl (fun _ =>
      r_iload (pc2 := 48) rfl rfl rfl (
      r_iload (pc2 := 50) rfl rfl rfl (
      r_imul (pc2 := 51) rfl rfl (
      jr_g fun h8 => r_ifge (pc2 := 54) (t := 56) rfl h8 rfl (fun _ =>
      r_ic (x := 1) (pc2 := 55) rfl ic_1 rfl (
      r_zret rfl (by decide) rfl)) (fun _ =>
      r_iload (pc2 := 57) rfl rfl rfl (
      jr_g fun h9 => r_ifne (pc2 := 60) (t := 69) rfl h9 rfl (fun _ =>
      r_aload (pc2 := 61) rfl rfl rfl (
      r_iload (pc2 := 62) rfl rfl rfl (
      r_iload (pc2 := 63) rfl rfl rfl (
      r_callVP (pc2 := 66) (args := [.ref 3, gv a1, gv a2]) (st2 := []) rfl rfl rfl rfl rfl rfl (rc_of (sh_T hs rfl rfl)) (rf_ck_spans hs d g a1 a2 ) fun v10 => (
      jr_g fun h11 => r_ifne (pc2 := 69) (t := 119) rfl h11 rfl (fun _ =>
      r_iload (pc2 := 71) rfl rfl rfl (
      jr_g fun h12 => r_ifne (pc2 := 74) (t := 87) rfl h12 rfl (fun _ =>
      r_aload (pc2 := 75) rfl rfl rfl (
      r_iload (pc2 := 76) rfl rfl rfl (
      r_aload (pc2 := 77) rfl rfl rfl (
      r_iload (pc2 := 78) rfl rfl rfl (
      r_callVP (pc2 := 81) (args := [.ref 3, gv a2]) (st2 := [gv a1, .ref 3]) rfl rfl rfl rfl rfl rfl (rc_of (sh_T hs rfl rfl)) (rf_ck_next hs (d + 1) g a2 ) fun v13 => (
      r_callVP (pc2 := 84) (args := [.ref 3, gv a1, gv v13]) (st2 := []) rfl rfl rfl rfl rfl rfl (rc_of (sh_T hs rfl rfl)) (rf_ck_spans hs d g a1 v13 ) fun v14 => (
      jr_g fun h15 => r_ifne (pc2 := 87) (t := 119) rfl h15 rfl (fun _ =>
      r_iload (pc2 := 89) rfl rfl rfl (
      jr_g fun h16 => r_ifne (pc2 := 92) (t := 101) rfl h16 rfl (fun _ =>
      r_aload (pc2 := 93) rfl rfl rfl (
      r_iload (pc2 := 94) rfl rfl rfl (
      r_iload (pc2 := 95) rfl rfl rfl (
      r_callVP (pc2 := 98) (args := [.ref 3, gv a2, gv a1]) (st2 := []) rfl rfl rfl rfl rfl rfl (rc_of (sh_T hs rfl rfl)) (rf_ck_spans hs d g a2 a1 ) fun v17 => (
      jr_g fun h18 => r_ifne (pc2 := 101) (t := 119) rfl h18 rfl (fun _ =>
      r_iload (pc2 := 103) rfl rfl rfl (
      jr_g fun h19 => r_ifne (pc2 := 106) (t := 123) rfl h19 rfl (fun _ =>
      r_aload (pc2 := 107) rfl rfl rfl (
      r_iload (pc2 := 108) rfl rfl rfl (
      r_aload (pc2 := 109) rfl rfl rfl (
      r_iload (pc2 := 110) rfl rfl rfl (
      r_callVP (pc2 := 113) (args := [.ref 3, gv a1]) (st2 := [gv a2, .ref 3]) rfl rfl rfl rfl rfl rfl (rc_of (sh_T hs rfl rfl)) (rf_ck_next hs (d + 1) g a1 ) fun v20 => (
      r_callVP (pc2 := 116) (args := [.ref 3, gv a2, gv v20]) (st2 := []) rfl rfl rfl rfl rfl rfl (rc_of (sh_T hs rfl rfl)) (rf_ck_spans hs d g a2 v20 ) fun v21 => (
      jr_g fun h22 => r_ifeq (pc2 := 119) (t := 123) rfl h22 rfl (fun _ =>
      r_ic (x := 0) (pc2 := 124) rfl ic_0 rfl (
      r_zret rfl (by decide) rfl)) (fun _ =>
      r_ic (x := 1) (pc2 := 120) rfl ic_1 rfl (
      r_goto (t := 124) rfl (
      r_zret rfl (by decide) rfl)))))))))) (fun _ =>
      r_ic (x := 0) (pc2 := 124) rfl ic_0 rfl (
      r_zret rfl (by decide) rfl)))) (fun _ =>
      r_ic (x := 1) (pc2 := 120) rfl ic_1 rfl (
      r_goto (t := 124) rfl (
      r_zret rfl (by decide) rfl)))))))) (fun _ =>
      r_iload (pc2 := 103) rfl rfl rfl (
      jr_g fun h23 => r_ifne (pc2 := 106) (t := 123) rfl h23 rfl (fun _ =>
      r_aload (pc2 := 107) rfl rfl rfl (
      r_iload (pc2 := 108) rfl rfl rfl (
      r_aload (pc2 := 109) rfl rfl rfl (
      r_iload (pc2 := 110) rfl rfl rfl (
      r_callVP (pc2 := 113) (args := [.ref 3, gv a1]) (st2 := [gv a2, .ref 3]) rfl rfl rfl rfl rfl rfl (rc_of (sh_T hs rfl rfl)) (rf_ck_next hs (d + 1) g a1 ) fun v24 => (
      r_callVP (pc2 := 116) (args := [.ref 3, gv a2, gv v24]) (st2 := []) rfl rfl rfl rfl rfl rfl (rc_of (sh_T hs rfl rfl)) (rf_ck_spans hs d g a2 v24 ) fun v25 => (
      jr_g fun h26 => r_ifeq (pc2 := 119) (t := 123) rfl h26 rfl (fun _ =>
      r_ic (x := 0) (pc2 := 124) rfl ic_0 rfl (
      r_zret rfl (by decide) rfl)) (fun _ =>
      r_ic (x := 1) (pc2 := 120) rfl ic_1 rfl (
      r_goto (t := 124) rfl (
      r_zret rfl (by decide) rfl)))))))))) (fun _ =>
      r_ic (x := 0) (pc2 := 124) rfl ic_0 rfl (
      r_zret rfl (by decide) rfl)))))) (fun _ =>
      r_ic (x := 1) (pc2 := 120) rfl ic_1 rfl (
      r_goto (t := 124) rfl (
      r_zret rfl (by decide) rfl)))))))))) (fun _ =>
      r_iload (pc2 := 89) rfl rfl rfl (
      jr_g fun h27 => r_ifne (pc2 := 92) (t := 101) rfl h27 rfl (fun _ =>
      r_aload (pc2 := 93) rfl rfl rfl (
      r_iload (pc2 := 94) rfl rfl rfl (
      r_iload (pc2 := 95) rfl rfl rfl (
      r_callVP (pc2 := 98) (args := [.ref 3, gv a2, gv a1]) (st2 := []) rfl rfl rfl rfl rfl rfl (rc_of (sh_T hs rfl rfl)) (rf_ck_spans hs d g a2 a1 ) fun v28 => (
      jr_g fun h29 => r_ifne (pc2 := 101) (t := 119) rfl h29 rfl (fun _ =>
      r_iload (pc2 := 103) rfl rfl rfl (
      jr_g fun h30 => r_ifne (pc2 := 106) (t := 123) rfl h30 rfl (fun _ =>
      r_aload (pc2 := 107) rfl rfl rfl (
      r_iload (pc2 := 108) rfl rfl rfl (
      r_aload (pc2 := 109) rfl rfl rfl (
      r_iload (pc2 := 110) rfl rfl rfl (
      r_callVP (pc2 := 113) (args := [.ref 3, gv a1]) (st2 := [gv a2, .ref 3]) rfl rfl rfl rfl rfl rfl (rc_of (sh_T hs rfl rfl)) (rf_ck_next hs (d + 1) g a1 ) fun v31 => (
      r_callVP (pc2 := 116) (args := [.ref 3, gv a2, gv v31]) (st2 := []) rfl rfl rfl rfl rfl rfl (rc_of (sh_T hs rfl rfl)) (rf_ck_spans hs d g a2 v31 ) fun v32 => (
      jr_g fun h33 => r_ifeq (pc2 := 119) (t := 123) rfl h33 rfl (fun _ =>
      r_ic (x := 0) (pc2 := 124) rfl ic_0 rfl (
      r_zret rfl (by decide) rfl)) (fun _ =>
      r_ic (x := 1) (pc2 := 120) rfl ic_1 rfl (
      r_goto (t := 124) rfl (
      r_zret rfl (by decide) rfl)))))))))) (fun _ =>
      r_ic (x := 0) (pc2 := 124) rfl ic_0 rfl (
      r_zret rfl (by decide) rfl)))) (fun _ =>
      r_ic (x := 1) (pc2 := 120) rfl ic_1 rfl (
      r_goto (t := 124) rfl (
      r_zret rfl (by decide) rfl)))))))) (fun _ =>
      r_iload (pc2 := 103) rfl rfl rfl (
      jr_g fun h34 => r_ifne (pc2 := 106) (t := 123) rfl h34 rfl (fun _ =>
      r_aload (pc2 := 107) rfl rfl rfl (
      r_iload (pc2 := 108) rfl rfl rfl (
      r_aload (pc2 := 109) rfl rfl rfl (
      r_iload (pc2 := 110) rfl rfl rfl (
      r_callVP (pc2 := 113) (args := [.ref 3, gv a1]) (st2 := [gv a2, .ref 3]) rfl rfl rfl rfl rfl rfl (rc_of (sh_T hs rfl rfl)) (rf_ck_next hs (d + 1) g a1 ) fun v35 => (
      r_callVP (pc2 := 116) (args := [.ref 3, gv a2, gv v35]) (st2 := []) rfl rfl rfl rfl rfl rfl (rc_of (sh_T hs rfl rfl)) (rf_ck_spans hs d g a2 v35 ) fun v36 => (
      jr_g fun h37 => r_ifeq (pc2 := 119) (t := 123) rfl h37 rfl (fun _ =>
      r_ic (x := 0) (pc2 := 124) rfl ic_0 rfl (
      r_zret rfl (by decide) rfl)) (fun _ =>
      r_ic (x := 1) (pc2 := 120) rfl ic_1 rfl (
      r_goto (t := 124) rfl (
      r_zret rfl (by decide) rfl)))))))))) (fun _ =>
      r_ic (x := 0) (pc2 := 124) rfl ic_0 rfl (
      r_zret rfl (by decide) rfl)))))))) (fun _ =>
      r_ic (x := 1) (pc2 := 120) rfl ic_1 rfl (
      r_goto (t := 124) rfl (
      r_zret rfl (by decide) rfl)))))))) (fun _ =>
      r_iload (pc2 := 71) rfl rfl rfl (
      jr_g fun h38 => r_ifne (pc2 := 74) (t := 87) rfl h38 rfl (fun _ =>
      r_aload (pc2 := 75) rfl rfl rfl (
      r_iload (pc2 := 76) rfl rfl rfl (
      r_aload (pc2 := 77) rfl rfl rfl (
      r_iload (pc2 := 78) rfl rfl rfl (
      r_callVP (pc2 := 81) (args := [.ref 3, gv a2]) (st2 := [gv a1, .ref 3]) rfl rfl rfl rfl rfl rfl (rc_of (sh_T hs rfl rfl)) (rf_ck_next hs (d + 1) g a2 ) fun v39 => (
      r_callVP (pc2 := 84) (args := [.ref 3, gv a1, gv v39]) (st2 := []) rfl rfl rfl rfl rfl rfl (rc_of (sh_T hs rfl rfl)) (rf_ck_spans hs d g a1 v39 ) fun v40 => (
      jr_g fun h41 => r_ifne (pc2 := 87) (t := 119) rfl h41 rfl (fun _ =>
      r_iload (pc2 := 89) rfl rfl rfl (
      jr_g fun h42 => r_ifne (pc2 := 92) (t := 101) rfl h42 rfl (fun _ =>
      r_aload (pc2 := 93) rfl rfl rfl (
      r_iload (pc2 := 94) rfl rfl rfl (
      r_iload (pc2 := 95) rfl rfl rfl (
      r_callVP (pc2 := 98) (args := [.ref 3, gv a2, gv a1]) (st2 := []) rfl rfl rfl rfl rfl rfl (rc_of (sh_T hs rfl rfl)) (rf_ck_spans hs d g a2 a1 ) fun v43 => (
      jr_g fun h44 => r_ifne (pc2 := 101) (t := 119) rfl h44 rfl (fun _ =>
      r_iload (pc2 := 103) rfl rfl rfl (
      jr_g fun h45 => r_ifne (pc2 := 106) (t := 123) rfl h45 rfl (fun _ =>
      r_aload (pc2 := 107) rfl rfl rfl (
      r_iload (pc2 := 108) rfl rfl rfl (
      r_aload (pc2 := 109) rfl rfl rfl (
      r_iload (pc2 := 110) rfl rfl rfl (
      r_callVP (pc2 := 113) (args := [.ref 3, gv a1]) (st2 := [gv a2, .ref 3]) rfl rfl rfl rfl rfl rfl (rc_of (sh_T hs rfl rfl)) (rf_ck_next hs (d + 1) g a1 ) fun v46 => (
      r_callVP (pc2 := 116) (args := [.ref 3, gv a2, gv v46]) (st2 := []) rfl rfl rfl rfl rfl rfl (rc_of (sh_T hs rfl rfl)) (rf_ck_spans hs d g a2 v46 ) fun v47 => (
      jr_g fun h48 => r_ifeq (pc2 := 119) (t := 123) rfl h48 rfl (fun _ =>
      r_ic (x := 0) (pc2 := 124) rfl ic_0 rfl (
      r_zret rfl (by decide) rfl)) (fun _ =>
      r_ic (x := 1) (pc2 := 120) rfl ic_1 rfl (
      r_goto (t := 124) rfl (
      r_zret rfl (by decide) rfl)))))))))) (fun _ =>
      r_ic (x := 0) (pc2 := 124) rfl ic_0 rfl (
      r_zret rfl (by decide) rfl)))) (fun _ =>
      r_ic (x := 1) (pc2 := 120) rfl ic_1 rfl (
      r_goto (t := 124) rfl (
      r_zret rfl (by decide) rfl)))))))) (fun _ =>
      r_iload (pc2 := 103) rfl rfl rfl (
      jr_g fun h49 => r_ifne (pc2 := 106) (t := 123) rfl h49 rfl (fun _ =>
      r_aload (pc2 := 107) rfl rfl rfl (
      r_iload (pc2 := 108) rfl rfl rfl (
      r_aload (pc2 := 109) rfl rfl rfl (
      r_iload (pc2 := 110) rfl rfl rfl (
      r_callVP (pc2 := 113) (args := [.ref 3, gv a1]) (st2 := [gv a2, .ref 3]) rfl rfl rfl rfl rfl rfl (rc_of (sh_T hs rfl rfl)) (rf_ck_next hs (d + 1) g a1 ) fun v50 => (
      r_callVP (pc2 := 116) (args := [.ref 3, gv a2, gv v50]) (st2 := []) rfl rfl rfl rfl rfl rfl (rc_of (sh_T hs rfl rfl)) (rf_ck_spans hs d g a2 v50 ) fun v51 => (
      jr_g fun h52 => r_ifeq (pc2 := 119) (t := 123) rfl h52 rfl (fun _ =>
      r_ic (x := 0) (pc2 := 124) rfl ic_0 rfl (
      r_zret rfl (by decide) rfl)) (fun _ =>
      r_ic (x := 1) (pc2 := 120) rfl ic_1 rfl (
      r_goto (t := 124) rfl (
      r_zret rfl (by decide) rfl)))))))))) (fun _ =>
      r_ic (x := 0) (pc2 := 124) rfl ic_0 rfl (
      r_zret rfl (by decide) rfl)))))) (fun _ =>
      r_ic (x := 1) (pc2 := 120) rfl ic_1 rfl (
      r_goto (t := 124) rfl (
      r_zret rfl (by decide) rfl)))))))))) (fun _ =>
      r_iload (pc2 := 89) rfl rfl rfl (
      jr_g fun h53 => r_ifne (pc2 := 92) (t := 101) rfl h53 rfl (fun _ =>
      r_aload (pc2 := 93) rfl rfl rfl (
      r_iload (pc2 := 94) rfl rfl rfl (
      r_iload (pc2 := 95) rfl rfl rfl (
      r_callVP (pc2 := 98) (args := [.ref 3, gv a2, gv a1]) (st2 := []) rfl rfl rfl rfl rfl rfl (rc_of (sh_T hs rfl rfl)) (rf_ck_spans hs d g a2 a1 ) fun v54 => (
      jr_g fun h55 => r_ifne (pc2 := 101) (t := 119) rfl h55 rfl (fun _ =>
      r_iload (pc2 := 103) rfl rfl rfl (
      jr_g fun h56 => r_ifne (pc2 := 106) (t := 123) rfl h56 rfl (fun _ =>
      r_aload (pc2 := 107) rfl rfl rfl (
      r_iload (pc2 := 108) rfl rfl rfl (
      r_aload (pc2 := 109) rfl rfl rfl (
      r_iload (pc2 := 110) rfl rfl rfl (
      r_callVP (pc2 := 113) (args := [.ref 3, gv a1]) (st2 := [gv a2, .ref 3]) rfl rfl rfl rfl rfl rfl (rc_of (sh_T hs rfl rfl)) (rf_ck_next hs (d + 1) g a1 ) fun v57 => (
      r_callVP (pc2 := 116) (args := [.ref 3, gv a2, gv v57]) (st2 := []) rfl rfl rfl rfl rfl rfl (rc_of (sh_T hs rfl rfl)) (rf_ck_spans hs d g a2 v57 ) fun v58 => (
      jr_g fun h59 => r_ifeq (pc2 := 119) (t := 123) rfl h59 rfl (fun _ =>
      r_ic (x := 0) (pc2 := 124) rfl ic_0 rfl (
      r_zret rfl (by decide) rfl)) (fun _ =>
      r_ic (x := 1) (pc2 := 120) rfl ic_1 rfl (
      r_goto (t := 124) rfl (
      r_zret rfl (by decide) rfl)))))))))) (fun _ =>
      r_ic (x := 0) (pc2 := 124) rfl ic_0 rfl (
      r_zret rfl (by decide) rfl)))) (fun _ =>
      r_ic (x := 1) (pc2 := 120) rfl ic_1 rfl (
      r_goto (t := 124) rfl (
      r_zret rfl (by decide) rfl)))))))) (fun _ =>
      r_iload (pc2 := 103) rfl rfl rfl (
      jr_g fun h60 => r_ifne (pc2 := 106) (t := 123) rfl h60 rfl (fun _ =>
      r_aload (pc2 := 107) rfl rfl rfl (
      r_iload (pc2 := 108) rfl rfl rfl (
      r_aload (pc2 := 109) rfl rfl rfl (
      r_iload (pc2 := 110) rfl rfl rfl (
      r_callVP (pc2 := 113) (args := [.ref 3, gv a1]) (st2 := [gv a2, .ref 3]) rfl rfl rfl rfl rfl rfl (rc_of (sh_T hs rfl rfl)) (rf_ck_next hs (d + 1) g a1 ) fun v61 => (
      r_callVP (pc2 := 116) (args := [.ref 3, gv a2, gv v61]) (st2 := []) rfl rfl rfl rfl rfl rfl (rc_of (sh_T hs rfl rfl)) (rf_ck_spans hs d g a2 v61 ) fun v62 => (
      jr_g fun h63 => r_ifeq (pc2 := 119) (t := 123) rfl h63 rfl (fun _ =>
      r_ic (x := 0) (pc2 := 124) rfl ic_0 rfl (
      r_zret rfl (by decide) rfl)) (fun _ =>
      r_ic (x := 1) (pc2 := 120) rfl ic_1 rfl (
      r_goto (t := 124) rfl (
      r_zret rfl (by decide) rfl)))))))))) (fun _ =>
      r_ic (x := 0) (pc2 := 124) rfl ic_0 rfl (
      r_zret rfl (by decide) rfl)))))))))))))) (fun _ =>
      r_iload (pc2 := 57) rfl rfl rfl (
      jr_g fun h64 => r_ifne (pc2 := 60) (t := 69) rfl h64 rfl (fun _ =>
      r_aload (pc2 := 61) rfl rfl rfl (
      r_iload (pc2 := 62) rfl rfl rfl (
      r_iload (pc2 := 63) rfl rfl rfl (
      r_callVP (pc2 := 66) (args := [.ref 3, gv a1, gv a2]) (st2 := []) rfl rfl rfl rfl rfl rfl (rc_of (sh_T hs rfl rfl)) (rf_ck_spans hs d g a1 a2 ) fun v65 => (
      jr_g fun h66 => r_ifne (pc2 := 69) (t := 119) rfl h66 rfl (fun _ =>
      r_iload (pc2 := 71) rfl rfl rfl (
      jr_g fun h67 => r_ifne (pc2 := 74) (t := 87) rfl h67 rfl (fun _ =>
      r_aload (pc2 := 75) rfl rfl rfl (
      r_iload (pc2 := 76) rfl rfl rfl (
      r_aload (pc2 := 77) rfl rfl rfl (
      r_iload (pc2 := 78) rfl rfl rfl (
      r_callVP (pc2 := 81) (args := [.ref 3, gv a2]) (st2 := [gv a1, .ref 3]) rfl rfl rfl rfl rfl rfl (rc_of (sh_T hs rfl rfl)) (rf_ck_next hs (d + 1) g a2 ) fun v68 => (
      r_callVP (pc2 := 84) (args := [.ref 3, gv a1, gv v68]) (st2 := []) rfl rfl rfl rfl rfl rfl (rc_of (sh_T hs rfl rfl)) (rf_ck_spans hs d g a1 v68 ) fun v69 => (
      jr_g fun h70 => r_ifne (pc2 := 87) (t := 119) rfl h70 rfl (fun _ =>
      r_iload (pc2 := 89) rfl rfl rfl (
      jr_g fun h71 => r_ifne (pc2 := 92) (t := 101) rfl h71 rfl (fun _ =>
      r_aload (pc2 := 93) rfl rfl rfl (
      r_iload (pc2 := 94) rfl rfl rfl (
      r_iload (pc2 := 95) rfl rfl rfl (
      r_callVP (pc2 := 98) (args := [.ref 3, gv a2, gv a1]) (st2 := []) rfl rfl rfl rfl rfl rfl (rc_of (sh_T hs rfl rfl)) (rf_ck_spans hs d g a2 a1 ) fun v72 => (
      jr_g fun h73 => r_ifne (pc2 := 101) (t := 119) rfl h73 rfl (fun _ =>
      r_iload (pc2 := 103) rfl rfl rfl (
      jr_g fun h74 => r_ifne (pc2 := 106) (t := 123) rfl h74 rfl (fun _ =>
      r_aload (pc2 := 107) rfl rfl rfl (
      r_iload (pc2 := 108) rfl rfl rfl (
      r_aload (pc2 := 109) rfl rfl rfl (
      r_iload (pc2 := 110) rfl rfl rfl (
      r_callVP (pc2 := 113) (args := [.ref 3, gv a1]) (st2 := [gv a2, .ref 3]) rfl rfl rfl rfl rfl rfl (rc_of (sh_T hs rfl rfl)) (rf_ck_next hs (d + 1) g a1 ) fun v75 => (
      r_callVP (pc2 := 116) (args := [.ref 3, gv a2, gv v75]) (st2 := []) rfl rfl rfl rfl rfl rfl (rc_of (sh_T hs rfl rfl)) (rf_ck_spans hs d g a2 v75 ) fun v76 => (
      jr_g fun h77 => r_ifeq (pc2 := 119) (t := 123) rfl h77 rfl (fun _ =>
      r_ic (x := 0) (pc2 := 124) rfl ic_0 rfl (
      r_zret rfl (by decide) rfl)) (fun _ =>
      r_ic (x := 1) (pc2 := 120) rfl ic_1 rfl (
      r_goto (t := 124) rfl (
      r_zret rfl (by decide) rfl)))))))))) (fun _ =>
      r_ic (x := 0) (pc2 := 124) rfl ic_0 rfl (
      r_zret rfl (by decide) rfl)))) (fun _ =>
      r_ic (x := 1) (pc2 := 120) rfl ic_1 rfl (
      r_goto (t := 124) rfl (
      r_zret rfl (by decide) rfl)))))))) (fun _ =>
      r_iload (pc2 := 103) rfl rfl rfl (
      jr_g fun h78 => r_ifne (pc2 := 106) (t := 123) rfl h78 rfl (fun _ =>
      r_aload (pc2 := 107) rfl rfl rfl (
      r_iload (pc2 := 108) rfl rfl rfl (
      r_aload (pc2 := 109) rfl rfl rfl (
      r_iload (pc2 := 110) rfl rfl rfl (
      r_callVP (pc2 := 113) (args := [.ref 3, gv a1]) (st2 := [gv a2, .ref 3]) rfl rfl rfl rfl rfl rfl (rc_of (sh_T hs rfl rfl)) (rf_ck_next hs (d + 1) g a1 ) fun v79 => (
      r_callVP (pc2 := 116) (args := [.ref 3, gv a2, gv v79]) (st2 := []) rfl rfl rfl rfl rfl rfl (rc_of (sh_T hs rfl rfl)) (rf_ck_spans hs d g a2 v79 ) fun v80 => (
      jr_g fun h81 => r_ifeq (pc2 := 119) (t := 123) rfl h81 rfl (fun _ =>
      r_ic (x := 0) (pc2 := 124) rfl ic_0 rfl (
      r_zret rfl (by decide) rfl)) (fun _ =>
      r_ic (x := 1) (pc2 := 120) rfl ic_1 rfl (
      r_goto (t := 124) rfl (
      r_zret rfl (by decide) rfl)))))))))) (fun _ =>
      r_ic (x := 0) (pc2 := 124) rfl ic_0 rfl (
      r_zret rfl (by decide) rfl)))))) (fun _ =>
      r_ic (x := 1) (pc2 := 120) rfl ic_1 rfl (
      r_goto (t := 124) rfl (
      r_zret rfl (by decide) rfl)))))))))) (fun _ =>
      r_iload (pc2 := 89) rfl rfl rfl (
      jr_g fun h82 => r_ifne (pc2 := 92) (t := 101) rfl h82 rfl (fun _ =>
      r_aload (pc2 := 93) rfl rfl rfl (
      r_iload (pc2 := 94) rfl rfl rfl (
      r_iload (pc2 := 95) rfl rfl rfl (
      r_callVP (pc2 := 98) (args := [.ref 3, gv a2, gv a1]) (st2 := []) rfl rfl rfl rfl rfl rfl (rc_of (sh_T hs rfl rfl)) (rf_ck_spans hs d g a2 a1 ) fun v83 => (
      jr_g fun h84 => r_ifne (pc2 := 101) (t := 119) rfl h84 rfl (fun _ =>
      r_iload (pc2 := 103) rfl rfl rfl (
      jr_g fun h85 => r_ifne (pc2 := 106) (t := 123) rfl h85 rfl (fun _ =>
      r_aload (pc2 := 107) rfl rfl rfl (
      r_iload (pc2 := 108) rfl rfl rfl (
      r_aload (pc2 := 109) rfl rfl rfl (
      r_iload (pc2 := 110) rfl rfl rfl (
      r_callVP (pc2 := 113) (args := [.ref 3, gv a1]) (st2 := [gv a2, .ref 3]) rfl rfl rfl rfl rfl rfl (rc_of (sh_T hs rfl rfl)) (rf_ck_next hs (d + 1) g a1 ) fun v86 => (
      r_callVP (pc2 := 116) (args := [.ref 3, gv a2, gv v86]) (st2 := []) rfl rfl rfl rfl rfl rfl (rc_of (sh_T hs rfl rfl)) (rf_ck_spans hs d g a2 v86 ) fun v87 => (
      jr_g fun h88 => r_ifeq (pc2 := 119) (t := 123) rfl h88 rfl (fun _ =>
      r_ic (x := 0) (pc2 := 124) rfl ic_0 rfl (
      r_zret rfl (by decide) rfl)) (fun _ =>
      r_ic (x := 1) (pc2 := 120) rfl ic_1 rfl (
      r_goto (t := 124) rfl (
      r_zret rfl (by decide) rfl)))))))))) (fun _ =>
      r_ic (x := 0) (pc2 := 124) rfl ic_0 rfl (
      r_zret rfl (by decide) rfl)))) (fun _ =>
      r_ic (x := 1) (pc2 := 120) rfl ic_1 rfl (
      r_goto (t := 124) rfl (
      r_zret rfl (by decide) rfl)))))))) (fun _ =>
      r_iload (pc2 := 103) rfl rfl rfl (
      jr_g fun h89 => r_ifne (pc2 := 106) (t := 123) rfl h89 rfl (fun _ =>
      r_aload (pc2 := 107) rfl rfl rfl (
      r_iload (pc2 := 108) rfl rfl rfl (
      r_aload (pc2 := 109) rfl rfl rfl (
      r_iload (pc2 := 110) rfl rfl rfl (
      r_callVP (pc2 := 113) (args := [.ref 3, gv a1]) (st2 := [gv a2, .ref 3]) rfl rfl rfl rfl rfl rfl (rc_of (sh_T hs rfl rfl)) (rf_ck_next hs (d + 1) g a1 ) fun v90 => (
      r_callVP (pc2 := 116) (args := [.ref 3, gv a2, gv v90]) (st2 := []) rfl rfl rfl rfl rfl rfl (rc_of (sh_T hs rfl rfl)) (rf_ck_spans hs d g a2 v90 ) fun v91 => (
      jr_g fun h92 => r_ifeq (pc2 := 119) (t := 123) rfl h92 rfl (fun _ =>
      r_ic (x := 0) (pc2 := 124) rfl ic_0 rfl (
      r_zret rfl (by decide) rfl)) (fun _ =>
      r_ic (x := 1) (pc2 := 120) rfl ic_1 rfl (
      r_goto (t := 124) rfl (
      r_zret rfl (by decide) rfl)))))))))) (fun _ =>
      r_ic (x := 0) (pc2 := 124) rfl ic_0 rfl (
      r_zret rfl (by decide) rfl)))))))) (fun _ =>
      r_ic (x := 1) (pc2 := 120) rfl ic_1 rfl (
      r_goto (t := 124) rfl (
      r_zret rfl (by decide) rfl)))))))) (fun _ =>
      r_iload (pc2 := 71) rfl rfl rfl (
      jr_g fun h93 => r_ifne (pc2 := 74) (t := 87) rfl h93 rfl (fun _ =>
      r_aload (pc2 := 75) rfl rfl rfl (
      r_iload (pc2 := 76) rfl rfl rfl (
      r_aload (pc2 := 77) rfl rfl rfl (
      r_iload (pc2 := 78) rfl rfl rfl (
      r_callVP (pc2 := 81) (args := [.ref 3, gv a2]) (st2 := [gv a1, .ref 3]) rfl rfl rfl rfl rfl rfl (rc_of (sh_T hs rfl rfl)) (rf_ck_next hs (d + 1) g a2 ) fun v94 => (
      r_callVP (pc2 := 84) (args := [.ref 3, gv a1, gv v94]) (st2 := []) rfl rfl rfl rfl rfl rfl (rc_of (sh_T hs rfl rfl)) (rf_ck_spans hs d g a1 v94 ) fun v95 => (
      jr_g fun h96 => r_ifne (pc2 := 87) (t := 119) rfl h96 rfl (fun _ =>
      r_iload (pc2 := 89) rfl rfl rfl (
      jr_g fun h97 => r_ifne (pc2 := 92) (t := 101) rfl h97 rfl (fun _ =>
      r_aload (pc2 := 93) rfl rfl rfl (
      r_iload (pc2 := 94) rfl rfl rfl (
      r_iload (pc2 := 95) rfl rfl rfl (
      r_callVP (pc2 := 98) (args := [.ref 3, gv a2, gv a1]) (st2 := []) rfl rfl rfl rfl rfl rfl (rc_of (sh_T hs rfl rfl)) (rf_ck_spans hs d g a2 a1 ) fun v98 => (
      jr_g fun h99 => r_ifne (pc2 := 101) (t := 119) rfl h99 rfl (fun _ =>
      r_iload (pc2 := 103) rfl rfl rfl (
      jr_g fun h100 => r_ifne (pc2 := 106) (t := 123) rfl h100 rfl (fun _ =>
      r_aload (pc2 := 107) rfl rfl rfl (
      r_iload (pc2 := 108) rfl rfl rfl (
      r_aload (pc2 := 109) rfl rfl rfl (
      r_iload (pc2 := 110) rfl rfl rfl (
      r_callVP (pc2 := 113) (args := [.ref 3, gv a1]) (st2 := [gv a2, .ref 3]) rfl rfl rfl rfl rfl rfl (rc_of (sh_T hs rfl rfl)) (rf_ck_next hs (d + 1) g a1 ) fun v101 => (
      r_callVP (pc2 := 116) (args := [.ref 3, gv a2, gv v101]) (st2 := []) rfl rfl rfl rfl rfl rfl (rc_of (sh_T hs rfl rfl)) (rf_ck_spans hs d g a2 v101 ) fun v102 => (
      jr_g fun h103 => r_ifeq (pc2 := 119) (t := 123) rfl h103 rfl (fun _ =>
      r_ic (x := 0) (pc2 := 124) rfl ic_0 rfl (
      r_zret rfl (by decide) rfl)) (fun _ =>
      r_ic (x := 1) (pc2 := 120) rfl ic_1 rfl (
      r_goto (t := 124) rfl (
      r_zret rfl (by decide) rfl)))))))))) (fun _ =>
      r_ic (x := 0) (pc2 := 124) rfl ic_0 rfl (
      r_zret rfl (by decide) rfl)))) (fun _ =>
      r_ic (x := 1) (pc2 := 120) rfl ic_1 rfl (
      r_goto (t := 124) rfl (
      r_zret rfl (by decide) rfl)))))))) (fun _ =>
      r_iload (pc2 := 103) rfl rfl rfl (
      jr_g fun h104 => r_ifne (pc2 := 106) (t := 123) rfl h104 rfl (fun _ =>
      r_aload (pc2 := 107) rfl rfl rfl (
      r_iload (pc2 := 108) rfl rfl rfl (
      r_aload (pc2 := 109) rfl rfl rfl (
      r_iload (pc2 := 110) rfl rfl rfl (
      r_callVP (pc2 := 113) (args := [.ref 3, gv a1]) (st2 := [gv a2, .ref 3]) rfl rfl rfl rfl rfl rfl (rc_of (sh_T hs rfl rfl)) (rf_ck_next hs (d + 1) g a1 ) fun v105 => (
      r_callVP (pc2 := 116) (args := [.ref 3, gv a2, gv v105]) (st2 := []) rfl rfl rfl rfl rfl rfl (rc_of (sh_T hs rfl rfl)) (rf_ck_spans hs d g a2 v105 ) fun v106 => (
      jr_g fun h107 => r_ifeq (pc2 := 119) (t := 123) rfl h107 rfl (fun _ =>
      r_ic (x := 0) (pc2 := 124) rfl ic_0 rfl (
      r_zret rfl (by decide) rfl)) (fun _ =>
      r_ic (x := 1) (pc2 := 120) rfl ic_1 rfl (
      r_goto (t := 124) rfl (
      r_zret rfl (by decide) rfl)))))))))) (fun _ =>
      r_ic (x := 0) (pc2 := 124) rfl ic_0 rfl (
      r_zret rfl (by decide) rfl)))))) (fun _ =>
      r_ic (x := 1) (pc2 := 120) rfl ic_1 rfl (
      r_goto (t := 124) rfl (
      r_zret rfl (by decide) rfl)))))))))) (fun _ =>
      r_iload (pc2 := 89) rfl rfl rfl (
      jr_g fun h108 => r_ifne (pc2 := 92) (t := 101) rfl h108 rfl (fun _ =>
      r_aload (pc2 := 93) rfl rfl rfl (
      r_iload (pc2 := 94) rfl rfl rfl (
      r_iload (pc2 := 95) rfl rfl rfl (
      r_callVP (pc2 := 98) (args := [.ref 3, gv a2, gv a1]) (st2 := []) rfl rfl rfl rfl rfl rfl (rc_of (sh_T hs rfl rfl)) (rf_ck_spans hs d g a2 a1 ) fun v109 => (
      jr_g fun h110 => r_ifne (pc2 := 101) (t := 119) rfl h110 rfl (fun _ =>
      r_iload (pc2 := 103) rfl rfl rfl (
      jr_g fun h111 => r_ifne (pc2 := 106) (t := 123) rfl h111 rfl (fun _ =>
      r_aload (pc2 := 107) rfl rfl rfl (
      r_iload (pc2 := 108) rfl rfl rfl (
      r_aload (pc2 := 109) rfl rfl rfl (
      r_iload (pc2 := 110) rfl rfl rfl (
      r_callVP (pc2 := 113) (args := [.ref 3, gv a1]) (st2 := [gv a2, .ref 3]) rfl rfl rfl rfl rfl rfl (rc_of (sh_T hs rfl rfl)) (rf_ck_next hs (d + 1) g a1 ) fun v112 => (
      r_callVP (pc2 := 116) (args := [.ref 3, gv a2, gv v112]) (st2 := []) rfl rfl rfl rfl rfl rfl (rc_of (sh_T hs rfl rfl)) (rf_ck_spans hs d g a2 v112 ) fun v113 => (
      jr_g fun h114 => r_ifeq (pc2 := 119) (t := 123) rfl h114 rfl (fun _ =>
      r_ic (x := 0) (pc2 := 124) rfl ic_0 rfl (
      r_zret rfl (by decide) rfl)) (fun _ =>
      r_ic (x := 1) (pc2 := 120) rfl ic_1 rfl (
      r_goto (t := 124) rfl (
      r_zret rfl (by decide) rfl)))))))))) (fun _ =>
      r_ic (x := 0) (pc2 := 124) rfl ic_0 rfl (
      r_zret rfl (by decide) rfl)))) (fun _ =>
      r_ic (x := 1) (pc2 := 120) rfl ic_1 rfl (
      r_goto (t := 124) rfl (
      r_zret rfl (by decide) rfl)))))))) (fun _ =>
      r_iload (pc2 := 103) rfl rfl rfl (
      jr_g fun h115 => r_ifne (pc2 := 106) (t := 123) rfl h115 rfl (fun _ =>
      r_aload (pc2 := 107) rfl rfl rfl (
      r_iload (pc2 := 108) rfl rfl rfl (
      r_aload (pc2 := 109) rfl rfl rfl (
      r_iload (pc2 := 110) rfl rfl rfl (
      r_callVP (pc2 := 113) (args := [.ref 3, gv a1]) (st2 := [gv a2, .ref 3]) rfl rfl rfl rfl rfl rfl (rc_of (sh_T hs rfl rfl)) (rf_ck_next hs (d + 1) g a1 ) fun v116 => (
      r_callVP (pc2 := 116) (args := [.ref 3, gv a2, gv v116]) (st2 := []) rfl rfl rfl rfl rfl rfl (rc_of (sh_T hs rfl rfl)) (rf_ck_spans hs d g a2 v116 ) fun v117 => (
      jr_g fun h118 => r_ifeq (pc2 := 119) (t := 123) rfl h118 rfl (fun _ =>
      r_ic (x := 0) (pc2 := 124) rfl ic_0 rfl (
      r_zret rfl (by decide) rfl)) (fun _ =>
      r_ic (x := 1) (pc2 := 120) rfl ic_1 rfl (
      r_goto (t := 124) rfl (
      r_zret rfl (by decide) rfl)))))))))) (fun _ =>
      r_ic (x := 0) (pc2 := 124) rfl ic_0 rfl (
      r_zret rfl (by decide) rfl)))))))))))))))))))))))))))))))))))))))
theorem rf_ck_meetWrongly {s : gm_S} {n m : Nat} (hs : gm_sh s n m) (d : Nat)  (g : gm_T) (a1 : Int) (a2 : Int)  : jr (pI s g) (ck_meetWrongly g a1 a2) (jm_cl jm_CD km_n (d + 4) 87 [.ref 3, gv a1, gv a2] (gm_h s g)) := by
  unfold ck_meetWrongly
  exact (r_ent (cd := cd_87) (n := 3) (L0 := [some (.ref 3), some (gv a1), some (gv a2)]) rfl rfl rfl rfl (
      r_aload (pc2 := 1) rfl rfl rfl (
      r_iload (pc2 := 2) rfl rfl rfl (
      r_callVP (pc2 := 5) (args := [.ref 3, gv a1]) (st2 := []) rfl rfl rfl rfl rfl rfl (rc_of (sh_T hs rfl rfl)) (rf_ck_next hs (d + 2) g a1 ) fun v1 => (
      r_iload (pc2 := 6) rfl rfl rfl (
      jr_g fun h2 => r_cne (pc2 := 9) (t := 16) rfl h2.1 h2.2 rfl (fun _ =>
      r_aload (pc2 := 10) rfl rfl rfl (
      r_iload (pc2 := 11) rfl rfl rfl (
      r_iload (pc2 := 12) rfl rfl rfl (
      r_callVP (pc2 := 15) (args := [.ref 3, gv a1, gv a2]) (st2 := []) rfl rfl rfl rfl rfl rfl (rc_of (sh_T hs rfl rfl)) (rf_ck_foldsBack hs (d + 1) g a1 a2 ) fun v3 => (
      jr_g fun hz => r_zret rfl hz rfl))))) (fun _ =>
      r_aload (pc2 := 17) rfl rfl rfl (
      r_iload (pc2 := 18) rfl rfl rfl (
      r_callVP (pc2 := 21) (args := [.ref 3, gv a2]) (st2 := []) rfl rfl rfl rfl rfl rfl (rc_of (sh_T hs rfl rfl)) (rf_ck_next hs (d + 2) g a2 ) fun v4 => (
      r_iload (pc2 := 22) rfl rfl rfl (
      jr_g fun h5 => r_cne (pc2 := 25) (t := 34) rfl h5.1 h5.2 rfl (fun _ =>
      r_aload (pc2 := 26) rfl rfl rfl (
      r_iload (pc2 := 27) rfl rfl rfl (
      r_iload (pc2 := 28) rfl rfl rfl (
      r_callVP (pc2 := 31) (args := [.ref 3, gv a2, gv a1]) (st2 := []) rfl rfl rfl rfl rfl rfl (rc_of (sh_T hs rfl rfl)) (rf_ck_foldsBack hs (d + 1) g a2 a1 ) fun v6 => (
      r_goto (t := 40) rfl (
      jr_g fun hz => r_zret rfl hz rfl)))))) (fun _ =>
      r_aload (pc2 := 35) rfl rfl rfl (
      r_iload (pc2 := 36) rfl rfl rfl (
      r_iload (pc2 := 37) rfl rfl rfl (
      r_callVP (pc2 := 40) (args := [.ref 3, gv a1, gv a2]) (st2 := []) rfl rfl rfl rfl rfl rfl (rc_of (sh_T hs rfl rfl)) (rf_ck_cross hs d g a1 a2 ) fun v7 => (
      jr_g fun hz => r_zret rfl hz rfl))))))))))))))))
theorem rl_ck_twiceArea_l4 {s : gm_S} {n m : Nat} (hs : gm_sh s n m) (d : Nat)  (g : gm_T)   : ∀ (fuel : Nat) (v1 : Int) (v2 : Int) (j3 : Option Value) (hj3 : jm_lg j3 = false), jr (fun (q : Int) (c : Option jm_R) => ∃ (j5 : Option Value) (j6 : Option Value), jm_lg j5 = false ∧ jm_lg j6 = false ∧ c = jm_sup cd_84 (jm_cl jm_CD km_n (d + 1)) (54, [some (.ref 3), some (gv q), j5, j6], [], gm_h s g)) (ck_twiceArea_l4 g  fuel v1 v2) (jm_sup cd_84 (jm_cl jm_CD km_n (d + 1)) (4, [some (.ref 3), some (gv v1), some (gv v2), j3], [], gm_h s g)) := by
  intro fuel
  induction fuel with
  | zero => intros; exact jr_none
  | succ fuel ih =>
    intro v1 v2 j3 hj3
    unfold ck_twiceArea_l4
    exact (
      r_iload (pc2 := 5) rfl rfl rfl (
      r_aload (pc2 := 6) rfl rfl rfl (
      r_getI (pc2 := 9) rfl rfl (sh_T hs rfl rfl) (
      jr_g fun h7 => r_cge (pc2 := 12) (t := 54) rfl h7.1 h7.2 rfl (fun _ =>
      r_aload (pc2 := 13) rfl rfl rfl (
      r_iload (pc2 := 14) rfl rfl rfl (
      r_callVP (pc2 := 17) (args := [.ref 3, gv v2]) (st2 := []) rfl rfl rfl rfl rfl rfl (rc_of (sh_T hs rfl rfl)) (rf_ck_next hs d g v2 ) fun v8 => (
      r_istore (L2 := [some (.ref 3), some (gv v1), some (gv v2), some (gv v8)]) (pc2 := 18) rfl rfl rfl (
      r_iload (pc2 := 19) rfl rfl rfl (
      r_aload (pc2 := 20) rfl rfl rfl (
      r_getA (pc2 := 23) rfl rfl (sh_T hs rfl rfl) (sh_A hs rfl rfl) (
      r_iload (pc2 := 24) rfl rfl rfl (
      jr_g fun h9 => r_iald (len := 8) (pc2 := 25) rfl rfl (sh_T hs rfl rfl) (sh_L hs rfl rfl) rfl h9 (
      r_aload (pc2 := 26) rfl rfl rfl (
      r_getA (pc2 := 29) rfl rfl (sh_T hs rfl rfl) (sh_A hs rfl rfl) (
      r_iload (pc2 := 30) rfl rfl rfl (
      jr_g fun h10 => r_iald (len := 8) (pc2 := 31) rfl rfl (sh_T hs rfl rfl) (sh_L hs rfl rfl) rfl h10 (
      r_imul (pc2 := 32) rfl rfl (
      r_aload (pc2 := 33) rfl rfl rfl (
      r_getA (pc2 := 36) rfl rfl (sh_T hs rfl rfl) (sh_A hs rfl rfl) (
      r_iload (pc2 := 37) rfl rfl rfl (
      r_iald (len := 8) (pc2 := 38) rfl rfl (sh_T hs rfl rfl) (sh_L hs rfl rfl) rfl h10 (
      r_aload (pc2 := 39) rfl rfl rfl (
      r_getA (pc2 := 42) rfl rfl (sh_T hs rfl rfl) (sh_A hs rfl rfl) (
      r_iload (pc2 := 43) rfl rfl rfl (
      r_iald (len := 8) (pc2 := 44) rfl rfl (sh_T hs rfl rfl) (sh_L hs rfl rfl) rfl h9 (
      r_imul (pc2 := 45) rfl rfl (
      r_isub (pc2 := 46) rfl rfl (
      r_iadd (pc2 := 47) rfl rfl (
      r_istoreL (L3 := fun v11 => [some (.ref 3), some (gv v11), some (gv v2), some (gv v8)]) (pc2 := 48) rfl rfl (fun _ => rfl) fun v11 => (
      r_iinc (kk := 1) (L2 := [some (.ref 3), some (gv v11), some (gv (v2 + 1)), some (gv v8)]) (pc2 := 51) rfl ic_1 rfl rfl rfl (
      r_goto (t := 4) rfl (
      ih v11 (v2 + 1) _ rfl))))))))))))))))))))))))))))) (fun _ =>
      jr_leaf ⟨_, _, rfl, hj3, rfl⟩)))))
theorem rf_ck_twiceArea {s : gm_S} {n m : Nat} (hs : gm_sh s n m) (d : Nat)  (g : gm_T)   : jr (pI s g) (ck_twiceArea g ) (jm_cl jm_CD km_n (d + 2) 84 [.ref 3] (gm_h s g)) := by
  unfold ck_twiceArea
  exact (r_ent (cd := cd_84) (n := 4) (L0 := [some (.ref 3), none, none, none]) rfl rfl rfl rfl (
      r_ic (x := 0) (pc2 := 1) rfl ic_0 rfl (
      r_istore (L2 := [some (.ref 3), some (gv 0), none, none]) (pc2 := 2) rfl rfl rfl (
      r_ic (x := 0) (pc2 := 3) rfl ic_0 rfl (
      r_istore (L2 := [some (.ref 3), some (gv 0), some (gv 0), none]) (pc2 := 4) rfl rfl rfl (
      r_b1 (rl_ck_twiceArea_l4 hs d  g   fz 0 0 _ rfl) (fun v13 c h => match c, h with | _, ⟨j14, j15, hj14, hj15, rfl⟩ => (
      r_iload (pc2 := 55) rfl rfl rfl (
      r_iret rfl rfl)))))))))
theorem rl_ck_isRing_l2 {s : gm_S} {n m : Nat} (hs : gm_sh s n m) (d : Nat)  (g : gm_T)   : ∀ (fuel : Nat) (v1 : Int) (j2 : Option Value) (hj2 : jm_lg j2 = false), jr (fun (x : (Unit) ⊕ (Int)) (c : Option jm_R) => match x with | .inl q => (∃ (j3 : Option Value) (j4 : Option Value), jm_lg j3 = false ∧ jm_lg j4 = false ∧ c = jm_sup cd_82 (jm_cl jm_CD km_n (d + 4)) (54, [some (.ref 3), j3, j4], [], gm_h s g)) | .inr r => pI s g r c) (ck_isRing_l2 g  fuel v1) (jm_sup cd_82 (jm_cl jm_CD km_n (d + 4)) (2, [some (.ref 3), some (gv v1), j2], [], gm_h s g)) := by
  intro fuel
  induction fuel with
  | zero => intros; exact jr_none
  | succ fuel ih =>
    intro v1 j2 hj2
    unfold ck_isRing_l2
    exact (
      r_iload (pc2 := 3) rfl rfl rfl (
      r_aload (pc2 := 4) rfl rfl rfl (
      r_getI (pc2 := 7) rfl rfl (sh_T hs rfl rfl) (
      jr_g fun h5 => r_cge (pc2 := 10) (t := 54) rfl h5.1 h5.2 rfl (fun _ =>
      r_aload (pc2 := 11) rfl rfl rfl (
      r_iload (pc2 := 12) rfl rfl rfl (
      r_callVP (pc2 := 15) (args := [.ref 3, gv v1]) (st2 := []) rfl rfl rfl rfl rfl rfl (rc_of (sh_T hs rfl rfl)) (rf_ck_next hs (d + 3) g v1 ) fun v6 => (
      r_istore (L2 := [some (.ref 3), some (gv v1), some (gv v6)]) (pc2 := 16) rfl rfl rfl (
      r_aload (pc2 := 17) rfl rfl rfl (
      r_getA (pc2 := 20) rfl rfl (sh_T hs rfl rfl) (sh_A hs rfl rfl) (
      r_iload (pc2 := 21) rfl rfl rfl (
      jr_g fun h7 => r_iald (len := 8) (pc2 := 22) rfl rfl (sh_T hs rfl rfl) (sh_L hs rfl rfl) rfl h7 (
      r_aload (pc2 := 23) rfl rfl rfl (
      r_getA (pc2 := 26) rfl rfl (sh_T hs rfl rfl) (sh_A hs rfl rfl) (
      r_iload (pc2 := 27) rfl rfl rfl (
      jr_g fun h8 => r_iald (len := 8) (pc2 := 28) rfl rfl (sh_T hs rfl rfl) (sh_L hs rfl rfl) rfl h8 (
      jr_g fun h9 => r_cne (pc2 := 31) (t := 48) rfl h9.1 h9.2 rfl (fun _ =>
      r_aload (pc2 := 32) rfl rfl rfl (
      r_getA (pc2 := 35) rfl rfl (sh_T hs rfl rfl) (sh_A hs rfl rfl) (
      r_iload (pc2 := 36) rfl rfl rfl (
      r_iald (len := 8) (pc2 := 37) rfl rfl (sh_T hs rfl rfl) (sh_L hs rfl rfl) rfl h7 (
      r_aload (pc2 := 38) rfl rfl rfl (
      r_getA (pc2 := 41) rfl rfl (sh_T hs rfl rfl) (sh_A hs rfl rfl) (
      r_iload (pc2 := 42) rfl rfl rfl (
      r_iald (len := 8) (pc2 := 43) rfl rfl (sh_T hs rfl rfl) (sh_L hs rfl rfl) rfl h8 (
      jr_g fun h10 => r_cne (pc2 := 46) (t := 48) rfl h10.1 h10.2 rfl (fun _ =>
      r_ic (x := 0) (pc2 := 47) rfl ic_0 rfl (
      r_zret rfl (by decide) rfl)) (fun _ =>
      r_iinc (kk := 1) (L2 := [some (.ref 3), some (gv (v1 + 1)), some (gv v6)]) (pc2 := 51) rfl ic_1 rfl rfl rfl (
      r_goto (t := 2) rfl (
      ih (v1 + 1) _ rfl)))))))))))) (fun _ =>
      r_iinc (kk := 1) (L2 := [some (.ref 3), some (gv (v1 + 1)), some (gv v6)]) (pc2 := 51) rfl ic_1 rfl rfl rfl (
      r_goto (t := 2) rfl (
      ih (v1 + 1) _ rfl)))))))))))))))) (fun _ =>
      jr_leaf ⟨_, _, rfl, hj2, rfl⟩)))))
theorem rl_ck_isRing_l68 {s : gm_S} {n m : Nat} (hs : gm_sh s n m) (d : Nat)  (g : gm_T) (c21 : Int)  : ∀ (fuel : Nat) (v22 : Int), jr (fun (x : (Unit) ⊕ (Int)) (c : Option jm_R) => match x with | .inl q => (∃ (j23 : Option Value), jm_lg j23 = false ∧ c = jm_sup cd_82 (jm_cl jm_CD km_n (d + 4)) (93, [some (.ref 3), some (gv c21), j23], [], gm_h s g)) | .inr r => pI s g r c) (ck_isRing_l68 g c21 fuel v22) (jm_sup cd_82 (jm_cl jm_CD km_n (d + 4)) (68, [some (.ref 3), some (gv c21), some (gv v22)], [], gm_h s g)) := by
  intro fuel
  induction fuel with
  | zero => intros; exact jr_none
  | succ fuel ih =>
    intro v22  
    unfold ck_isRing_l68
    exact (
      r_iload (pc2 := 69) rfl rfl rfl (
      r_aload (pc2 := 70) rfl rfl rfl (
      r_getI (pc2 := 73) rfl rfl (sh_T hs rfl rfl) (
      jr_g fun h24 => r_cge (pc2 := 76) (t := 93) rfl h24.1 h24.2 rfl (fun _ =>
      r_aload (pc2 := 77) rfl rfl rfl (
      r_iload (pc2 := 78) rfl rfl rfl (
      r_iload (pc2 := 79) rfl rfl rfl (
      r_callVP (pc2 := 82) (args := [.ref 3, gv c21, gv v22]) (st2 := []) rfl rfl rfl rfl rfl rfl (rc_of (sh_T hs rfl rfl)) (rf_ck_meetWrongly hs d g c21 v22 ) fun v25 => (
      jr_g fun h26 => r_ifeq (pc2 := 85) (t := 87) rfl h26 rfl (fun _ =>
      r_iinc (kk := 1) (L2 := [some (.ref 3), some (gv c21), some (gv (v22 + 1))]) (pc2 := 90) rfl ic_1 rfl rfl rfl (
      r_goto (t := 68) rfl (
      ih (v22 + 1)))) (fun _ =>
      r_ic (x := 0) (pc2 := 86) rfl ic_0 rfl (
      r_zret rfl (by decide) rfl))))))) (fun _ =>
      jr_leaf ⟨_, rfl, rfl⟩)))))
theorem rl_ck_isRing_l56 {s : gm_S} {n m : Nat} (hs : gm_sh s n m) (d : Nat)  (g : gm_T)   : ∀ (fuel : Nat) (v15 : Int) (j16 : Option Value) (hj16 : jm_lg j16 = false), jr (fun (x : (Unit) ⊕ (Int)) (c : Option jm_R) => match x with | .inl q => (∃ (j17 : Option Value) (j18 : Option Value), jm_lg j17 = false ∧ jm_lg j18 = false ∧ c = jm_sup cd_82 (jm_cl jm_CD km_n (d + 4)) (99, [some (.ref 3), j17, j18], [], gm_h s g)) | .inr r => pI s g r c) (ck_isRing_l56 g  fuel v15) (jm_sup cd_82 (jm_cl jm_CD km_n (d + 4)) (56, [some (.ref 3), some (gv v15), j16], [], gm_h s g)) := by
  intro fuel
  induction fuel with
  | zero => intros; exact jr_none
  | succ fuel ih =>
    intro v15 j16 hj16
    unfold ck_isRing_l56
    exact (
      r_iload (pc2 := 57) rfl rfl rfl (
      r_aload (pc2 := 58) rfl rfl rfl (
      r_getI (pc2 := 61) rfl rfl (sh_T hs rfl rfl) (
      jr_g fun h19 => r_cge (pc2 := 64) (t := 99) rfl h19.1 h19.2 rfl (fun _ =>
      r_iload (pc2 := 65) rfl rfl rfl (
      r_ic (x := 1) (pc2 := 66) rfl ic_1 rfl (
      r_iadd (pc2 := 67) rfl rfl (
      r_istoreL (L3 := fun v20 => [some (.ref 3), some (gv v15), some (gv v20)]) (pc2 := 68) rfl rfl (fun _ => rfl) fun v20 => (
      r_c1 (rl_ck_isRing_l68 hs d  g v15  fz v20  ) (fun r c h => jr_leaf h) (fun _u c h => match c, h with | _, ⟨j28, hj28, rfl⟩ => (
      r_iinc (kk := 1) (L2 := [some (.ref 3), some (gv (v15 + 1)), j28]) (pc2 := 96) rfl ic_1 rfl rfl rfl (
      r_goto (t := 56) rfl (
      ih (v15 + 1) _ hj28))))))))) (fun _ =>
      jr_leaf ⟨_, _, rfl, hj16, rfl⟩)))))
theorem rf_ck_isRing {s : gm_S} {n m : Nat} (hs : gm_sh s n m) (d : Nat)  (g : gm_T)   : jr (pI s g) (ck_isRing g ) (jm_cl jm_CD km_n (d + 5) 82 [.ref 3] (gm_h s g)) := by
  unfold ck_isRing
  exact (r_ent (cd := cd_82) (n := 3) (L0 := [some (.ref 3), none, none]) rfl rfl rfl rfl (
      r_ic (x := 0) (pc2 := 1) rfl ic_0 rfl (
      r_istore (L2 := [some (.ref 3), some (gv 0), none]) (pc2 := 2) rfl rfl rfl (
      r_c1 (rl_ck_isRing_l2 hs d  g   fz 0 _ rfl) (fun r c h => jr_leaf h) (fun _u c h => match c, h with | _, ⟨j13, j14, hj13, hj14, rfl⟩ => (
      r_ic (x := 0) (pc2 := 55) rfl ic_0 rfl (
      r_istore (L2 := [some (.ref 3), some (gv 0), j14]) (pc2 := 56) rfl rfl rfl (
      r_c1 (rl_ck_isRing_l56 hs d  g   fz 0 _ hj14) (fun r c h => jr_leaf h) (fun _u c h => match c, h with | _, ⟨j30, j31, hj30, hj31, rfl⟩ => (
      r_aload (pc2 := 100) rfl rfl rfl (
      r_callVP (pc2 := 103) (args := [.ref 3]) (st2 := []) rfl rfl rfl rfl rfl rfl (rc_of (sh_T hs rfl rfl)) (rf_ck_twiceArea hs (d + 2) g ) fun v32 => (
      jr_g fun h33 => r_ifle (pc2 := 106) (t := 110) rfl h33 rfl (fun _ =>
      r_ic (x := 0) (pc2 := 111) rfl ic_0 rfl (
      r_zret rfl (by decide) rfl)) (fun _ =>
      r_ic (x := 1) (pc2 := 107) rfl ic_1 rfl (
      r_goto (t := 111) rfl (
      r_zret rfl (by decide) rfl)))))))))))))))
theorem rl_ck_least_4_l6 {s : gm_S} {n m : Nat} (hs : gm_sh s n m) (d : Nat)  (g : gm_T)   : ∀ (fuel : Nat) (v2 : Int) (v3 : Int), jr (fun (q : Int) (c : Option jm_R) => ∃ (j5 : Option Value), jm_lg j5 = false ∧ c = jm_sup cd_85 (jm_cl jm_CD km_n d) (28, [some (.ref 3), some (.ref 4), some (gv q), j5], [], gm_h s g)) (ck_least_4_l6 g  fuel v2 v3) (jm_sup cd_85 (jm_cl jm_CD km_n d) (6, [some (.ref 3), some (.ref 4), some (gv v2), some (gv v3)], [], gm_h s g)) := by
  intro fuel
  induction fuel with
  | zero => intros; exact jr_none
  | succ fuel ih =>
    intro v2 v3  
    unfold ck_least_4_l6
    exact (
      r_iload (pc2 := 7) rfl rfl rfl (
      r_aload (pc2 := 8) rfl rfl rfl (
      r_getI (pc2 := 11) rfl rfl (sh_T hs rfl rfl) (
      jr_g fun h6 => r_cge (pc2 := 14) (t := 28) rfl h6.1 h6.2 rfl (fun _ =>
      r_iload (pc2 := 15) rfl rfl rfl (
      r_aload (pc2 := 16) rfl rfl rfl (
      r_iload (pc2 := 17) rfl rfl rfl (
      jr_g fun h7 => r_iald (len := 8) (pc2 := 18) rfl rfl (sh_T hs rfl rfl) (sh_L hs rfl rfl) rfl h7 (
      jr_g fun h8 => r_mmin (pc2 := 21) rfl rfl rfl h8.1 h8.2 (
      r_istoreL (L3 := fun v9 => [some (.ref 3), some (.ref 4), some (gv v9), some (gv v3)]) (pc2 := 22) rfl rfl (fun _ => rfl) fun v9 => (
      r_iinc (kk := 1) (L2 := [some (.ref 3), some (.ref 4), some (gv v9), some (gv (v3 + 1))]) (pc2 := 25) rfl ic_1 rfl rfl rfl (
      r_goto (t := 6) rfl (
      ih v9 (v3 + 1)))))))))) (fun _ =>
      jr_leaf ⟨_, rfl, rfl⟩)))))
theorem rf_ck_least_4 {s : gm_S} {n m : Nat} (hs : gm_sh s n m) (d : Nat)  (g : gm_T)   : jr (pI s g) (ck_least_4 g ) (jm_cl jm_CD km_n (d + 1) 85 [.ref 3, .ref 4] (gm_h s g)) := by
  unfold ck_least_4
  exact (r_ent (cd := cd_85) (n := 4) (L0 := [some (.ref 3), some (.ref 4), none, none]) rfl rfl rfl rfl (
      r_aload (pc2 := 1) rfl rfl rfl (
      r_ic (x := 0) (pc2 := 2) rfl ic_0 rfl (
      r_iald (len := 8) (pc2 := 3) rfl rfl (sh_T hs rfl rfl) (sh_L hs rfl rfl) rfl ⟨by decide, by decide⟩ (
      r_istoreL (L3 := fun v1 => [some (.ref 3), some (.ref 4), some (gv v1), none]) (pc2 := 4) rfl rfl (fun _ => rfl) fun v1 => (
      r_ic (x := 1) (pc2 := 5) rfl ic_1 rfl (
      r_istore (L2 := [some (.ref 3), some (.ref 4), some (gv v1), some (gv 1)]) (pc2 := 6) rfl rfl rfl (
      r_b1 (rl_ck_least_4_l6 hs d  g   fz v1 1  ) (fun v11 c h => match c, h with | _, ⟨j12, hj12, rfl⟩ => (
      r_iload (pc2 := 29) rfl rfl rfl (
      r_iret rfl rfl)))))))))))
theorem rl_ck_least_5_l6 {s : gm_S} {n m : Nat} (hs : gm_sh s n m) (d : Nat)  (g : gm_T)   : ∀ (fuel : Nat) (v2 : Int) (v3 : Int), jr (fun (q : Int) (c : Option jm_R) => ∃ (j5 : Option Value), jm_lg j5 = false ∧ c = jm_sup cd_85 (jm_cl jm_CD km_n d) (28, [some (.ref 3), some (.ref 5), some (gv q), j5], [], gm_h s g)) (ck_least_5_l6 g  fuel v2 v3) (jm_sup cd_85 (jm_cl jm_CD km_n d) (6, [some (.ref 3), some (.ref 5), some (gv v2), some (gv v3)], [], gm_h s g)) := by
  intro fuel
  induction fuel with
  | zero => intros; exact jr_none
  | succ fuel ih =>
    intro v2 v3  
    unfold ck_least_5_l6
    exact (
      r_iload (pc2 := 7) rfl rfl rfl (
      r_aload (pc2 := 8) rfl rfl rfl (
      r_getI (pc2 := 11) rfl rfl (sh_T hs rfl rfl) (
      jr_g fun h6 => r_cge (pc2 := 14) (t := 28) rfl h6.1 h6.2 rfl (fun _ =>
      r_iload (pc2 := 15) rfl rfl rfl (
      r_aload (pc2 := 16) rfl rfl rfl (
      r_iload (pc2 := 17) rfl rfl rfl (
      jr_g fun h7 => r_iald (len := 8) (pc2 := 18) rfl rfl (sh_T hs rfl rfl) (sh_L hs rfl rfl) rfl h7 (
      jr_g fun h8 => r_mmin (pc2 := 21) rfl rfl rfl h8.1 h8.2 (
      r_istoreL (L3 := fun v9 => [some (.ref 3), some (.ref 5), some (gv v9), some (gv v3)]) (pc2 := 22) rfl rfl (fun _ => rfl) fun v9 => (
      r_iinc (kk := 1) (L2 := [some (.ref 3), some (.ref 5), some (gv v9), some (gv (v3 + 1))]) (pc2 := 25) rfl ic_1 rfl rfl rfl (
      r_goto (t := 6) rfl (
      ih v9 (v3 + 1)))))))))) (fun _ =>
      jr_leaf ⟨_, rfl, rfl⟩)))))
theorem rf_ck_least_5 {s : gm_S} {n m : Nat} (hs : gm_sh s n m) (d : Nat)  (g : gm_T)   : jr (pI s g) (ck_least_5 g ) (jm_cl jm_CD km_n (d + 1) 85 [.ref 3, .ref 5] (gm_h s g)) := by
  unfold ck_least_5
  exact (r_ent (cd := cd_85) (n := 4) (L0 := [some (.ref 3), some (.ref 5), none, none]) rfl rfl rfl rfl (
      r_aload (pc2 := 1) rfl rfl rfl (
      r_ic (x := 0) (pc2 := 2) rfl ic_0 rfl (
      r_iald (len := 8) (pc2 := 3) rfl rfl (sh_T hs rfl rfl) (sh_L hs rfl rfl) rfl ⟨by decide, by decide⟩ (
      r_istoreL (L3 := fun v1 => [some (.ref 3), some (.ref 5), some (gv v1), none]) (pc2 := 4) rfl rfl (fun _ => rfl) fun v1 => (
      r_ic (x := 1) (pc2 := 5) rfl ic_1 rfl (
      r_istore (L2 := [some (.ref 3), some (.ref 5), some (gv v1), some (gv 1)]) (pc2 := 6) rfl rfl rfl (
      r_b1 (rl_ck_least_5_l6 hs d  g   fz v1 1  ) (fun v11 c h => match c, h with | _, ⟨j12, hj12, rfl⟩ => (
      r_iload (pc2 := 29) rfl rfl rfl (
      r_iret rfl rfl)))))))))))
theorem rl_ck_most_4_l6 {s : gm_S} {n m : Nat} (hs : gm_sh s n m) (d : Nat)  (g : gm_T)   : ∀ (fuel : Nat) (v2 : Int) (v3 : Int), jr (fun (q : Int) (c : Option jm_R) => ∃ (j5 : Option Value), jm_lg j5 = false ∧ c = jm_sup cd_86 (jm_cl jm_CD km_n d) (28, [some (.ref 3), some (.ref 4), some (gv q), j5], [], gm_h s g)) (ck_most_4_l6 g  fuel v2 v3) (jm_sup cd_86 (jm_cl jm_CD km_n d) (6, [some (.ref 3), some (.ref 4), some (gv v2), some (gv v3)], [], gm_h s g)) := by
  intro fuel
  induction fuel with
  | zero => intros; exact jr_none
  | succ fuel ih =>
    intro v2 v3  
    unfold ck_most_4_l6
    exact (
      r_iload (pc2 := 7) rfl rfl rfl (
      r_aload (pc2 := 8) rfl rfl rfl (
      r_getI (pc2 := 11) rfl rfl (sh_T hs rfl rfl) (
      jr_g fun h6 => r_cge (pc2 := 14) (t := 28) rfl h6.1 h6.2 rfl (fun _ =>
      r_iload (pc2 := 15) rfl rfl rfl (
      r_aload (pc2 := 16) rfl rfl rfl (
      r_iload (pc2 := 17) rfl rfl rfl (
      jr_g fun h7 => r_iald (len := 8) (pc2 := 18) rfl rfl (sh_T hs rfl rfl) (sh_L hs rfl rfl) rfl h7 (
      jr_g fun h8 => r_mmax (pc2 := 21) rfl rfl rfl h8.1 h8.2 (
      r_istoreL (L3 := fun v9 => [some (.ref 3), some (.ref 4), some (gv v9), some (gv v3)]) (pc2 := 22) rfl rfl (fun _ => rfl) fun v9 => (
      r_iinc (kk := 1) (L2 := [some (.ref 3), some (.ref 4), some (gv v9), some (gv (v3 + 1))]) (pc2 := 25) rfl ic_1 rfl rfl rfl (
      r_goto (t := 6) rfl (
      ih v9 (v3 + 1)))))))))) (fun _ =>
      jr_leaf ⟨_, rfl, rfl⟩)))))
theorem rf_ck_most_4 {s : gm_S} {n m : Nat} (hs : gm_sh s n m) (d : Nat)  (g : gm_T)   : jr (pI s g) (ck_most_4 g ) (jm_cl jm_CD km_n (d + 1) 86 [.ref 3, .ref 4] (gm_h s g)) := by
  unfold ck_most_4
  exact (r_ent (cd := cd_86) (n := 4) (L0 := [some (.ref 3), some (.ref 4), none, none]) rfl rfl rfl rfl (
      r_aload (pc2 := 1) rfl rfl rfl (
      r_ic (x := 0) (pc2 := 2) rfl ic_0 rfl (
      r_iald (len := 8) (pc2 := 3) rfl rfl (sh_T hs rfl rfl) (sh_L hs rfl rfl) rfl ⟨by decide, by decide⟩ (
      r_istoreL (L3 := fun v1 => [some (.ref 3), some (.ref 4), some (gv v1), none]) (pc2 := 4) rfl rfl (fun _ => rfl) fun v1 => (
      r_ic (x := 1) (pc2 := 5) rfl ic_1 rfl (
      r_istore (L2 := [some (.ref 3), some (.ref 4), some (gv v1), some (gv 1)]) (pc2 := 6) rfl rfl rfl (
      r_b1 (rl_ck_most_4_l6 hs d  g   fz v1 1  ) (fun v11 c h => match c, h with | _, ⟨j12, hj12, rfl⟩ => (
      r_iload (pc2 := 29) rfl rfl rfl (
      r_iret rfl rfl)))))))))))
theorem rl_ck_most_5_l6 {s : gm_S} {n m : Nat} (hs : gm_sh s n m) (d : Nat)  (g : gm_T)   : ∀ (fuel : Nat) (v2 : Int) (v3 : Int), jr (fun (q : Int) (c : Option jm_R) => ∃ (j5 : Option Value), jm_lg j5 = false ∧ c = jm_sup cd_86 (jm_cl jm_CD km_n d) (28, [some (.ref 3), some (.ref 5), some (gv q), j5], [], gm_h s g)) (ck_most_5_l6 g  fuel v2 v3) (jm_sup cd_86 (jm_cl jm_CD km_n d) (6, [some (.ref 3), some (.ref 5), some (gv v2), some (gv v3)], [], gm_h s g)) := by
  intro fuel
  induction fuel with
  | zero => intros; exact jr_none
  | succ fuel ih =>
    intro v2 v3  
    unfold ck_most_5_l6
    exact (
      r_iload (pc2 := 7) rfl rfl rfl (
      r_aload (pc2 := 8) rfl rfl rfl (
      r_getI (pc2 := 11) rfl rfl (sh_T hs rfl rfl) (
      jr_g fun h6 => r_cge (pc2 := 14) (t := 28) rfl h6.1 h6.2 rfl (fun _ =>
      r_iload (pc2 := 15) rfl rfl rfl (
      r_aload (pc2 := 16) rfl rfl rfl (
      r_iload (pc2 := 17) rfl rfl rfl (
      jr_g fun h7 => r_iald (len := 8) (pc2 := 18) rfl rfl (sh_T hs rfl rfl) (sh_L hs rfl rfl) rfl h7 (
      jr_g fun h8 => r_mmax (pc2 := 21) rfl rfl rfl h8.1 h8.2 (
      r_istoreL (L3 := fun v9 => [some (.ref 3), some (.ref 5), some (gv v9), some (gv v3)]) (pc2 := 22) rfl rfl (fun _ => rfl) fun v9 => (
      r_iinc (kk := 1) (L2 := [some (.ref 3), some (.ref 5), some (gv v9), some (gv (v3 + 1))]) (pc2 := 25) rfl ic_1 rfl rfl rfl (
      r_goto (t := 6) rfl (
      ih v9 (v3 + 1)))))))))) (fun _ =>
      jr_leaf ⟨_, rfl, rfl⟩)))))
theorem rf_ck_most_5 {s : gm_S} {n m : Nat} (hs : gm_sh s n m) (d : Nat)  (g : gm_T)   : jr (pI s g) (ck_most_5 g ) (jm_cl jm_CD km_n (d + 1) 86 [.ref 3, .ref 5] (gm_h s g)) := by
  unfold ck_most_5
  exact (r_ent (cd := cd_86) (n := 4) (L0 := [some (.ref 3), some (.ref 5), none, none]) rfl rfl rfl rfl (
      r_aload (pc2 := 1) rfl rfl rfl (
      r_ic (x := 0) (pc2 := 2) rfl ic_0 rfl (
      r_iald (len := 8) (pc2 := 3) rfl rfl (sh_T hs rfl rfl) (sh_L hs rfl rfl) rfl ⟨by decide, by decide⟩ (
      r_istoreL (L3 := fun v1 => [some (.ref 3), some (.ref 5), some (gv v1), none]) (pc2 := 4) rfl rfl (fun _ => rfl) fun v1 => (
      r_ic (x := 1) (pc2 := 5) rfl ic_1 rfl (
      r_istore (L2 := [some (.ref 3), some (.ref 5), some (gv v1), some (gv 1)]) (pc2 := 6) rfl rfl rfl (
      r_b1 (rl_ck_most_5_l6 hs d  g   fz v1 1  ) (fun v11 c h => match c, h with | _, ⟨j12, hj12, rfl⟩ => (
      r_iload (pc2 := 29) rfl rfl rfl (
      r_iret rfl rfl)))))))))))
theorem rl_ck_holdsCell_l19 {s : gm_S} {n m : Nat} (hs : gm_sh s n m) (d : Nat)  (g : gm_T) (c5 : Int) (c6 : Int)  : ∀ (fuel : Nat) (v7 : Int) (v8 : Int) (j3 : Option Value) (j4 : Option Value) (j9 : Option Value) (j10 : Option Value) (j11 : Option Value) (hj3 : jm_lg j3 = false) (hj4 : jm_lg j4 = false) (hj9 : jm_lg j9 = false) (hj10 : jm_lg j10 = false) (hj11 : jm_lg j11 = false), jr (pI s g) (ck_holdsCell_l19 g c5 c6 fuel v7 v8) (jm_sup cd_92 (jm_cl jm_CD km_n (d + 1)) (19, [some (.ref 3), j3, j4, some (gv c5), some (gv c6), some (gv v7), some (gv v8), j9, j10, j11], [], gm_h s g)) := by
  intro fuel
  induction fuel with
  | zero => intros; exact jr_none
  | succ fuel ih =>
    intro v7 v8 j3 j4 j9 j10 j11 hj3 hj4 hj9 hj10 hj11
    unfold ck_holdsCell_l19
    exact (
      r_iload (pc2 := 21) rfl rfl rfl (
      r_aload (pc2 := 22) rfl rfl rfl (
      r_getI (pc2 := 25) rfl rfl (sh_T hs rfl rfl) (
      jr_g fun h12 => r_cge (pc2 := 28) (t := 179) rfl h12.1 h12.2 rfl (fun _ =>
      r_aload (pc2 := 29) rfl rfl rfl (
      r_iload (pc2 := 31) rfl rfl rfl (
      r_callVP (pc2 := 34) (args := [.ref 3, gv v8]) (st2 := []) rfl rfl rfl rfl rfl rfl (rc_of (sh_T hs rfl rfl)) (rf_ck_next hs d g v8 ) fun v13 => (
      r_istore (L2 := [some (.ref 3), j3, j4, some (gv c5), some (gv c6), some (gv v7), some (gv v8), some (gv v13), j10, j11]) (pc2 := 36) rfl rfl rfl (
      r_ic (x := 2) (pc2 := 37) rfl ic_2 rfl (
      r_aload (pc2 := 38) rfl rfl rfl (
      r_getA (pc2 := 41) rfl rfl (sh_T hs rfl rfl) (sh_A hs rfl rfl) (
      r_iload (pc2 := 43) rfl rfl rfl (
      jr_g fun h14 => r_iald (len := 8) (pc2 := 44) rfl rfl (sh_T hs rfl rfl) (sh_L hs rfl rfl) rfl h14 (
      r_imul (pc2 := 45) rfl rfl (
      r_iload (pc2 := 47) rfl rfl rfl (
      r_b1 (R1 := (fun (q : Int) (c : Option jm_R) => c = jm_sup cd_92 (jm_cl jm_CD km_n (d + 1)) (55, [some (.ref 3), j3, j4, some (gv c5), some (gv c6), some (gv v7), some (gv v8), some (gv v13), j10, j11], [gv q], gm_h s g))) (
      jr_g fun h16 => r_cle (pc2 := 50) (t := 54) rfl h16.1 h16.2 rfl (fun _ =>
      r_ic (x := 0) (pc2 := 55) rfl ic_0 rfl (
      jr_leaf rfl)) (fun _ =>
      r_ic (x := 1) (pc2 := 51) rfl ic_1 rfl (
      r_goto (t := 55) rfl (
      jr_leaf rfl)))) (fun v15 c h => match c, h with | _, rfl => (
      r_istore (L2 := [some (.ref 3), j3, j4, some (gv c5), some (gv c6), some (gv v7), some (gv v8), some (gv v13), some (gv v15), j11]) (pc2 := 57) rfl rfl rfl (
      r_ic (x := 2) (pc2 := 58) rfl ic_2 rfl (
      r_aload (pc2 := 59) rfl rfl rfl (
      r_getA (pc2 := 62) rfl rfl (sh_T hs rfl rfl) (sh_A hs rfl rfl) (
      r_iload (pc2 := 64) rfl rfl rfl (
      jr_g fun h17 => r_iald (len := 8) (pc2 := 65) rfl rfl (sh_T hs rfl rfl) (sh_L hs rfl rfl) rfl h17 (
      r_imul (pc2 := 66) rfl rfl (
      r_iload (pc2 := 68) rfl rfl rfl (
      r_b1 (R1 := (fun (q : Int) (c : Option jm_R) => c = jm_sup cd_92 (jm_cl jm_CD km_n (d + 1)) (76, [some (.ref 3), j3, j4, some (gv c5), some (gv c6), some (gv v7), some (gv v8), some (gv v13), some (gv v15), j11], [gv q], gm_h s g))) (
      jr_g fun h19 => r_cle (pc2 := 71) (t := 75) rfl h19.1 h19.2 rfl (fun _ =>
      r_ic (x := 0) (pc2 := 76) rfl ic_0 rfl (
      jr_leaf rfl)) (fun _ =>
      r_ic (x := 1) (pc2 := 72) rfl ic_1 rfl (
      r_goto (t := 76) rfl (
      jr_leaf rfl)))) (fun v18 c h => match c, h with | _, rfl => (
      r_iload (pc2 := 78) rfl rfl rfl (
      jr_g fun h20 => r_ceq (pc2 := 81) (t := 173) rfl h20.1 h20.2 rfl (fun _ =>
      r_iinc (kk := 1) (L2 := [some (.ref 3), j3, j4, some (gv c5), some (gv c6), some (gv v7), some (gv (v8 + 1)), some (gv v13), some (gv v15), j11]) (pc2 := 176) rfl ic_1 rfl rfl rfl (
      r_goto (t := 19) rfl (
      ih v7 (v8 + 1) _ _ _ _ _ hj3 hj4 rfl rfl hj11))) (fun _ =>
      r_aload (pc2 := 82) rfl rfl rfl (
      r_getA (pc2 := 85) rfl rfl (sh_T hs rfl rfl) (sh_A hs rfl rfl) (
      r_iload (pc2 := 87) rfl rfl rfl (
      r_iald (len := 8) (pc2 := 88) rfl rfl (sh_T hs rfl rfl) (sh_L hs rfl rfl) rfl h14 (
      r_aload (pc2 := 89) rfl rfl rfl (
      r_getA (pc2 := 92) rfl rfl (sh_T hs rfl rfl) (sh_A hs rfl rfl) (
      r_iload (pc2 := 94) rfl rfl rfl (
      r_iald (len := 8) (pc2 := 95) rfl rfl (sh_T hs rfl rfl) (sh_L hs rfl rfl) rfl h17 (
      r_isub (pc2 := 96) rfl rfl (
      r_iload (pc2 := 98) rfl rfl rfl (
      r_ic (x := 2) (pc2 := 99) rfl ic_2 rfl (
      r_aload (pc2 := 100) rfl rfl rfl (
      r_getA (pc2 := 103) rfl rfl (sh_T hs rfl rfl) (sh_A hs rfl rfl) (
      r_iload (pc2 := 105) rfl rfl rfl (
      r_iald (len := 8) (pc2 := 106) rfl rfl (sh_T hs rfl rfl) (sh_L hs rfl rfl) rfl h17 (
      r_imul (pc2 := 107) rfl rfl (
      r_isub (pc2 := 108) rfl rfl (
      r_imul (pc2 := 109) rfl rfl (
      r_aload (pc2 := 110) rfl rfl rfl (
      r_getA (pc2 := 113) rfl rfl (sh_T hs rfl rfl) (sh_A hs rfl rfl) (
      r_iload (pc2 := 115) rfl rfl rfl (
      r_iald (len := 8) (pc2 := 116) rfl rfl (sh_T hs rfl rfl) (sh_L hs rfl rfl) rfl h14 (
      r_aload (pc2 := 117) rfl rfl rfl (
      r_getA (pc2 := 120) rfl rfl (sh_T hs rfl rfl) (sh_A hs rfl rfl) (
      r_iload (pc2 := 122) rfl rfl rfl (
      r_iald (len := 8) (pc2 := 123) rfl rfl (sh_T hs rfl rfl) (sh_L hs rfl rfl) rfl h17 (
      r_isub (pc2 := 124) rfl rfl (
      r_iload (pc2 := 125) rfl rfl rfl (
      r_ic (x := 2) (pc2 := 126) rfl ic_2 rfl (
      r_aload (pc2 := 127) rfl rfl rfl (
      r_getA (pc2 := 130) rfl rfl (sh_T hs rfl rfl) (sh_A hs rfl rfl) (
      r_iload (pc2 := 132) rfl rfl rfl (
      r_iald (len := 8) (pc2 := 133) rfl rfl (sh_T hs rfl rfl) (sh_L hs rfl rfl) rfl h17 (
      r_imul (pc2 := 134) rfl rfl (
      r_isub (pc2 := 135) rfl rfl (
      r_imul (pc2 := 136) rfl rfl (
      r_isub (pc2 := 137) rfl rfl (
      r_istoreL (L3 := fun v22 => [some (.ref 3), j3, j4, some (gv c5), some (gv c6), some (gv v7), some (gv v8), some (gv v13), some (gv v15), some (gv v22)]) (pc2 := 139) rfl rfl (fun _ => rfl) fun v22 => (
      r_iload (pc2 := 141) rfl rfl rfl (
      jr_g fun h23 => r_ifne (pc2 := 144) (t := 146) rfl h23 rfl (fun _ =>
      r_ic (x := 0) (pc2 := 145) rfl ic_0 rfl (
      r_zret rfl (by decide) rfl)) (fun _ =>
      r_iload (pc2 := 148) rfl rfl rfl (
      r_b1 (R1 := (fun (q : Int) (c : Option jm_R) => c = jm_sup cd_92 (jm_cl jm_CD km_n (d + 1)) (156, [some (.ref 3), j3, j4, some (gv c5), some (gv c6), some (gv v7), some (gv v8), some (gv v13), some (gv v15), some (gv v22)], [gv q], gm_h s g))) (
      r_ifle (pc2 := 151) (t := 155) rfl h23 rfl (fun _ =>
      r_ic (x := 0) (pc2 := 156) rfl ic_0 rfl (
      jr_leaf rfl)) (fun _ =>
      r_ic (x := 1) (pc2 := 152) rfl ic_1 rfl (
      r_goto (t := 156) rfl (
      jr_leaf rfl)))) (fun v24 c h => match c, h with | _, rfl => (
      r_iload (pc2 := 158) rfl rfl rfl (
      jr_g fun h25 => r_cne (pc2 := 161) (t := 173) rfl h25 h20.2 rfl (fun _ =>
      r_iload (pc2 := 163) rfl rfl rfl (
      jr_g fun h26 => r_ifne (pc2 := 166) (t := 170) rfl h26 rfl (fun _ =>
      r_ic (x := 1) (pc2 := 167) rfl ic_1 rfl (
      r_goto (t := 171) rfl (
      r_istore (L2 := [some (.ref 3), j3, j4, some (gv c5), some (gv c6), some (gv 1), some (gv v8), some (gv v13), some (gv v15), some (gv v22)]) (pc2 := 173) rfl rfl rfl (
      r_iinc (kk := 1) (L2 := [some (.ref 3), j3, j4, some (gv c5), some (gv c6), some (gv 1), some (gv (v8 + 1)), some (gv v13), some (gv v15), some (gv v22)]) (pc2 := 176) rfl ic_1 rfl rfl rfl (
      r_goto (t := 19) rfl (
      ih 1 (v8 + 1) _ _ _ _ _ hj3 hj4 rfl rfl rfl)))))) (fun _ =>
      r_ic (x := 0) (pc2 := 171) rfl ic_0 rfl (
      r_istore (L2 := [some (.ref 3), j3, j4, some (gv c5), some (gv c6), some (gv 0), some (gv v8), some (gv v13), some (gv v15), some (gv v22)]) (pc2 := 173) rfl rfl rfl (
      r_iinc (kk := 1) (L2 := [some (.ref 3), j3, j4, some (gv c5), some (gv c6), some (gv 0), some (gv (v8 + 1)), some (gv v13), some (gv v15), some (gv v22)]) (pc2 := 176) rfl ic_1 rfl rfl rfl (
      r_goto (t := 19) rfl (
      ih 0 (v8 + 1) _ _ _ _ _ hj3 hj4 rfl rfl rfl))))))) (fun _ =>
      r_iinc (kk := 1) (L2 := [some (.ref 3), j3, j4, some (gv c5), some (gv c6), some (gv v7), some (gv (v8 + 1)), some (gv v13), some (gv v15), some (gv v22)]) (pc2 := 176) rfl ic_1 rfl rfl rfl (
      r_goto (t := 19) rfl (
      ih v7 (v8 + 1) _ _ _ _ _ hj3 hj4 rfl rfl rfl))))))))))))))))))))))))))))))))))))))))))))))))))))))))))))))))))))))))) (fun _ =>
      r_iload (pc2 := 181) rfl rfl rfl (
      jr_g fun hz => r_zret rfl hz rfl))))))
theorem rf_ck_holdsCell {s : gm_S} {n m : Nat} (hs : gm_sh s n m) (d : Nat)  (g : gm_T) (a1 : Int) (a2 : Int)  : jr (pI s g) (ck_holdsCell g a1 a2) (jm_cl jm_CD km_n (d + 2) 92 [.ref 3, gv a1, gv a2] (gm_h s g)) := by
  unfold ck_holdsCell
  exact (r_ent (cd := cd_92) (n := 10) (L0 := [some (.ref 3), some (gv a1), some (gv a2), none, none, none, none, none, none, none]) rfl rfl rfl rfl (
      r_ic (x := 2) (pc2 := 1) rfl ic_2 rfl (
      r_iload (pc2 := 2) rfl rfl rfl (
      r_imul (pc2 := 3) rfl rfl (
      r_ic (x := 1) (pc2 := 4) rfl ic_1 rfl (
      r_iadd (pc2 := 5) rfl rfl (
      r_istoreL (L3 := fun v1 => [some (.ref 3), some (gv a1), some (gv a2), some (gv v1), none, none, none, none, none, none]) (pc2 := 6) rfl rfl (fun _ => rfl) fun v1 => (
      r_ic (x := 2) (pc2 := 7) rfl ic_2 rfl (
      r_iload (pc2 := 8) rfl rfl rfl (
      r_imul (pc2 := 9) rfl rfl (
      r_ic (x := 1) (pc2 := 10) rfl ic_1 rfl (
      r_iadd (pc2 := 11) rfl rfl (
      r_istoreL (L3 := fun v2 => [some (.ref 3), some (gv a1), some (gv a2), some (gv v1), some (gv v2), none, none, none, none, none]) (pc2 := 13) rfl rfl (fun _ => rfl) fun v2 => (
      r_ic (x := 0) (pc2 := 14) rfl ic_0 rfl (
      r_istore (L2 := [some (.ref 3), some (gv a1), some (gv a2), some (gv v1), some (gv v2), some (gv 0), none, none, none, none]) (pc2 := 16) rfl rfl rfl (
      r_ic (x := 0) (pc2 := 17) rfl ic_0 rfl (
      r_istore (L2 := [some (.ref 3), some (gv a1), some (gv a2), some (gv v1), some (gv v2), some (gv 0), some (gv 0), none, none, none]) (pc2 := 19) rfl rfl rfl (
      rl_ck_holdsCell_l19 hs d  g v1 v2  fz 0 0 _ _ _ _ _ rfl rfl rfl rfl rfl))))))))))))))))))
theorem rl_ck_hasGoodSpots_l33 {s : gm_S} {n m : Nat} (hs : gm_sh s n m) (d : Nat)  (g : gm_T) (c7 : Int)  : ∀ (fuel : Nat) (v8 : Int), jr (fun (x : (Unit) ⊕ (Int)) (c : Option jm_R) => match x with | .inl q => (∃ (j9 : Option Value), jm_lg j9 = false ∧ c = jm_sup cd_93 (jm_cl jm_CD km_n (d + 2)) (76, [some (.ref 3), some (gv c7), j9], [], gm_h s g)) | .inr r => pI s g r c) (ck_hasGoodSpots_l33 g c7 fuel v8) (jm_sup cd_93 (jm_cl jm_CD km_n (d + 2)) (33, [some (.ref 3), some (gv c7), some (gv v8)], [], gm_h s g)) := by
  intro fuel
  induction fuel with
  | zero => intros; exact jr_none
  | succ fuel ih =>
    intro v8  
    unfold ck_hasGoodSpots_l33
    exact (
      r_iload (pc2 := 34) rfl rfl rfl (
      r_iload (pc2 := 35) rfl rfl rfl (
      jr_g fun h10 => r_cge (pc2 := 38) (t := 76) rfl h10.1 h10.2 rfl (fun _ =>
      r_aload (pc2 := 39) rfl rfl rfl (
      r_getA (pc2 := 42) rfl rfl (sh_T hs rfl rfl) (sh_A hs rfl rfl) (
      r_iload (pc2 := 43) rfl rfl rfl (
      jr_g fun h11 => r_iald (len := 5) (pc2 := 44) rfl rfl (sh_T hs rfl rfl) (sh_L hs rfl rfl) rfl h11 (
      r_aload (pc2 := 45) rfl rfl rfl (
      r_getA (pc2 := 48) rfl rfl (sh_T hs rfl rfl) (sh_A hs rfl rfl) (
      r_iload (pc2 := 49) rfl rfl rfl (
      jr_g fun h12 => r_iald (len := 5) (pc2 := 50) rfl rfl (sh_T hs rfl rfl) (sh_L hs rfl rfl) rfl h12 (
      jr_g fun h13 => r_cne (pc2 := 53) (t := 70) rfl h13.1 h13.2 rfl (fun _ =>
      r_aload (pc2 := 54) rfl rfl rfl (
      r_getA (pc2 := 57) rfl rfl (sh_T hs rfl rfl) (sh_A hs rfl rfl) (
      r_iload (pc2 := 58) rfl rfl rfl (
      r_iald (len := 5) (pc2 := 59) rfl rfl (sh_T hs rfl rfl) (sh_L hs rfl rfl) rfl h11 (
      r_aload (pc2 := 60) rfl rfl rfl (
      r_getA (pc2 := 63) rfl rfl (sh_T hs rfl rfl) (sh_A hs rfl rfl) (
      r_iload (pc2 := 64) rfl rfl rfl (
      r_iald (len := 5) (pc2 := 65) rfl rfl (sh_T hs rfl rfl) (sh_L hs rfl rfl) rfl h12 (
      jr_g fun h14 => r_cne (pc2 := 68) (t := 70) rfl h14.1 h14.2 rfl (fun _ =>
      r_ic (x := 0) (pc2 := 69) rfl ic_0 rfl (
      r_zret rfl (by decide) rfl)) (fun _ =>
      r_iinc (kk := 1) (L2 := [some (.ref 3), some (gv c7), some (gv (v8 + 1))]) (pc2 := 73) rfl ic_1 rfl rfl rfl (
      r_goto (t := 33) rfl (
      ih (v8 + 1))))))))))))) (fun _ =>
      r_iinc (kk := 1) (L2 := [some (.ref 3), some (gv c7), some (gv (v8 + 1))]) (pc2 := 73) rfl ic_1 rfl rfl rfl (
      r_goto (t := 33) rfl (
      ih (v8 + 1))))))))))))) (fun _ =>
      jr_leaf ⟨_, rfl, rfl⟩))))
theorem rl_ck_hasGoodSpots_l2 {s : gm_S} {n m : Nat} (hs : gm_sh s n m) (d : Nat)  (g : gm_T)   : ∀ (fuel : Nat) (v1 : Int) (j2 : Option Value) (hj2 : jm_lg j2 = false), jr (pI s g) (ck_hasGoodSpots_l2 g  fuel v1) (jm_sup cd_93 (jm_cl jm_CD km_n (d + 2)) (2, [some (.ref 3), some (gv v1), j2], [], gm_h s g)) := by
  intro fuel
  induction fuel with
  | zero => intros; exact jr_none
  | succ fuel ih =>
    intro v1 j2 hj2
    unfold ck_hasGoodSpots_l2
    exact (
      r_iload (pc2 := 3) rfl rfl rfl (
      r_aload (pc2 := 4) rfl rfl rfl (
      r_getI (pc2 := 7) rfl rfl (sh_T hs rfl rfl) (
      jr_g fun h3 => r_cge (pc2 := 10) (t := 82) rfl h3.1 h3.2 rfl (fun _ =>
      r_aload (pc2 := 11) rfl rfl rfl (
      r_aload (pc2 := 12) rfl rfl rfl (
      r_getA (pc2 := 15) rfl rfl (sh_T hs rfl rfl) (sh_A hs rfl rfl) (
      r_iload (pc2 := 16) rfl rfl rfl (
      jr_g fun h4 => r_iald (len := 5) (pc2 := 17) rfl rfl (sh_T hs rfl rfl) (sh_L hs rfl rfl) rfl h4 (
      r_aload (pc2 := 18) rfl rfl rfl (
      r_getA (pc2 := 21) rfl rfl (sh_T hs rfl rfl) (sh_A hs rfl rfl) (
      r_iload (pc2 := 22) rfl rfl rfl (
      r_iald (len := 5) (pc2 := 23) rfl rfl (sh_T hs rfl rfl) (sh_L hs rfl rfl) rfl h4 (
      r_callVP (pc2 := 26) (args := [.ref 3, gv (gm_I g 7 v1.toNat), gv (gm_I g 8 v1.toNat)]) (st2 := []) rfl rfl rfl rfl rfl rfl (rc_of (sh_T hs rfl rfl)) (rf_ck_holdsCell hs d g (gm_I g 7 v1.toNat) (gm_I g 8 v1.toNat) ) fun v5 => (
      jr_g fun h6 => r_ifne (pc2 := 29) (t := 31) rfl h6 rfl (fun _ =>
      r_ic (x := 0) (pc2 := 30) rfl ic_0 rfl (
      r_zret rfl (by decide) rfl)) (fun _ =>
      r_ic (x := 0) (pc2 := 32) rfl ic_0 rfl (
      r_istore (L2 := [some (.ref 3), some (gv v1), some (gv 0)]) (pc2 := 33) rfl rfl rfl (
      r_c1 (rl_ck_hasGoodSpots_l33 hs d  g v1  fz 0  ) (fun r c h => jr_leaf h) (fun _u c h => match c, h with | _, ⟨j17, hj17, rfl⟩ => (
      r_iinc (kk := 1) (L2 := [some (.ref 3), some (gv (v1 + 1)), j17]) (pc2 := 79) rfl ic_1 rfl rfl rfl (
      r_goto (t := 2) rfl (
      ih (v1 + 1) _ hj17)))))))))))))))))) (fun _ =>
      r_ic (x := 1) (pc2 := 83) rfl ic_1 rfl (
      r_zret rfl (by decide) rfl))))))
theorem rf_ck_hasGoodSpots {s : gm_S} {n m : Nat} (hs : gm_sh s n m) (d : Nat)  (g : gm_T)   : jr (pI s g) (ck_hasGoodSpots g ) (jm_cl jm_CD km_n (d + 3) 93 [.ref 3] (gm_h s g)) := by
  unfold ck_hasGoodSpots
  exact (r_ent (cd := cd_93) (n := 3) (L0 := [some (.ref 3), none, none]) rfl rfl rfl rfl (
      r_ic (x := 0) (pc2 := 1) rfl ic_0 rfl (
      r_istore (L2 := [some (.ref 3), some (gv 0), none]) (pc2 := 2) rfl rfl rfl (
      rl_ck_hasGoodSpots_l2 hs d  g   fz 0 _ rfl))))
theorem rf_ct_append {s : gm_S} {n m : Nat} (hs : gm_sh s n m) (d : Nat)  (g : gm_T) (a1 : Int)  : jr (eV s) (ct_append g a1) (jm_cl jm_CD km_n (d + 1) 95 [.ref 1, gv a1] (gm_h s g)) := by
  unfold ct_append
  exact (r_ent (cd := cd_95) (n := 2) (L0 := [some (.ref 1), some (gv a1)]) rfl rfl rfl rfl (
      r_aload (pc2 := 1) rfl rfl rfl (
      r_getI (pc2 := 4) rfl rfl (sh_T hs rfl rfl) (
      r_ic (x := 240) (pc2 := 7) rfl ic_240 rfl (
      jr_g fun h1 => r_cge (pc2 := 10) (t := 31) rfl h1 (rgk rfl) rfl (fun _ =>
      r_aload (pc2 := 11) rfl rfl rfl (
      r_getA (pc2 := 14) rfl rfl (sh_T hs rfl rfl) (sh_A hs rfl rfl) (
      r_aload (pc2 := 15) rfl rfl rfl (
      r_getI (pc2 := 18) rfl rfl (sh_T hs rfl rfl) (
      r_iload (pc2 := 19) rfl rfl rfl (
      r_i2b (pc2 := 20) rfl rfl (
      jr_g fun h3 => r_bast (len := 240) (pc2 := 21) rfl rfl (sh_T hs rfl rfl) (sh_L hs rfl rfl) rfl h3 fun g2 => (
      r_aload (pc2 := 22) rfl rfl rfl (
      r_dup (pc2 := 23) rfl rfl rfl (
      r_getI (pc2 := 26) rfl rfl (sh_T hs rfl rfl) (
      r_ic (x := 1) (pc2 := 27) rfl ic_1 rfl (
      r_iadd (pc2 := 28) rfl rfl (
      r_putI (pc2 := 31) rfl rfl (sh_T hs rfl rfl) fun g4 => (
      r_vret rfl rfl)))))))))))))) (fun _ =>
      r_vret rfl rfl))))))
theorem rl_ct_contains_l2 {s : gm_S} {n m : Nat} (hs : gm_sh s n m) (d : Nat)  (g : gm_T) (c1 : Int)  : ∀ (fuel : Nat) (v2 : Int), jr (pI s g) (ct_contains_l2 g c1 fuel v2) (jm_sup cd_98 (jm_cl jm_CD km_n (d + 1)) (2, [some (.ref 1), some (gv c1), some (gv v2)], [], gm_h s g)) := by
  intro fuel
  induction fuel with
  | zero => intros; exact jr_none
  | succ fuel ih =>
    intro v2  
    unfold ct_contains_l2
    exact (
      r_iload (pc2 := 3) rfl rfl rfl (
      r_aload (pc2 := 4) rfl rfl rfl (
      r_getI (pc2 := 7) rfl rfl (sh_T hs rfl rfl) (
      jr_g fun h3 => r_cge (pc2 := 10) (t := 27) rfl h3.1 h3.2 rfl (fun _ =>
      r_aload (pc2 := 11) rfl rfl rfl (
      r_iload (pc2 := 12) rfl rfl rfl (
      r_callVP (pc2 := 15) (args := [.ref 1, gv v2]) (st2 := []) rfl rfl rfl rfl rfl rfl (rc_of (sh_T hs rfl rfl)) (rf_ct_peek hs d g v2 ) fun v4 => (
      r_iload (pc2 := 16) rfl rfl rfl (
      jr_g fun h5 => r_cne (pc2 := 19) (t := 21) rfl h5.1 h5.2 rfl (fun _ =>
      r_ic (x := 1) (pc2 := 20) rfl ic_1 rfl (
      r_zret rfl (by decide) rfl)) (fun _ =>
      r_iinc (kk := 1) (L2 := [some (.ref 1), some (gv c1), some (gv (v2 + 1))]) (pc2 := 24) rfl ic_1 rfl rfl rfl (
      r_goto (t := 2) rfl (
      ih (v2 + 1))))))))) (fun _ =>
      r_ic (x := 0) (pc2 := 28) rfl ic_0 rfl (
      r_zret rfl (by decide) rfl))))))
theorem rf_ct_contains {s : gm_S} {n m : Nat} (hs : gm_sh s n m) (d : Nat)  (g : gm_T) (a1 : Int)  : jr (pI s g) (ct_contains g a1) (jm_cl jm_CD km_n (d + 2) 98 [.ref 1, gv a1] (gm_h s g)) := by
  unfold ct_contains
  exact (r_ent (cd := cd_98) (n := 3) (L0 := [some (.ref 1), some (gv a1), none]) rfl rfl rfl rfl (
      r_ic (x := 0) (pc2 := 1) rfl ic_0 rfl (
      r_istore (L2 := [some (.ref 1), some (gv a1), some (gv 0)]) (pc2 := 2) rfl rfl rfl (
      rl_ct_contains_l2 hs d  g a1  fz 0  ))))
theorem rf_cv_hasWord {s : gm_S} {n m : Nat} (hs : gm_sh s n m) (d : Nat)  (g : gm_T) (a1 : Int)  : jr (pI s g) (cv_hasWord g a1) (jm_cl jm_CD km_n (d + 1) 100 [.ref 22, gv a1] (gm_h s g)) := by
  unfold cv_hasWord
  exact (r_ent (cd := cd_100) (n := 2) (L0 := [some (.ref 22), some (gv a1)]) rfl rfl rfl rfl (
      r_aload (pc2 := 1) rfl rfl rfl (
      r_getI (pc2 := 4) rfl rfl (sh_T hs rfl rfl) (
      r_iload (pc2 := 5) rfl rfl rfl (
      r_ishr (pc2 := 6) rfl rfl (
      r_ic (x := 1) (pc2 := 7) rfl ic_1 rfl (
      r_iand (pc2 := 8) rfl rfl (
      r_ifeq (pc2 := 11) (t := 15) rfl (rg_toInt _) rfl (fun _ =>
      r_ic (x := 0) (pc2 := 16) rfl ic_0 rfl (
      r_zret rfl (by decide) rfl)) (fun _ =>
      r_ic (x := 1) (pc2 := 12) rfl ic_1 rfl (
      r_goto (t := 16) rfl (
      r_zret rfl (by decide) rfl)))))))))))
theorem rf_cv_groupHasWord {s : gm_S} {n m : Nat} (hs : gm_sh s n m) (d : Nat)  (g : gm_T) (a1 : Int)  : jr (pI s g) (cv_groupHasWord g a1) (jm_cl jm_CD km_n (d + 1) 101 [.ref 22, gv a1] (gm_h s g)) := by
  unfold cv_groupHasWord
  exact (r_ent (cd := cd_101) (n := 2) (L0 := [some (.ref 22), some (gv a1)]) rfl rfl rfl rfl (
      r_aload (pc2 := 1) rfl rfl rfl (
      r_getI (pc2 := 4) rfl rfl (sh_T hs rfl rfl) (
      r_aload (pc2 := 5) rfl rfl rfl (
      r_getA (pc2 := 8) rfl rfl (sh_T hs rfl rfl) (sh_A hs rfl rfl) (
      r_getA (pc2 := 11) rfl rfl (sh_T hs rfl rfl) (sh_A hs rfl rfl) (
      r_iload (pc2 := 12) rfl rfl rfl (
      jr_g fun h1 => r_iald (len := 30) (pc2 := 13) rfl rfl (sh_T hs rfl rfl) (sh_L hs rfl rfl) rfl h1 (
      r_iand (pc2 := 14) rfl rfl (
      r_ifeq (pc2 := 17) (t := 21) rfl (rg_toInt _) rfl (fun _ =>
      r_ic (x := 0) (pc2 := 22) rfl ic_0 rfl (
      r_zret rfl (by decide) rfl)) (fun _ =>
      r_ic (x := 1) (pc2 := 18) rfl ic_1 rfl (
      r_goto (t := 22) rfl (
      r_zret rfl (by decide) rfl)))))))))))))
theorem rf_cv_stands {s : gm_S} {n m : Nat} (hs : gm_sh s n m) (d : Nat)  (g : gm_T) (a1 : Int)  : jr (pI s g) (cv_stands g a1) (jm_cl jm_CD km_n (d + 1) 102 [.ref 22, gv a1] (gm_h s g)) := by
  unfold cv_stands
  exact (r_ent (cd := cd_102) (n := 2) (L0 := [some (.ref 22), some (gv a1)]) rfl rfl rfl rfl (
      r_aload (pc2 := 1) rfl rfl rfl (
      r_getI (pc2 := 4) rfl rfl (sh_T hs rfl rfl) (
      r_aload (pc2 := 5) rfl rfl rfl (
      r_getI (pc2 := 8) rfl rfl (sh_T hs rfl rfl) (
      r_ior (pc2 := 9) rfl rfl (
      r_aload (pc2 := 10) rfl rfl rfl (
      r_getA (pc2 := 13) rfl rfl (sh_T hs rfl rfl) (sh_A hs rfl rfl) (
      r_getA (pc2 := 16) rfl rfl (sh_T hs rfl rfl) (sh_A hs rfl rfl) (
      r_iload (pc2 := 17) rfl rfl rfl (
      jr_g fun h1 => r_iald (len := 30) (pc2 := 18) rfl rfl (sh_T hs rfl rfl) (sh_L hs rfl rfl) rfl h1 (
      r_iand (pc2 := 19) rfl rfl (
      r_ifeq (pc2 := 22) (t := 26) rfl (rg_toInt _) rfl (fun _ =>
      r_ic (x := 0) (pc2 := 27) rfl ic_0 rfl (
      r_zret rfl (by decide) rfl)) (fun _ =>
      r_ic (x := 1) (pc2 := 23) rfl ic_1 rfl (
      r_goto (t := 27) rfl (
      r_zret rfl (by decide) rfl))))))))))))))))
theorem rl_cv_standing_l4 {s : gm_S} {n m : Nat} (hs : gm_sh s n m) (d : Nat)  (g : gm_T)   : ∀ (fuel : Nat) (v1 : Int) (v2 : Int), jr (fun (q : Int) (c : Option jm_R) => ∃ (j4 : Option Value), jm_lg j4 = false ∧ c = jm_sup cd_103 (jm_cl jm_CD km_n (d + 1)) (35, [some (.ref 22), some (gv q), j4], [], gm_h s g)) (cv_standing_l4 g  fuel v1 v2) (jm_sup cd_103 (jm_cl jm_CD km_n (d + 1)) (4, [some (.ref 22), some (gv v1), some (gv v2)], [], gm_h s g)) := by
  intro fuel
  induction fuel with
  | zero => intros; exact jr_none
  | succ fuel ih =>
    intro v1 v2  
    unfold cv_standing_l4
    exact (
      r_iload (pc2 := 5) rfl rfl rfl (
      r_aload (pc2 := 6) rfl rfl rfl (
      r_getA (pc2 := 9) rfl rfl (sh_T hs rfl rfl) (sh_A hs rfl rfl) (
      r_getI (pc2 := 12) rfl rfl (sh_T hs rfl rfl) (
      jr_g fun h5 => r_cge (pc2 := 15) (t := 35) rfl h5.1 h5.2 rfl (fun _ =>
      r_aload (pc2 := 16) rfl rfl rfl (
      r_iload (pc2 := 17) rfl rfl rfl (
      r_callVP (pc2 := 20) (args := [.ref 22, gv v2]) (st2 := []) rfl rfl rfl rfl rfl rfl (rc_of (sh_T hs rfl rfl)) (rf_cv_stands hs d g v2 ) fun v6 => (
      jr_g fun h7 => r_ifeq (pc2 := 23) (t := 29) rfl h7 rfl (fun _ =>
      r_iinc (kk := 1) (L2 := [some (.ref 22), some (gv v1), some (gv (v2 + 1))]) (pc2 := 32) rfl ic_1 rfl rfl rfl (
      r_goto (t := 4) rfl (
      ih v1 (v2 + 1)))) (fun _ =>
      r_iload (pc2 := 24) rfl rfl rfl (
      r_ic (x := 1) (pc2 := 25) rfl ic_1 rfl (
      r_iload (pc2 := 26) rfl rfl rfl (
      r_ishl (pc2 := 27) rfl rfl (
      r_ior (pc2 := 28) rfl rfl (
      r_istoreL (L3 := fun v9 => [some (.ref 22), some (gv v9), some (gv v2)]) (pc2 := 29) rfl rfl (fun _ => rfl) fun v9 => (
      r_iinc (kk := 1) (L2 := [some (.ref 22), some (gv v9), some (gv (v2 + 1))]) (pc2 := 32) rfl ic_1 rfl rfl rfl (
      r_goto (t := 4) rfl (
      ih v9 (v2 + 1)))))))))))))) (fun _ =>
      jr_leaf ⟨_, rfl, rfl⟩))))))
theorem rf_cv_standing {s : gm_S} {n m : Nat} (hs : gm_sh s n m) (d : Nat)  (g : gm_T)   : jr (pI s g) (cv_standing g ) (jm_cl jm_CD km_n (d + 2) 103 [.ref 22] (gm_h s g)) := by
  unfold cv_standing
  exact (r_ent (cd := cd_103) (n := 3) (L0 := [some (.ref 22), none, none]) rfl rfl rfl rfl (
      r_ic (x := 0) (pc2 := 1) rfl ic_0 rfl (
      r_istore (L2 := [some (.ref 22), some (gv 0), none]) (pc2 := 2) rfl rfl rfl (
      r_ic (x := 0) (pc2 := 3) rfl ic_0 rfl (
      r_istore (L2 := [some (.ref 22), some (gv 0), some (gv 0)]) (pc2 := 4) rfl rfl rfl (
      r_b1 (rl_cv_standing_l4 hs d  g   fz 0 0  ) (fun v11 c h => match c, h with | _, ⟨j12, hj12, rfl⟩ => (
      r_iload (pc2 := 36) rfl rfl rfl (
      r_iret rfl rfl)))))))))
theorem rl_cv_bitAt_l2 {s : gm_S} {n m : Nat} (hs : gm_sh s n m) (d : Nat)  (g : gm_T) (c1 : Int) (c2 : Int)  : ∀ (fuel : Nat) (v3 : Int) (j4 : Option Value), jr (pI s g) (cv_bitAt_l2 n g c1 c2 fuel v3) (jm_sup cd_104 (jm_cl jm_CD km_n (d + 1)) (2, [some (.ref 22), some (gv c1), some (gv c2), some (gv v3), j4, none], [], gm_h s g)) := by
  intro fuel
  induction fuel with
  | zero => intros; exact jr_none
  | succ fuel ih =>
    intro v3 j4 
    unfold cv_bitAt_l2
    exact (
      r_iload (pc2 := 3) rfl rfl rfl (
      r_aload (pc2 := 4) rfl rfl rfl (
      r_getA (pc2 := 7) rfl rfl (sh_T hs rfl rfl) (sh_A hs rfl rfl) (
      r_getI (pc2 := 10) rfl rfl (sh_T hs rfl rfl) (
      jr_g fun h5 => r_cge (pc2 := 13) (t := 75) rfl h5.1 h5.2 rfl (fun _ =>
      r_aload (pc2 := 14) rfl rfl rfl (
      r_getA (pc2 := 17) rfl rfl (sh_T hs rfl rfl) (sh_A hs rfl rfl) (
      r_iload (pc2 := 18) rfl rfl rfl (
      jr_g fun h6 => r_lald (len := 30) (pc2 := 19) rfl rfl (sh_T hs rfl rfl) (sh_L hs rfl rfl) rfl h6 (
      r_lstoreL (L3 := fun v7 => [some (.ref 22), some (gv c1), some (gv c2), some (gv v3), some (.long v7), none]) (pc2 := 21) rfl rfl (fun _ => rfl) fun v7 => (
      r_aload (pc2 := 22) rfl rfl rfl (
      r_iload (pc2 := 23) rfl rfl rfl (
      r_callVP (pc2 := 26) (args := [.ref 22, gv v3]) (st2 := []) rfl rfl rfl rfl rfl rfl (rc_of (sh_T hs rfl rfl)) (rf_cv_stands hs d g v3 ) fun v8 => (
      jr_g fun h9 => r_ifeq (pc2 := 29) (t := 69) rfl h9 rfl (fun _ =>
      r_iinc (kk := 1) (L2 := [some (.ref 22), some (gv c1), some (gv c2), some (gv (v3 + 1)), some (.long v7), none]) (pc2 := 72) rfl ic_1 rfl rfl rfl (
      r_goto (t := 2) rfl (
      ih (v3 + 1) _))) (fun _ =>
      r_aload (pc2 := 30) rfl rfl rfl (
      r_getA (pc2 := 33) rfl rfl (sh_T hs rfl rfl) (sh_A hs rfl rfl) (
      r_getA (pc2 := 36) rfl rfl (sh_T hs rfl rfl) (sh_A hs rfl rfl) (
      r_iload (pc2 := 37) rfl rfl rfl (
      jr_g fun h11 => r_aald (pc2 := 38) rfl rfl hs h11 (
      r_lload (pc2 := 40) rfl rfl rfl (
      r_callSP (pc2 := 43) (args := [.long v7]) (st2 := [.ref (bA v3.toNat)]) rfl rfl rfl rfl rfl rfl (rf_cc_turn hs d g v7 ) fun v12 => (
      r_iload (pc2 := 44) rfl rfl rfl (
      r_i2l (pc2 := 45) rfl rfl (
      r_lload (pc2 := 47) rfl rfl rfl (
      r_callSP (pc2 := 50) (args := [.long v7]) (st2 := [.long (iL c1), gv v12, .ref (bA v3.toNat)]) rfl rfl rfl rfl rfl rfl (rf_cc_x hs d g v7 ) fun v13 => (
      r_i2l (pc2 := 51) rfl rfl (
      r_lsub (pc2 := 52) rfl rfl (
      r_iload (pc2 := 53) rfl rfl rfl (
      r_i2l (pc2 := 54) rfl rfl (
      r_lload (pc2 := 56) rfl rfl rfl (
      r_callSP (pc2 := 59) (args := [.long v7]) (st2 := [.long (iL c2), .long ((iL c1) - (iL v13)), gv v12, .ref (bA v3.toNat)]) rfl rfl rfl rfl rfl rfl (rf_cc_y hs d g v7 ) fun v14 => (
      r_i2l (pc2 := 60) rfl rfl (
      r_lsub (pc2 := 61) rfl rfl (
      r_callVP (pc2 := 64) (args := [.ref (bA v3.toNat), gv v12, .long ((iL c1) - (iL v13)), .long ((iL c2) - (iL v14))]) (st2 := []) rfl rfl rfl rfl rfl rfl (rc_of (sh_b0 hs (bn_lt hs h11))) (rf_cb_hasCell hs d g v3.toNat v12 ((iL c1) - (iL v13)) ((iL c2) - (iL v14)) (bn_lt hs h11)) fun v15 => (
      jr_g fun h16 => r_ifeq (pc2 := 67) (t := 69) rfl h16 rfl (fun _ =>
      r_iinc (kk := 1) (L2 := [some (.ref 22), some (gv c1), some (gv c2), some (gv (v3 + 1)), some (.long v7), none]) (pc2 := 72) rfl ic_1 rfl rfl rfl (
      r_goto (t := 2) rfl (
      ih (v3 + 1) _))) (fun _ =>
      r_iload (pc2 := 68) rfl rfl rfl (
      r_iret rfl rfl)))))))))))))))))))))))))))))))) (fun _ =>
      r_ic (x := -1) (pc2 := 76) rfl ic_m1 rfl (
      r_iret rfl rfl)))))))
theorem rf_cv_bitAt {s : gm_S} {n m : Nat} (hs : gm_sh s n m) (d : Nat)  (g : gm_T) (a1 : Int) (a2 : Int)  : jr (pI s g) (cv_bitAt n g a1 a2) (jm_cl jm_CD km_n (d + 2) 104 [.ref 22, gv a1, gv a2] (gm_h s g)) := by
  unfold cv_bitAt
  exact (r_ent (cd := cd_104) (n := 6) (L0 := [some (.ref 22), some (gv a1), some (gv a2), none, none, none]) rfl rfl rfl rfl (
      r_ic (x := 0) (pc2 := 1) rfl ic_0 rfl (
      r_istore (L2 := [some (.ref 22), some (gv a1), some (gv a2), some (gv 0), none, none]) (pc2 := 2) rfl rfl rfl (
      rl_cv_bitAt_l2 hs d  g a1 a2  fz 0 _ ))))
theorem rf_cv_tell {s : gm_S} {n m : Nat} (hs : gm_sh s n m) (d : Nat)  (g : gm_T) (a1 : Int) (a2 : Int) (a3 : Int)  : jr (eI s) (cv_tell g a1 a2 a3) (jm_cl jm_CD km_n (d + 1) 110 [.ref 22, gv a1, gv a2, gv a3] (gm_h s g)) := by
  unfold cv_tell
  exact (r_ent (cd := cd_110) (n := 4) (L0 := [some (.ref 22), some (gv a1), some (gv a2), some (gv a3)]) rfl rfl rfl rfl (
      r_aload (pc2 := 1) rfl rfl rfl (
      r_iload (pc2 := 2) rfl rfl rfl (
      r_putI (pc2 := 5) rfl rfl (sh_T hs rfl rfl) fun g1 => (
      r_aload (pc2 := 6) rfl rfl rfl (
      r_iload (pc2 := 7) rfl rfl rfl (
      r_putI (pc2 := 10) rfl rfl (sh_T hs rfl rfl) fun g2 => (
      r_aload (pc2 := 11) rfl rfl rfl (
      r_iload (pc2 := 12) rfl rfl rfl (
      r_putI (pc2 := 15) rfl rfl (sh_T hs rfl rfl) fun g3 => (
      r_aload (pc2 := 16) rfl rfl rfl (
      r_ic (x := 0) (pc2 := 17) rfl ic_0 rfl (
      r_putI (pc2 := 20) rfl rfl (sh_T hs rfl rfl) fun g4 => (
      r_iload (pc2 := 21) rfl rfl rfl (
      r_iret rfl rfl)))))))))))))))
theorem rl_cv_tellWay_l34 {s : gm_S} {n m : Nat} (hs : gm_sh s n m) (d : Nat)  (c6 : Int)  : ∀ (fuel : Nat) (v7 : Int) (g8 : gm_T) (j4 : Option Value) (j5 : Option Value) (hj4 : jm_lg j4 = false) (hj5 : jm_lg j5 = false), jr (fun (q : gm_T) (c : Option jm_R) => ∃ (j9 : Option Value), jm_lg j9 = false ∧ c = jm_sup cd_113 (jm_cl jm_CD km_n (d + 2)) (75, [some (.ref 22), j4, j5, some (gv c6), j9], [], gm_h s q)) (cv_tellWay_l34  c6 fuel v7 g8) (jm_sup cd_113 (jm_cl jm_CD km_n (d + 2)) (34, [some (.ref 22), j4, j5, some (gv c6), some (gv v7)], [], gm_h s g8)) := by
  intro fuel
  induction fuel with
  | zero => intros; exact jr_none
  | succ fuel ih =>
    intro v7 g8 j4 j5 hj4 hj5
    unfold cv_tellWay_l34
    exact (
      r_iload (pc2 := 36) rfl rfl rfl (
      r_iload (pc2 := 37) rfl rfl rfl (
      jr_g fun h11 => r_cge (pc2 := 40) (t := 75) rfl h11.1 h11.2 rfl (fun _ =>
      r_aload (pc2 := 41) rfl rfl rfl (
      r_getA (pc2 := 44) rfl rfl (sh_T hs rfl rfl) (sh_A hs rfl rfl) (
      r_aload (pc2 := 45) rfl rfl rfl (
      r_getI (pc2 := 48) rfl rfl (sh_T hs rfl rfl) (
      r_aload (pc2 := 49) rfl rfl rfl (
      r_getA (pc2 := 52) rfl rfl (sh_T hs rfl rfl) (sh_A hs rfl rfl) (
      r_getA (pc2 := 55) rfl rfl (sh_T hs rfl rfl) (sh_A hs rfl rfl) (
      r_iload (pc2 := 57) rfl rfl rfl (
      jr_g fun h12 => r_iald (len := 30) (pc2 := 58) rfl rfl (sh_T hs rfl rfl) (sh_L hs rfl rfl) rfl h12 (
      jr_g fun h14 => r_iast (len := 60) (pc2 := 59) rfl rfl (sh_T hs rfl rfl) (sh_L hs rfl rfl) rfl h14 fun g13 => (
      r_aload (pc2 := 60) rfl rfl rfl (
      r_dup (pc2 := 61) rfl rfl rfl (
      r_getI (pc2 := 64) rfl rfl (sh_T hs rfl rfl) (
      r_ic (x := 1) (pc2 := 65) rfl ic_1 rfl (
      r_iadd (pc2 := 66) rfl rfl (
      r_putI (pc2 := 69) rfl rfl (sh_T hs rfl rfl) fun g15 => (
      r_iinc (kk := 1) (L2 := [some (.ref 22), j4, j5, some (gv c6), some (gv (v7 + 1))]) (pc2 := 72) rfl ic_1 rfl rfl rfl (
      r_goto (t := 34) rfl (
      ih (v7 + 1) g15 _ _ hj4 hj5))))))))))))))))))) (fun _ =>
      jr_leaf ⟨_, rfl, rfl⟩))))
theorem rf_cv_tellWay {s : gm_S} {n m : Nat} (hs : gm_sh s n m) (d : Nat)  (g : gm_T) (a1 : Int) (a2 : Int)  : jr (eV s) (cv_tellWay g a1 a2) (jm_cl jm_CD km_n (d + 3) 113 [.ref 22, gv a1, gv a2] (gm_h s g)) := by
  unfold cv_tellWay
  exact (r_ent (cd := cd_113) (n := 5) (L0 := [some (.ref 22), some (gv a1), some (gv a2), none, none]) rfl rfl rfl rfl (
      r_aload (pc2 := 1) rfl rfl rfl (
      r_getA (pc2 := 4) rfl rfl (sh_T hs rfl rfl) (sh_A hs rfl rfl) (
      r_iload (pc2 := 5) rfl rfl rfl (
      r_aload (pc2 := 6) rfl rfl rfl (
      r_getA (pc2 := 9) rfl rfl (sh_T hs rfl rfl) (sh_A hs rfl rfl) (
      r_getJ (pc2 := 12) rfl rfl (sh_T hs rfl rfl) (
      r_callVV (pc2 := 15) (args := [.ref 14, gv a2, .long (gm_J g 14 5)]) (st2 := []) rfl rfl rfl rfl rfl rfl (rc_of (sh_T hs rfl rfl)) (rf_cj_measure hs d g a2 (gm_J g 14 5) ) fun g1 => (
      r_aload (pc2 := 16) rfl rfl rfl (
      r_getA (pc2 := 19) rfl rfl (sh_T hs rfl rfl) (sh_A hs rfl rfl) (
      r_iload (pc2 := 20) rfl rfl rfl (
      r_aload (pc2 := 21) rfl rfl rfl (
      r_getA (pc2 := 24) rfl rfl (sh_T hs rfl rfl) (sh_A hs rfl rfl) (
      r_getJ (pc2 := 27) rfl rfl (sh_T hs rfl rfl) (
      r_callVI (pc2 := 30) (args := [.ref 14, gv a1, .long (gm_J g1 14 5)]) (st2 := []) rfl rfl rfl rfl rfl rfl (rc_of (sh_T hs rfl rfl)) (rf_cj_walk hs d g1 a1 (gm_J g1 14 5) ) fun v2 g3 => (
      r_istore (L2 := [some (.ref 22), some (gv a1), some (gv a2), some (gv v2), none]) (pc2 := 31) rfl rfl rfl (
      r_ic (x := 0) (pc2 := 32) rfl ic_0 rfl (
      r_istore (L2 := [some (.ref 22), some (gv a1), some (gv a2), some (gv v2), some (gv 0)]) (pc2 := 34) rfl rfl rfl (
      r_b1 (rl_cv_tellWay_l34 hs d   v2  fz 0 g3 _ _ rfl rfl) (fun g20 c h => match c, h with | _, ⟨j19, hj19, rfl⟩ => (
      r_vret rfl rfl)))))))))))))))))))))
theorem rf_cv_tellBetween {s : gm_S} {n m : Nat} (hs : gm_sh s n m) (d : Nat)  (g : gm_T) (a1 : Int) (a2 : Int) (a3 : Int) (a4 : Int) (a5 : Int)  : jr (eI s) (cv_tellBetween g a1 a2 a3 a4 a5) (jm_cl jm_CD km_n (d + 4) 111 [.ref 22, gv a1, gv a2, gv a3, gv a4, gv a5] (gm_h s g)) := by
  unfold cv_tellBetween
  exact (r_ent (cd := cd_111) (n := 6) (L0 := [some (.ref 22), some (gv a1), some (gv a2), some (gv a3), some (gv a4), some (gv a5)]) rfl rfl rfl rfl (
      r_aload (pc2 := 1) rfl rfl rfl (
      r_iload (pc2 := 2) rfl rfl rfl (
      r_iload (pc2 := 3) rfl rfl rfl (
      r_iload (pc2 := 4) rfl rfl rfl (
      r_callVI (pc2 := 7) (args := [.ref 22, gv a1, gv a2, gv a3]) (st2 := []) rfl rfl rfl rfl rfl rfl (rc_of (sh_T hs rfl rfl)) (rf_cv_tell hs (d + 2) g a1 a2 a3 ) fun v1 g2 => (
      r_pop (pc2 := 8) rfl rfl rfl (
      r_aload (pc2 := 9) rfl rfl rfl (
      r_iload (pc2 := 11) rfl rfl rfl (
      r_iload (pc2 := 13) rfl rfl rfl (
      r_callVV (pc2 := 16) (args := [.ref 22, gv a4, gv a5]) (st2 := []) rfl rfl rfl rfl rfl rfl (rc_of (sh_T hs rfl rfl)) (rf_cv_tellWay hs d g2 a4 a5 ) fun g3 => (
      r_iload (pc2 := 17) rfl rfl rfl (
      r_iret rfl rfl)))))))))))))
theorem rf_cc_move {s : gm_S} {n m : Nat} (hs : gm_sh s n m) (d : Nat)  (g : gm_T) (a0 : Int64) (a2 : Int64)  : jr (pJ s g) (cc_move g a0 a2) (jm_cl jm_CD km_n (d + 3) 316 [.long a0, .long a2] (gm_h s g)) := by
  unfold cc_move
  exact (r_ent (cd := cd_316) (n := 4) (L0 := [some (.long a0), none, some (.long a2), none]) rfl rfl rfl rfl (
      r_lload (pc2 := 1) rfl rfl rfl (
      r_lload (pc2 := 2) rfl rfl rfl (
      r_callSL (pc2 := 5) (args := [.long a0]) (st2 := [.long a2]) rfl rfl rfl rfl rfl rfl (rf_cc_inverse hs d g a0 ) fun v1 => (
      r_callSL (pc2 := 8) (args := [.long a2, .long v1]) (st2 := []) rfl rfl rfl rfl rfl rfl (rf_cc_onto hs d g a2 v1 ) fun v2 => (
      r_lret rfl rfl))))))
theorem rl_cv_firstHit_l40 {s : gm_S} {n m : Nat} (hs : gm_sh s n m) (d : Nat)  (g : gm_T) (c11 : Int) (c12 : Int64) (c13 : Int) (c14 : Int) (c15 : Int64)  : ∀ (fuel : Nat) (v16 : Int), jr (fun (x : (Unit) ⊕ (Int)) (c : Option jm_R) => match x with | .inl q => (∃ (j17 : Option Value), jm_lg j17 = false ∧ c = jm_sup cd_107 (jm_cl jm_CD km_n (d + 3)) (100, [some (.ref 22), some (gv c11), some (.long c12), none, some (gv c13), some (gv c14), some (.long c15), none, j17], [], gm_h s g)) | .inr r => pI s g r c) (cv_firstHit_l40 n g c11 c12 c13 c14 c15 fuel v16) (jm_sup cd_107 (jm_cl jm_CD km_n (d + 3)) (40, [some (.ref 22), some (gv c11), some (.long c12), none, some (gv c13), some (gv c14), some (.long c15), none, some (gv v16)], [], gm_h s g)) := by
  intro fuel
  induction fuel with
  | zero => intros; exact jr_none
  | succ fuel ih =>
    intro v16  
    unfold cv_firstHit_l40
    exact (
      r_iload (pc2 := 42) rfl rfl rfl (
      r_aload (pc2 := 43) rfl rfl rfl (
      r_getA (pc2 := 46) rfl rfl (sh_T hs rfl rfl) (sh_A hs rfl rfl) (
      r_getI (pc2 := 49) rfl rfl (sh_T hs rfl rfl) (
      jr_g fun h18 => r_cge (pc2 := 52) (t := 100) rfl h18.1 h18.2 rfl (fun _ =>
      r_iload (pc2 := 54) rfl rfl rfl (
      r_iload (pc2 := 56) rfl rfl rfl (
      r_ishr (pc2 := 57) rfl rfl (
      r_ic (x := 1) (pc2 := 58) rfl ic_1 rfl (
      r_iand (pc2 := 59) rfl rfl (
      r_ifeq (pc2 := 62) (t := 94) rfl (rg_toInt _) rfl (fun _ =>
      r_iinc (kk := 1) (L2 := [some (.ref 22), some (gv c11), some (.long c12), none, some (gv c13), some (gv c14), some (.long c15), none, some (gv (v16 + 1))]) (pc2 := 97) rfl ic_1 rfl rfl rfl (
      r_goto (t := 40) rfl (
      ih (v16 + 1)))) (fun _ =>
      r_aload (pc2 := 63) rfl rfl rfl (
      r_getA (pc2 := 66) rfl rfl (sh_T hs rfl rfl) (sh_A hs rfl rfl) (
      r_iload (pc2 := 68) rfl rfl rfl (
      r_lload (pc2 := 70) rfl rfl rfl (
      r_iload (pc2 := 72) rfl rfl rfl (
      r_aload (pc2 := 73) rfl rfl rfl (
      r_getA (pc2 := 76) rfl rfl (sh_T hs rfl rfl) (sh_A hs rfl rfl) (
      r_iload (pc2 := 78) rfl rfl rfl (
      jr_g fun h20 => r_lald (len := 30) (pc2 := 79) rfl rfl (sh_T hs rfl rfl) (sh_L hs rfl rfl) rfl h20 (
      r_callVP (pc2 := 82) (args := [.ref 10, gv c14, .long c15, gv v16, .long (gm_J g 23 v16.toNat)]) (st2 := []) rfl rfl rfl rfl rfl rfl (rc_of (sh_T hs rfl rfl)) (rf_cf_collide hs d g c14 c15 v16 (gm_J g 23 v16.toNat) ) fun v21 => (
      jr_g fun h22 => r_ifeq (pc2 := 85) (t := 94) rfl h22 rfl (fun _ =>
      r_iinc (kk := 1) (L2 := [some (.ref 22), some (gv c11), some (.long c12), none, some (gv c13), some (gv c14), some (.long c15), none, some (gv (v16 + 1))]) (pc2 := 97) rfl ic_1 rfl rfl rfl (
      r_goto (t := 40) rfl (
      ih (v16 + 1)))) (fun _ =>
      r_ic (x := 30) (pc2 := 87) rfl ic_30 rfl (
      r_iload (pc2 := 89) rfl rfl rfl (
      r_imul (pc2 := 90) rfl rfl (
      r_iload (pc2 := 92) rfl rfl rfl (
      r_iadd (pc2 := 93) rfl rfl (
      r_iret rfl rfl))))))))))))))))))))))) (fun _ =>
      jr_leaf ⟨_, rfl, rfl⟩))))))
theorem rl_cv_firstHit_l3 {s : gm_S} {n m : Nat} (hs : gm_sh s n m) (d : Nat)  (g : gm_T) (c1 : Int) (c2 : Int64) (c3 : Int)  : ∀ (fuel : Nat) (v4 : Int) (j5 : Option Value) (j6 : Option Value) (hj6 : jm_lg j6 = false), jr (pI s g) (cv_firstHit_l3 n g c1 c2 c3 fuel v4) (jm_sup cd_107 (jm_cl jm_CD km_n (d + 3)) (3, [some (.ref 22), some (gv c1), some (.long c2), none, some (gv c3), some (gv v4), j5, none, j6], [], gm_h s g)) := by
  intro fuel
  induction fuel with
  | zero => intros; exact jr_none
  | succ fuel ih =>
    intro v4 j5 j6 hj6
    unfold cv_firstHit_l3
    exact (
      r_iload (pc2 := 5) rfl rfl rfl (
      r_aload (pc2 := 6) rfl rfl rfl (
      r_getA (pc2 := 9) rfl rfl (sh_T hs rfl rfl) (sh_A hs rfl rfl) (
      r_getI (pc2 := 12) rfl rfl (sh_T hs rfl rfl) (
      jr_g fun h7 => r_cge (pc2 := 15) (t := 106) rfl h7.1 h7.2 rfl (fun _ =>
      r_iload (pc2 := 16) rfl rfl rfl (
      r_iload (pc2 := 18) rfl rfl rfl (
      r_ishr (pc2 := 19) rfl rfl (
      r_ic (x := 1) (pc2 := 20) rfl ic_1 rfl (
      r_iand (pc2 := 21) rfl rfl (
      r_ifeq (pc2 := 24) (t := 100) rfl (rg_toInt _) rfl (fun _ =>
      r_iinc (kk := 1) (L2 := [some (.ref 22), some (gv c1), some (.long c2), none, some (gv c3), some (gv (v4 + 1)), j5, none, j6]) (pc2 := 103) rfl ic_1 rfl rfl rfl (
      r_goto (t := 3) rfl (
      ih (v4 + 1) _ _ hj6))) (fun _ =>
      r_lload (pc2 := 25) rfl rfl rfl (
      r_aload (pc2 := 26) rfl rfl rfl (
      r_getA (pc2 := 29) rfl rfl (sh_T hs rfl rfl) (sh_A hs rfl rfl) (
      r_iload (pc2 := 31) rfl rfl rfl (
      jr_g fun h9 => r_lald (len := 30) (pc2 := 32) rfl rfl (sh_T hs rfl rfl) (sh_L hs rfl rfl) rfl h9 (
      r_callSL (pc2 := 35) (args := [.long c2, .long (gm_J g 23 v4.toNat)]) (st2 := []) rfl rfl rfl rfl rfl rfl (rf_cc_onto hs (d + 1) g c2 (gm_J g 23 v4.toNat) ) fun v10 => (
      r_lstore (L2 := [some (.ref 22), some (gv c1), some (.long c2), none, some (gv c3), some (gv v4), some (.long v10), none, j6]) (pc2 := 37) rfl rfl rfl (
      r_ic (x := 0) (pc2 := 38) rfl ic_0 rfl (
      r_istore (L2 := [some (.ref 22), some (gv c1), some (.long c2), none, some (gv c3), some (gv v4), some (.long v10), none, some (gv 0)]) (pc2 := 40) rfl rfl rfl (
      r_c1 (rl_cv_firstHit_l40 hs d  g c1 c2 c3 v4 v10  fz 0  ) (fun r c h => jr_leaf h) (fun _u c h => match c, h with | _, ⟨j24, hj24, rfl⟩ => (
      r_iinc (kk := 1) (L2 := [some (.ref 22), some (gv c1), some (.long c2), none, some (gv c3), some (gv (v4 + 1)), some (.long v10), none, j24]) (pc2 := 103) rfl ic_1 rfl rfl rfl (
      r_goto (t := 3) rfl (
      ih (v4 + 1) _ _ hj24)))))))))))))))))))) (fun _ =>
      r_ic (x := -1) (pc2 := 107) rfl ic_m1 rfl (
      r_iret rfl rfl)))))))
theorem rf_cv_firstHit {s : gm_S} {n m : Nat} (hs : gm_sh s n m) (d : Nat)  (g : gm_T) (a1 : Int) (a2 : Int64) (a4 : Int)  : jr (pI s g) (cv_firstHit n g a1 a2 a4) (jm_cl jm_CD km_n (d + 4) 107 [.ref 22, gv a1, .long a2, gv a4] (gm_h s g)) := by
  unfold cv_firstHit
  exact (r_ent (cd := cd_107) (n := 9) (L0 := [some (.ref 22), some (gv a1), some (.long a2), none, some (gv a4), none, none, none, none]) rfl rfl rfl rfl (
      r_ic (x := 0) (pc2 := 1) rfl ic_0 rfl (
      r_istore (L2 := [some (.ref 22), some (gv a1), some (.long a2), none, some (gv a4), some (gv 0), none, none, none]) (pc2 := 3) rfl rfl rfl (
      rl_cv_firstHit_l3 hs d  g a1 a2 a4  fz 0 _ _ rfl))))
theorem rf_cv_tellAround {s : gm_S} {n m : Nat} (hs : gm_sh s n m) (d : Nat)  (g : gm_T) (a1 : Int) (a2 : Int) (a3 : Int) (a4 : Int) (a5 : Int)  : jr (eI s) (cv_tellAround g a1 a2 a3 a4 a5) (jm_cl jm_CD km_n (d + 4) 112 [.ref 22, gv a1, gv a2, gv a3, gv a4, gv a5] (gm_h s g)) := by
  unfold cv_tellAround
  exact (r_ent (cd := cd_112) (n := 6) (L0 := [some (.ref 22), some (gv a1), some (gv a2), some (gv a3), some (gv a4), some (gv a5)]) rfl rfl rfl rfl (
      r_aload (pc2 := 1) rfl rfl rfl (
      r_iload (pc2 := 2) rfl rfl rfl (
      r_iload (pc2 := 3) rfl rfl rfl (
      r_iload (pc2 := 5) rfl rfl rfl (
      r_callVI (pc2 := 8) (args := [.ref 22, gv a1, gv a2, gv a5]) (st2 := []) rfl rfl rfl rfl rfl rfl (rc_of (sh_T hs rfl rfl)) (rf_cv_tell hs (d + 2) g a1 a2 a5 ) fun v1 g2 => (
      r_pop (pc2 := 9) rfl rfl rfl (
      r_aload (pc2 := 10) rfl rfl rfl (
      r_iload (pc2 := 11) rfl rfl rfl (
      r_iload (pc2 := 12) rfl rfl rfl (
      r_callVV (pc2 := 15) (args := [.ref 22, gv a2, gv a3]) (st2 := []) rfl rfl rfl rfl rfl rfl (rc_of (sh_T hs rfl rfl)) (rf_cv_tellWay hs d g2 a2 a3 ) fun g3 => (
      r_aload (pc2 := 16) rfl rfl rfl (
      r_iload (pc2 := 18) rfl rfl rfl (
      r_iload (pc2 := 20) rfl rfl rfl (
      r_callVV (pc2 := 23) (args := [.ref 22, gv a4, gv a5]) (st2 := []) rfl rfl rfl rfl rfl rfl (rc_of (sh_T hs rfl rfl)) (rf_cv_tellWay hs d g3 a4 a5 ) fun g4 => (
      r_iload (pc2 := 24) rfl rfl rfl (
      r_iret rfl rfl)))))))))))))))))
theorem rf_cv_anchorOf {s : gm_S} {n m : Nat} (hs : gm_sh s n m) (d : Nat)  (g : gm_T) (a1 : Int)  : jr (pI s g) (cv_anchorOf g a1) (jm_cl jm_CD km_n (d + 2) 109 [.ref 22, gv a1] (gm_h s g)) := by
  unfold cv_anchorOf
  exact (r_ent (cd := cd_109) (n := 3) (L0 := [some (.ref 22), some (gv a1), none]) rfl rfl rfl rfl (
      r_aload (pc2 := 1) rfl rfl rfl (
      r_getI (pc2 := 4) rfl rfl (sh_T hs rfl rfl) (
      r_iload (pc2 := 5) rfl rfl rfl (
      r_iand (pc2 := 6) rfl rfl (
      r_b1 (R1 := (fun (q : Int) (c : Option jm_R) => c = jm_sup cd_109 (jm_cl jm_CD km_n (d + 1)) (24, [some (.ref 22), some (gv a1), none], [gv q], gm_h s g))) (
      r_ifeq (pc2 := 9) (t := 18) rfl (rg_toInt _) rfl (fun _ =>
      r_aload (pc2 := 19) rfl rfl rfl (
      r_getI (pc2 := 22) rfl rfl (sh_T hs rfl rfl) (
      r_iload (pc2 := 23) rfl rfl rfl (
      r_iand (pc2 := 24) rfl rfl (
      jr_leaf rfl))))) (fun _ =>
      r_aload (pc2 := 10) rfl rfl rfl (
      r_getI (pc2 := 13) rfl rfl (sh_T hs rfl rfl) (
      r_iload (pc2 := 14) rfl rfl rfl (
      r_iand (pc2 := 15) rfl rfl (
      r_goto (t := 24) rfl (
      jr_leaf rfl))))))) (fun v1 c h => match c, h with | _, rfl => (
      r_istore (L2 := [some (.ref 22), some (gv a1), some (gv v1)]) (pc2 := 25) rfl rfl rfl (
      r_iload (pc2 := 26) rfl rfl rfl (
      r_callSP (pc2 := 29) (args := [gv v1]) (st2 := []) rfl rfl rfl rfl rfl rfl (rf_jd_numberOfTrailingZeros hs d g v1 ) fun v2 => (
      r_iret rfl rfl)))))))))))
theorem rl_cv_carry_l3 {s : gm_S} {n m : Nat} (hs : gm_sh s n m) (d : Nat)  (c1 : Int) (c2 : Int64)  : ∀ (fuel : Nat) (v3 : Int) (g4 : gm_T), jr (fun (q : gm_T) (c : Option jm_R) => ∃ (j5 : Option Value), jm_lg j5 = false ∧ c = jm_sup cd_108 (jm_cl jm_CD km_n (d + 2)) (48, [some (.ref 22), some (gv c1), some (.long c2), none, j5], [], gm_h s q)) (cv_carry_l3  c1 c2 fuel v3 g4) (jm_sup cd_108 (jm_cl jm_CD km_n (d + 2)) (3, [some (.ref 22), some (gv c1), some (.long c2), none, some (gv v3)], [], gm_h s g4)) := by
  intro fuel
  induction fuel with
  | zero => intros; exact jr_none
  | succ fuel ih =>
    intro v3 g4  
    unfold cv_carry_l3
    exact (
      r_iload (pc2 := 5) rfl rfl rfl (
      r_aload (pc2 := 6) rfl rfl rfl (
      r_getA (pc2 := 9) rfl rfl (sh_T hs rfl rfl) (sh_A hs rfl rfl) (
      r_getI (pc2 := 12) rfl rfl (sh_T hs rfl rfl) (
      jr_g fun h7 => r_cge (pc2 := 15) (t := 48) rfl h7.1 h7.2 rfl (fun _ =>
      r_iload (pc2 := 16) rfl rfl rfl (
      r_iload (pc2 := 18) rfl rfl rfl (
      r_ishr (pc2 := 19) rfl rfl (
      r_ic (x := 1) (pc2 := 20) rfl ic_1 rfl (
      r_iand (pc2 := 21) rfl rfl (
      r_ifeq (pc2 := 24) (t := 42) rfl (rg_toInt _) rfl (fun _ =>
      r_iinc (kk := 1) (L2 := [some (.ref 22), some (gv c1), some (.long c2), none, some (gv (v3 + 1))]) (pc2 := 45) rfl ic_1 rfl rfl rfl (
      r_goto (t := 3) rfl (
      ih (v3 + 1) g4))) (fun _ =>
      r_aload (pc2 := 25) rfl rfl rfl (
      r_getA (pc2 := 28) rfl rfl (sh_T hs rfl rfl) (sh_A hs rfl rfl) (
      r_iload (pc2 := 30) rfl rfl rfl (
      r_lload (pc2 := 31) rfl rfl rfl (
      r_aload (pc2 := 32) rfl rfl rfl (
      r_getA (pc2 := 35) rfl rfl (sh_T hs rfl rfl) (sh_A hs rfl rfl) (
      r_iload (pc2 := 37) rfl rfl rfl (
      jr_g fun h9 => r_lald (len := 30) (pc2 := 38) rfl rfl (sh_T hs rfl rfl) (sh_L hs rfl rfl) rfl h9 (
      r_callSL (pc2 := 41) (args := [.long c2, .long (gm_J g4 23 v3.toNat)]) (st2 := [gv v3, .ref 23]) rfl rfl rfl rfl rfl rfl (rf_cc_onto hs d g4 c2 (gm_J g4 23 v3.toNat) ) fun v10 => (
      r_last (len := 30) (pc2 := 42) rfl rfl (sh_T hs rfl rfl) (sh_L hs rfl rfl) rfl h9 fun g11 => (
      r_iinc (kk := 1) (L2 := [some (.ref 22), some (gv c1), some (.long c2), none, some (gv (v3 + 1))]) (pc2 := 45) rfl ic_1 rfl rfl rfl (
      r_goto (t := 3) rfl (
      ih (v3 + 1) g11))))))))))))))))))) (fun _ =>
      jr_leaf ⟨_, rfl, rfl⟩))))))
theorem rf_cv_carry {s : gm_S} {n m : Nat} (hs : gm_sh s n m) (d : Nat)  (g : gm_T) (a1 : Int) (a2 : Int64)  : jr (eV s) (cv_carry g a1 a2) (jm_cl jm_CD km_n (d + 3) 108 [.ref 22, gv a1, .long a2] (gm_h s g)) := by
  unfold cv_carry
  exact (r_ent (cd := cd_108) (n := 5) (L0 := [some (.ref 22), some (gv a1), some (.long a2), none, none]) rfl rfl rfl rfl (
      r_ic (x := 0) (pc2 := 1) rfl ic_0 rfl (
      r_istore (L2 := [some (.ref 22), some (gv a1), some (.long a2), none, some (gv 0)]) (pc2 := 3) rfl rfl rfl (
      r_b1 (rl_cv_carry_l3 hs d   a1 a2  fz 0 g  ) (fun g14 c h => match c, h with | _, ⟨j13, hj13, rfl⟩ => (
      r_vret rfl rfl))))))
theorem rf_cv_attachTo {s : gm_S} {n m : Nat} (hs : gm_sh s n m) (d : Nat)  (g : gm_T) (a1 : Int) (a2 : Int64) (a4 : Int)  : jr (eI s) (cv_attachTo n g a1 a2 a4) (jm_cl jm_CD km_n (d + 5) 106 [.ref 22, gv a1, .long a2, gv a4] (gm_h s g)) := by
  unfold cv_attachTo
  exact (r_ent (cd := cd_106) (n := 6) (L0 := [some (.ref 22), some (gv a1), some (.long a2), none, some (gv a4), none]) rfl rfl rfl rfl (
      r_aload (pc2 := 1) rfl rfl rfl (
      r_iload (pc2 := 2) rfl rfl rfl (
      r_lload (pc2 := 3) rfl rfl rfl (
      r_iload (pc2 := 5) rfl rfl rfl (
      r_callVP (pc2 := 8) (args := [.ref 22, gv a1, .long a2, gv a4]) (st2 := []) rfl rfl rfl rfl rfl rfl (rc_of (sh_T hs rfl rfl)) (rf_cv_firstHit hs d g a1 a2 a4 ) fun v1 => (
      r_istore (L2 := [some (.ref 22), some (gv a1), some (.long a2), none, some (gv a4), some (gv v1)]) (pc2 := 10) rfl rfl rfl (
      r_iload (pc2 := 12) rfl rfl rfl (
      jr_g fun h2 => r_iflt (pc2 := 15) (t := 31) rfl h2 rfl (fun _ =>
      r_aload (pc2 := 32) rfl rfl rfl (
      r_iload (pc2 := 33) rfl rfl rfl (
      r_lload (pc2 := 34) rfl rfl rfl (
      r_callVV (pc2 := 37) (args := [.ref 22, gv a1, .long a2]) (st2 := []) rfl rfl rfl rfl rfl rfl (rc_of (sh_T hs rfl rfl)) (rf_cv_carry hs (d + 1) g a1 a2 ) fun g3 => (
      r_ic (x := 0) (pc2 := 38) rfl ic_0 rfl (
      r_iret rfl rfl)))))) (fun _ =>
      r_aload (pc2 := 16) rfl rfl rfl (
      r_ic (x := 5) (pc2 := 17) rfl ic_5 rfl (
      r_iload (pc2 := 19) rfl rfl rfl (
      r_ic (x := 30) (pc2 := 21) rfl ic_30 rfl (
      jr_g fun hd => r_idiv (pc2 := 22) rfl rfl hd ⟨by decide, by decide⟩ (
      r_iload (pc2 := 24) rfl rfl rfl (
      r_ic (x := 30) (pc2 := 26) rfl ic_30 rfl (
      jr_g fun hd => r_irem (pc2 := 27) rfl rfl hd ⟨by decide, by decide⟩ (
      r_callVI (pc2 := 30) (args := [.ref 22, gv 5, gv (v1 / 30), gv (v1 % 30)]) (st2 := []) rfl rfl rfl rfl rfl rfl (rc_of (sh_T hs rfl rfl)) (rf_cv_tell hs (d + 3) g 5 (v1 / 30) (v1 % 30) ) fun v4 g5 => (
      r_iret rfl rfl)))))))))))))))))))
theorem rf_cv_attach {s : gm_S} {n m : Nat} (hs : gm_sh s n m) (d : Nat)  (g : gm_T) (a1 : Int) (a2 : Int) (a3 : Int64)  : jr (eI s) (cv_attach n g a1 a2 a3) (jm_cl jm_CD km_n (d + 6) 105 [.ref 22, gv a1, gv a2, .long a3] (gm_h s g)) := by
  unfold cv_attach
  exact (r_ent (cd := cd_105) (n := 10) (L0 := [some (.ref 22), some (gv a1), some (gv a2), some (.long a3), none, none, none, none, none, none]) rfl rfl rfl rfl (
      r_aload (pc2 := 1) rfl rfl rfl (
      r_getA (pc2 := 4) rfl rfl (sh_T hs rfl rfl) (sh_A hs rfl rfl) (
      r_getA (pc2 := 7) rfl rfl (sh_T hs rfl rfl) (sh_A hs rfl rfl) (
      r_iload (pc2 := 8) rfl rfl rfl (
      jr_g fun h1 => r_iald (len := 30) (pc2 := 9) rfl rfl (sh_T hs rfl rfl) (sh_L hs rfl rfl) rfl h1 (
      r_istoreL (L3 := fun v2 => [some (.ref 22), some (gv a1), some (gv a2), some (.long a3), none, some (gv v2), none, none, none, none]) (pc2 := 11) rfl rfl (fun _ => rfl) fun v2 => (
      r_aload (pc2 := 12) rfl rfl rfl (
      r_getA (pc2 := 15) rfl rfl (sh_T hs rfl rfl) (sh_A hs rfl rfl) (
      r_getA (pc2 := 18) rfl rfl (sh_T hs rfl rfl) (sh_A hs rfl rfl) (
      r_iload (pc2 := 19) rfl rfl rfl (
      jr_g fun h3 => r_iald (len := 30) (pc2 := 20) rfl rfl (sh_T hs rfl rfl) (sh_L hs rfl rfl) rfl h3 (
      r_istoreL (L3 := fun v4 => [some (.ref 22), some (gv a1), some (gv a2), some (.long a3), none, some (gv v2), some (gv v4), none, none, none]) (pc2 := 22) rfl rfl (fun _ => rfl) fun v4 => (
      r_iload (pc2 := 24) rfl rfl rfl (
      r_iload (pc2 := 26) rfl rfl rfl (
      jr_g fun h5 => r_cne (pc2 := 29) (t := 63) rfl h5.1 h5.2 rfl (fun _ =>
      r_aload (pc2 := 30) rfl rfl rfl (
      r_getA (pc2 := 33) rfl rfl (sh_T hs rfl rfl) (sh_A hs rfl rfl) (
      r_iload (pc2 := 34) rfl rfl rfl (
      r_lald (len := 30) (pc2 := 35) rfl rfl (sh_T hs rfl rfl) (sh_L hs rfl rfl) rfl h1 (
      r_aload (pc2 := 36) rfl rfl rfl (
      r_getA (pc2 := 39) rfl rfl (sh_T hs rfl rfl) (sh_A hs rfl rfl) (
      r_iload (pc2 := 40) rfl rfl rfl (
      r_lald (len := 30) (pc2 := 41) rfl rfl (sh_T hs rfl rfl) (sh_L hs rfl rfl) rfl h3 (
      r_callSL (pc2 := 44) (args := [.long (gm_J g 23 a1.toNat), .long (gm_J g 23 a2.toNat)]) (st2 := []) rfl rfl rfl rfl rfl rfl (rf_cc_against hs (d + 2) g (gm_J g 23 a1.toNat) (gm_J g 23 a2.toNat) ) fun v6 => (
      r_lload (pc2 := 45) rfl rfl rfl (
      r_lcmp (pc2 := 46) rfl rfl (
      r_ifne (pc2 := 49) (t := 53) rfl (rg_toInt _) rfl (fun _ =>
      r_ic (x := 0) (pc2 := 50) rfl ic_0 rfl (
      r_goto (t := 62) rfl (
      r_iret rfl rfl))) (fun _ =>
      r_aload (pc2 := 54) rfl rfl rfl (
      r_ic (x := 1) (pc2 := 55) rfl ic_1 rfl (
      r_iload (pc2 := 56) rfl rfl rfl (
      r_iload (pc2 := 57) rfl rfl rfl (
      r_iload (pc2 := 58) rfl rfl rfl (
      r_iload (pc2 := 59) rfl rfl rfl (
      r_callVI (pc2 := 62) (args := [.ref 22, gv 1, gv a1, gv a2, gv a1, gv a2]) (st2 := []) rfl rfl rfl rfl rfl rfl (rc_of (sh_T hs rfl rfl)) (rf_cv_tellBetween hs (d + 1) g 1 a1 a2 a1 a2 ) fun v7 g8 => (
      r_iret rfl rfl)))))))))))))))))))) (fun _ =>
      r_aload (pc2 := 64) rfl rfl rfl (
      r_getA (pc2 := 67) rfl rfl (sh_T hs rfl rfl) (sh_A hs rfl rfl) (
      r_iload (pc2 := 68) rfl rfl rfl (
      r_lald (len := 30) (pc2 := 69) rfl rfl (sh_T hs rfl rfl) (sh_L hs rfl rfl) rfl h1 (
      r_aload (pc2 := 70) rfl rfl rfl (
      r_getA (pc2 := 73) rfl rfl (sh_T hs rfl rfl) (sh_A hs rfl rfl) (
      r_iload (pc2 := 74) rfl rfl rfl (
      r_lald (len := 30) (pc2 := 75) rfl rfl (sh_T hs rfl rfl) (sh_L hs rfl rfl) rfl h3 (
      r_lload (pc2 := 76) rfl rfl rfl (
      r_callSL (pc2 := 79) (args := [.long a3]) (st2 := [.long (gm_J g 23 a2.toNat), .long (gm_J g 23 a1.toNat)]) rfl rfl rfl rfl rfl rfl (rf_cc_inverse hs (d + 3) g a3 ) fun v9 => (
      r_callSL (pc2 := 82) (args := [.long (gm_J g 23 a2.toNat), .long v9]) (st2 := [.long (gm_J g 23 a1.toNat)]) rfl rfl rfl rfl rfl rfl (rf_cc_onto hs (d + 3) g (gm_J g 23 a2.toNat) v9 ) fun v10 => (
      r_callSL (pc2 := 85) (args := [.long (gm_J g 23 a1.toNat), .long v10]) (st2 := []) rfl rfl rfl rfl rfl rfl (rf_cc_move hs (d + 2) g (gm_J g 23 a1.toNat) v10 ) fun v11 => (
      r_lstore (L2 := [some (.ref 22), some (gv a1), some (gv a2), some (.long a3), none, some (gv v2), some (gv v4), some (.long v11), none, none]) (pc2 := 87) rfl rfl rfl (
      r_aload (pc2 := 88) rfl rfl rfl (
      r_iload (pc2 := 90) rfl rfl rfl (
      r_lload (pc2 := 92) rfl rfl rfl (
      r_iload (pc2 := 94) rfl rfl rfl (
      r_callVP (pc2 := 97) (args := [.ref 22, gv v2, .long v11, gv v4]) (st2 := []) rfl rfl rfl rfl rfl rfl (rc_of (sh_T hs rfl rfl)) (rf_cv_firstHit hs (d + 1) g v2 v11 v4 ) fun v12 => (
      r_istore (L2 := [some (.ref 22), some (gv a1), some (gv a2), some (.long a3), none, some (gv v2), some (gv v4), some (.long v11), none, some (gv v12)]) (pc2 := 99) rfl rfl rfl (
      r_iload (pc2 := 101) rfl rfl rfl (
      jr_g fun h13 => r_iflt (pc2 := 104) (t := 122) rfl h13 rfl (fun _ =>
      r_aload (pc2 := 123) rfl rfl rfl (
      r_iload (pc2 := 124) rfl rfl rfl (
      r_callVP (pc2 := 127) (args := [.ref 22, gv a1]) (st2 := []) rfl rfl rfl rfl rfl rfl (rc_of (sh_T hs rfl rfl)) (rf_cv_stands hs (d + 4) g a1 ) fun v14 => (
      jr_g fun h15 => r_ifeq (pc2 := 130) (t := 171) rfl h15 rfl (fun _ =>
      r_aload (pc2 := 172) rfl rfl rfl (
      r_iload (pc2 := 173) rfl rfl rfl (
      r_callVP (pc2 := 176) (args := [.ref 22, gv a1]) (st2 := []) rfl rfl rfl rfl rfl rfl (rc_of (sh_T hs rfl rfl)) (rf_cv_stands hs (d + 4) g a1 ) fun v16 => (
      jr_g fun h17 => r_ifeq (pc2 := 179) (t := 200) rfl h17 rfl (fun _ =>
      r_aload (pc2 := 201) rfl rfl rfl (
      r_iload (pc2 := 203) rfl rfl rfl (
      r_lload (pc2 := 205) rfl rfl rfl (
      r_aload (pc2 := 206) rfl rfl rfl (
      r_iload (pc2 := 207) rfl rfl rfl (
      r_callVP (pc2 := 210) (args := [.ref 22, gv a2]) (st2 := [.long v11, gv v2, .ref 22]) rfl rfl rfl rfl rfl rfl (rc_of (sh_T hs rfl rfl)) (rf_cv_stands hs (d + 4) g a2 ) fun v18 => (
      r_b1 (R1 := (fun (q : Int) (c : Option jm_R) => c = jm_sup cd_105 (jm_cl jm_CD km_n (d + 5)) (226, [some (.ref 22), some (gv a1), some (gv a2), some (.long a3), none, some (gv v2), some (gv v4), some (.long v11), none, some (gv v12)], [gv q, .long v11, gv v2, .ref 22], gm_h s g))) (
      jr_g fun h20 => r_ifeq (pc2 := 213) (t := 225) rfl h20 rfl (fun _ =>
      r_ic (x := 0) (pc2 := 226) rfl ic_0 rfl (
      jr_leaf rfl)) (fun _ =>
      r_aload (pc2 := 214) rfl rfl rfl (
      r_callVP (pc2 := 217) (args := [.ref 22]) (st2 := [.long v11, gv v2, .ref 22]) rfl rfl rfl rfl rfl rfl (rc_of (sh_T hs rfl rfl)) (rf_cv_standing hs (d + 3) g ) fun v21 => (
      r_iload (pc2 := 219) rfl rfl rfl (
      r_ic (x := -1) (pc2 := 220) rfl ic_m1 rfl (
      r_ixor (pc2 := 221) rfl rfl (
      r_iand (pc2 := 222) rfl rfl (
      r_goto (t := 226) rfl (
      jr_leaf rfl))))))))) (fun v19 c h => match c, h with | _, rfl => (
      r_callVI (pc2 := 229) (args := [.ref 22, gv v2, .long v11, gv v19]) (st2 := []) rfl rfl rfl rfl rfl rfl (rc_of (sh_T hs rfl rfl)) (rf_cv_attachTo hs d g v2 v11 v19 ) fun v22 g23 => (
      r_iret rfl rfl)))))))))) (fun _ =>
      r_aload (pc2 := 180) rfl rfl rfl (
      r_iload (pc2 := 182) rfl rfl rfl (
      r_lload (pc2 := 184) rfl rfl rfl (
      r_callSL (pc2 := 187) (args := [.long v11]) (st2 := [gv v4, .ref 22]) rfl rfl rfl rfl rfl rfl (rf_cc_inverse hs (d + 3) g v11 ) fun v24 => (
      r_aload (pc2 := 188) rfl rfl rfl (
      r_callVP (pc2 := 191) (args := [.ref 22]) (st2 := [.long v24, gv v4, .ref 22]) rfl rfl rfl rfl rfl rfl (rc_of (sh_T hs rfl rfl)) (rf_cv_standing hs (d + 3) g ) fun v25 => (
      r_iload (pc2 := 193) rfl rfl rfl (
      r_ic (x := -1) (pc2 := 194) rfl ic_m1 rfl (
      r_ixor (pc2 := 195) rfl rfl (
      r_iand (pc2 := 196) rfl rfl (
      r_callVI (pc2 := 199) (args := [.ref 22, gv v4, .long v24, gv (zA v25 (zX v2 (-1)))]) (st2 := []) rfl rfl rfl rfl rfl rfl (rc_of (sh_T hs rfl rfl)) (rf_cv_attachTo hs d g v4 v24 (zA v25 (zX v2 (-1))) ) fun v26 g27 => (
      r_iret rfl rfl)))))))))))))))) (fun _ =>
      r_aload (pc2 := 131) rfl rfl rfl (
      r_iload (pc2 := 132) rfl rfl rfl (
      r_callVP (pc2 := 135) (args := [.ref 22, gv a2]) (st2 := []) rfl rfl rfl rfl rfl rfl (rc_of (sh_T hs rfl rfl)) (rf_cv_stands hs (d + 4) g a2 ) fun v28 => (
      jr_g fun h29 => r_ifeq (pc2 := 138) (t := 171) rfl h29 rfl (fun _ =>
      r_aload (pc2 := 172) rfl rfl rfl (
      r_iload (pc2 := 173) rfl rfl rfl (
      r_callVP (pc2 := 176) (args := [.ref 22, gv a1]) (st2 := []) rfl rfl rfl rfl rfl rfl (rc_of (sh_T hs rfl rfl)) (rf_cv_stands hs (d + 4) g a1 ) fun v30 => (
      jr_g fun h31 => r_ifeq (pc2 := 179) (t := 200) rfl h31 rfl (fun _ =>
      r_aload (pc2 := 201) rfl rfl rfl (
      r_iload (pc2 := 203) rfl rfl rfl (
      r_lload (pc2 := 205) rfl rfl rfl (
      r_aload (pc2 := 206) rfl rfl rfl (
      r_iload (pc2 := 207) rfl rfl rfl (
      r_callVP (pc2 := 210) (args := [.ref 22, gv a2]) (st2 := [.long v11, gv v2, .ref 22]) rfl rfl rfl rfl rfl rfl (rc_of (sh_T hs rfl rfl)) (rf_cv_stands hs (d + 4) g a2 ) fun v32 => (
      r_b1 (R1 := (fun (q : Int) (c : Option jm_R) => c = jm_sup cd_105 (jm_cl jm_CD km_n (d + 5)) (226, [some (.ref 22), some (gv a1), some (gv a2), some (.long a3), none, some (gv v2), some (gv v4), some (.long v11), none, some (gv v12)], [gv q, .long v11, gv v2, .ref 22], gm_h s g))) (
      jr_g fun h34 => r_ifeq (pc2 := 213) (t := 225) rfl h34 rfl (fun _ =>
      r_ic (x := 0) (pc2 := 226) rfl ic_0 rfl (
      jr_leaf rfl)) (fun _ =>
      r_aload (pc2 := 214) rfl rfl rfl (
      r_callVP (pc2 := 217) (args := [.ref 22]) (st2 := [.long v11, gv v2, .ref 22]) rfl rfl rfl rfl rfl rfl (rc_of (sh_T hs rfl rfl)) (rf_cv_standing hs (d + 3) g ) fun v35 => (
      r_iload (pc2 := 219) rfl rfl rfl (
      r_ic (x := -1) (pc2 := 220) rfl ic_m1 rfl (
      r_ixor (pc2 := 221) rfl rfl (
      r_iand (pc2 := 222) rfl rfl (
      r_goto (t := 226) rfl (
      jr_leaf rfl))))))))) (fun v33 c h => match c, h with | _, rfl => (
      r_callVI (pc2 := 229) (args := [.ref 22, gv v2, .long v11, gv v33]) (st2 := []) rfl rfl rfl rfl rfl rfl (rc_of (sh_T hs rfl rfl)) (rf_cv_attachTo hs d g v2 v11 v33 ) fun v36 g37 => (
      r_iret rfl rfl)))))))))) (fun _ =>
      r_aload (pc2 := 180) rfl rfl rfl (
      r_iload (pc2 := 182) rfl rfl rfl (
      r_lload (pc2 := 184) rfl rfl rfl (
      r_callSL (pc2 := 187) (args := [.long v11]) (st2 := [gv v4, .ref 22]) rfl rfl rfl rfl rfl rfl (rf_cc_inverse hs (d + 3) g v11 ) fun v38 => (
      r_aload (pc2 := 188) rfl rfl rfl (
      r_callVP (pc2 := 191) (args := [.ref 22]) (st2 := [.long v38, gv v4, .ref 22]) rfl rfl rfl rfl rfl rfl (rc_of (sh_T hs rfl rfl)) (rf_cv_standing hs (d + 3) g ) fun v39 => (
      r_iload (pc2 := 193) rfl rfl rfl (
      r_ic (x := -1) (pc2 := 194) rfl ic_m1 rfl (
      r_ixor (pc2 := 195) rfl rfl (
      r_iand (pc2 := 196) rfl rfl (
      r_callVI (pc2 := 199) (args := [.ref 22, gv v4, .long v38, gv (zA v39 (zX v2 (-1)))]) (st2 := []) rfl rfl rfl rfl rfl rfl (rc_of (sh_T hs rfl rfl)) (rf_cv_attachTo hs d g v4 v38 (zA v39 (zX v2 (-1))) ) fun v40 g41 => (
      r_iret rfl rfl)))))))))))))))) (fun _ =>
      r_lload (pc2 := 140) rfl rfl rfl (
      r_lc (pc2 := 143) rfl rfl (
      r_lcmp (pc2 := 144) rfl rfl (
      r_ifne (pc2 := 147) (t := 151) rfl (rg_toInt _) rfl (fun _ =>
      r_ic (x := 0) (pc2 := 148) rfl ic_0 rfl (
      r_goto (t := 170) rfl (
      r_iret rfl rfl))) (fun _ =>
      r_aload (pc2 := 152) rfl rfl rfl (
      r_ic (x := 3) (pc2 := 153) rfl ic_3 rfl (
      r_aload (pc2 := 154) rfl rfl rfl (
      r_iload (pc2 := 156) rfl rfl rfl (
      r_callVP (pc2 := 159) (args := [.ref 22, gv v2]) (st2 := [gv 3, .ref 22]) rfl rfl rfl rfl rfl rfl (rc_of (sh_T hs rfl rfl)) (rf_cv_anchorOf hs (d + 3) g v2 ) fun v42 => (
      r_iload (pc2 := 160) rfl rfl rfl (
      r_iload (pc2 := 161) rfl rfl rfl (
      r_aload (pc2 := 162) rfl rfl rfl (
      r_iload (pc2 := 164) rfl rfl rfl (
      r_callVP (pc2 := 167) (args := [.ref 22, gv v4]) (st2 := [gv a2, gv a1, gv v42, gv 3, .ref 22]) rfl rfl rfl rfl rfl rfl (rc_of (sh_T hs rfl rfl)) (rf_cv_anchorOf hs (d + 3) g v4 ) fun v43 => (
      r_callVI (pc2 := 170) (args := [.ref 22, gv 3, gv v42, gv a1, gv a2, gv v43]) (st2 := []) rfl rfl rfl rfl rfl rfl (rc_of (sh_T hs rfl rfl)) (rf_cv_tellAround hs (d + 1) g 3 v42 a1 a2 v43 ) fun v44 g45 => (
      r_iret rfl rfl)))))))))))))))))))))))) (fun _ =>
      r_aload (pc2 := 105) rfl rfl rfl (
      r_ic (x := 2) (pc2 := 106) rfl ic_2 rfl (
      r_iload (pc2 := 108) rfl rfl rfl (
      r_ic (x := 30) (pc2 := 110) rfl ic_30 rfl (
      jr_g fun hd => r_idiv (pc2 := 111) rfl rfl hd ⟨by decide, by decide⟩ (
      r_iload (pc2 := 112) rfl rfl rfl (
      r_iload (pc2 := 113) rfl rfl rfl (
      r_iload (pc2 := 115) rfl rfl rfl (
      r_ic (x := 30) (pc2 := 117) rfl ic_30 rfl (
      jr_g fun hd => r_irem (pc2 := 118) rfl rfl hd ⟨by decide, by decide⟩ (
      r_callVI (pc2 := 121) (args := [.ref 22, gv 2, gv (v12 / 30), gv a1, gv a2, gv (v12 % 30)]) (st2 := []) rfl rfl rfl rfl rfl rfl (rc_of (sh_T hs rfl rfl)) (rf_cv_tellAround hs (d + 1) g 2 (v12 / 30) a1 a2 (v12 % 30) ) fun v46 g47 => (
      r_iret rfl rfl)))))))))))))))))))))))))))))))))))))))))))))))))
theorem rf_cv_bring {s : gm_S} {n m : Nat} (hs : gm_sh s n m) (d : Nat)  (g : gm_T) (a1 : Int) (a2 : Int64)  : jr (eI s) (cv_bring n g a1 a2) (jm_cl jm_CD km_n (d + 6) 118 [.ref 22, gv a1, .long a2] (gm_h s g)) := by
  unfold cv_bring
  exact (r_ent (cd := cd_118) (n := 5) (L0 := [some (.ref 22), some (gv a1), some (.long a2), none, none]) rfl rfl rfl rfl (
      r_aload (pc2 := 1) rfl rfl rfl (
      r_getA (pc2 := 4) rfl rfl (sh_T hs rfl rfl) (sh_A hs rfl rfl) (
      r_getA (pc2 := 7) rfl rfl (sh_T hs rfl rfl) (sh_A hs rfl rfl) (
      r_iload (pc2 := 8) rfl rfl rfl (
      jr_g fun h1 => r_iald (len := 30) (pc2 := 9) rfl rfl (sh_T hs rfl rfl) (sh_L hs rfl rfl) rfl h1 (
      r_istoreL (L3 := fun v2 => [some (.ref 22), some (gv a1), some (.long a2), none, some (gv v2)]) (pc2 := 11) rfl rfl (fun _ => rfl) fun v2 => (
      r_aload (pc2 := 12) rfl rfl rfl (
      r_iload (pc2 := 14) rfl rfl rfl (
      r_aload (pc2 := 15) rfl rfl rfl (
      r_getA (pc2 := 18) rfl rfl (sh_T hs rfl rfl) (sh_A hs rfl rfl) (
      r_iload (pc2 := 19) rfl rfl rfl (
      r_lald (len := 30) (pc2 := 20) rfl rfl (sh_T hs rfl rfl) (sh_L hs rfl rfl) rfl h1 (
      r_lload (pc2 := 21) rfl rfl rfl (
      r_callSL (pc2 := 24) (args := [.long (gm_J g 23 a1.toNat), .long a2]) (st2 := [gv v2, .ref 22]) rfl rfl rfl rfl rfl rfl (rf_cc_move hs (d + 2) g (gm_J g 23 a1.toNat) a2 ) fun v3 => (
      r_aload (pc2 := 25) rfl rfl rfl (
      r_callVP (pc2 := 28) (args := [.ref 22]) (st2 := [.long v3, gv v2, .ref 22]) rfl rfl rfl rfl rfl rfl (rc_of (sh_T hs rfl rfl)) (rf_cv_standing hs (d + 3) g ) fun v4 => (
      r_iload (pc2 := 30) rfl rfl rfl (
      r_ic (x := -1) (pc2 := 31) rfl ic_m1 rfl (
      r_ixor (pc2 := 32) rfl rfl (
      r_iand (pc2 := 33) rfl rfl (
      r_callVI (pc2 := 36) (args := [.ref 22, gv v2, .long v3, gv (zA v4 (zX v2 (-1)))]) (st2 := []) rfl rfl rfl rfl rfl rfl (rc_of (sh_T hs rfl rfl)) (rf_cv_attachTo hs d g v2 v3 (zA v4 (zX v2 (-1))) ) fun v5 g6 => (
      r_iret rfl rfl)))))))))))))))))))))))
theorem rf_cv_say {s : gm_S} {n m : Nat} (hs : gm_sh s n m) (d : Nat)  (g : gm_T) (a1 : Int) (a2 : Int64)  : jr (eI s) (cv_say n g a1 a2) (jm_cl jm_CD km_n (d + 7) 114 [.ref 22, gv a1, .long a2] (gm_h s g)) := by
  unfold cv_say
  exact (r_ent (cd := cd_114) (n := 7) (L0 := [some (.ref 22), some (gv a1), some (.long a2), none, none, none, none]) rfl rfl rfl rfl (
      r_aload (pc2 := 1) rfl rfl rfl (
      r_getA (pc2 := 4) rfl rfl (sh_T hs rfl rfl) (sh_A hs rfl rfl) (
      r_getA (pc2 := 7) rfl rfl (sh_T hs rfl rfl) (sh_A hs rfl rfl) (
      r_iload (pc2 := 8) rfl rfl rfl (
      jr_g fun h1 => r_iald (len := 30) (pc2 := 9) rfl rfl (sh_T hs rfl rfl) (sh_L hs rfl rfl) rfl h1 (
      r_istoreL (L3 := fun v2 => [some (.ref 22), some (gv a1), some (.long a2), none, some (gv v2), none, none]) (pc2 := 11) rfl rfl (fun _ => rfl) fun v2 => (
      r_aload (pc2 := 12) rfl rfl rfl (
      r_getI (pc2 := 15) rfl rfl (sh_T hs rfl rfl) (
      r_iload (pc2 := 17) rfl rfl rfl (
      r_iand (pc2 := 18) rfl rfl (
      r_ic (x := 1) (pc2 := 19) rfl ic_1 rfl (
      r_iload (pc2 := 20) rfl rfl rfl (
      r_ishl (pc2 := 21) rfl rfl (
      r_ic (x := -1) (pc2 := 22) rfl ic_m1 rfl (
      r_ixor (pc2 := 23) rfl rfl (
      r_iand (pc2 := 24) rfl rfl (
      r_istoreL (L3 := fun v3 => [some (.ref 22), some (gv a1), some (.long a2), none, some (gv v2), some (gv v3), none]) (pc2 := 26) rfl rfl (fun _ => rfl) fun v3 => (
      r_iload (pc2 := 28) rfl rfl rfl (
      jr_g fun h4 => r_ifeq (pc2 := 31) (t := 61) rfl h4 rfl (fun _ =>
      r_aload (pc2 := 62) rfl rfl rfl (
      r_iload (pc2 := 63) rfl rfl rfl (
      r_lload (pc2 := 64) rfl rfl rfl (
      r_callVI (pc2 := 67) (args := [.ref 22, gv a1, .long a2]) (st2 := []) rfl rfl rfl rfl rfl rfl (rc_of (sh_T hs rfl rfl)) (rf_cv_bring hs d g a1 a2 ) fun v5 g6 => (
      r_istore (L2 := [some (.ref 22), some (gv a1), some (.long a2), none, some (gv v2), some (gv v3), some (gv v5)]) (pc2 := 69) rfl rfl rfl (
      r_iload (pc2 := 71) rfl rfl rfl (
      jr_g fun h7 => r_ifne (pc2 := 74) (t := 99) rfl h7 rfl (fun _ =>
      r_aload (pc2 := 75) rfl rfl rfl (
      r_dup (pc2 := 76) rfl rfl rfl (
      r_getI (pc2 := 79) rfl rfl (sh_T hs rfl rfl) (
      r_ic (x := 1) (pc2 := 80) rfl ic_1 rfl (
      r_iload (pc2 := 81) rfl rfl rfl (
      r_ishl (pc2 := 82) rfl rfl (
      r_ior (pc2 := 83) rfl rfl (
      r_putI (pc2 := 86) rfl rfl (sh_T hs rfl rfl) fun g8 => (
      r_aload (pc2 := 87) rfl rfl rfl (
      r_dup (pc2 := 88) rfl rfl rfl (
      r_getI (pc2 := 91) rfl rfl (sh_T hs rfl rfl) (
      r_iload (pc2 := 93) rfl rfl rfl (
      r_ic (x := -1) (pc2 := 94) rfl ic_m1 rfl (
      r_ixor (pc2 := 95) rfl rfl (
      r_iand (pc2 := 96) rfl rfl (
      r_putI (pc2 := 99) rfl rfl (sh_T hs rfl rfl) fun g9 => (
      r_iload (pc2 := 101) rfl rfl rfl (
      r_iret rfl rfl)))))))))))))))))) (fun _ =>
      r_iload (pc2 := 101) rfl rfl rfl (
      r_iret rfl rfl))))))))) (fun _ =>
      r_aload (pc2 := 32) rfl rfl rfl (
      r_getA (pc2 := 35) rfl rfl (sh_T hs rfl rfl) (sh_A hs rfl rfl) (
      r_iload (pc2 := 36) rfl rfl rfl (
      r_lald (len := 30) (pc2 := 37) rfl rfl (sh_T hs rfl rfl) (sh_L hs rfl rfl) rfl h1 (
      r_lload (pc2 := 38) rfl rfl rfl (
      r_lcmp (pc2 := 39) rfl rfl (
      r_ifeq (pc2 := 42) (t := 61) rfl (rg_toInt _) rfl (fun _ =>
      r_aload (pc2 := 62) rfl rfl rfl (
      r_iload (pc2 := 63) rfl rfl rfl (
      r_lload (pc2 := 64) rfl rfl rfl (
      r_callVI (pc2 := 67) (args := [.ref 22, gv a1, .long a2]) (st2 := []) rfl rfl rfl rfl rfl rfl (rc_of (sh_T hs rfl rfl)) (rf_cv_bring hs d g a1 a2 ) fun v10 g11 => (
      r_istore (L2 := [some (.ref 22), some (gv a1), some (.long a2), none, some (gv v2), some (gv v3), some (gv v10)]) (pc2 := 69) rfl rfl rfl (
      r_iload (pc2 := 71) rfl rfl rfl (
      jr_g fun h12 => r_ifne (pc2 := 74) (t := 99) rfl h12 rfl (fun _ =>
      r_aload (pc2 := 75) rfl rfl rfl (
      r_dup (pc2 := 76) rfl rfl rfl (
      r_getI (pc2 := 79) rfl rfl (sh_T hs rfl rfl) (
      r_ic (x := 1) (pc2 := 80) rfl ic_1 rfl (
      r_iload (pc2 := 81) rfl rfl rfl (
      r_ishl (pc2 := 82) rfl rfl (
      r_ior (pc2 := 83) rfl rfl (
      r_putI (pc2 := 86) rfl rfl (sh_T hs rfl rfl) fun g13 => (
      r_aload (pc2 := 87) rfl rfl rfl (
      r_dup (pc2 := 88) rfl rfl rfl (
      r_getI (pc2 := 91) rfl rfl (sh_T hs rfl rfl) (
      r_iload (pc2 := 93) rfl rfl rfl (
      r_ic (x := -1) (pc2 := 94) rfl ic_m1 rfl (
      r_ixor (pc2 := 95) rfl rfl (
      r_iand (pc2 := 96) rfl rfl (
      r_putI (pc2 := 99) rfl rfl (sh_T hs rfl rfl) fun g14 => (
      r_iload (pc2 := 101) rfl rfl rfl (
      r_iret rfl rfl)))))))))))))))))) (fun _ =>
      r_iload (pc2 := 101) rfl rfl rfl (
      r_iret rfl rfl))))))))) (fun _ =>
      r_iload (pc2 := 44) rfl rfl rfl (
      r_callSP (pc2 := 47) (args := [gv v3]) (st2 := []) rfl rfl rfl rfl rfl rfl (rf_jd_numberOfTrailingZeros hs (d + 5) g v3 ) fun v15 => (
      r_istore (L2 := [some (.ref 22), some (gv a1), some (.long a2), none, some (gv v2), some (gv v3), some (gv v15)]) (pc2 := 49) rfl rfl rfl (
      r_aload (pc2 := 50) rfl rfl rfl (
      r_ic (x := 4) (pc2 := 51) rfl ic_4 rfl (
      r_iload (pc2 := 53) rfl rfl rfl (
      r_iload (pc2 := 54) rfl rfl rfl (
      r_iload (pc2 := 56) rfl rfl rfl (
      r_iload (pc2 := 57) rfl rfl rfl (
      r_callVI (pc2 := 60) (args := [.ref 22, gv 4, gv v15, gv a1, gv v15, gv a1]) (st2 := []) rfl rfl rfl rfl rfl rfl (rc_of (sh_T hs rfl rfl)) (rf_cv_tellBetween hs (d + 2) g 4 v15 a1 v15 a1 ) fun v16 g17 => (
      r_iret rfl rfl))))))))))))))))))))))))))))))))))))))
theorem rf_cv_putBy {s : gm_S} {n m : Nat} (hs : gm_sh s n m) (d : Nat)  (g : gm_T) (a1 : Int)  : jr (eV s) (cv_putBy g a1) (jm_cl jm_CD km_n (d + 1) 117 [.ref 22, gv a1] (gm_h s g)) := by
  unfold cv_putBy
  exact (r_ent (cd := cd_117) (n := 2) (L0 := [some (.ref 22), some (gv a1)]) rfl rfl rfl rfl (
      r_aload (pc2 := 1) rfl rfl rfl (
      r_aload (pc2 := 2) rfl rfl rfl (
      r_getI (pc2 := 5) rfl rfl (sh_T hs rfl rfl) (
      r_aload (pc2 := 6) rfl rfl rfl (
      r_getA (pc2 := 9) rfl rfl (sh_T hs rfl rfl) (sh_A hs rfl rfl) (
      r_getA (pc2 := 12) rfl rfl (sh_T hs rfl rfl) (sh_A hs rfl rfl) (
      r_iload (pc2 := 13) rfl rfl rfl (
      jr_g fun h1 => r_iald (len := 30) (pc2 := 14) rfl rfl (sh_T hs rfl rfl) (sh_L hs rfl rfl) rfl h1 (
      r_ic (x := -1) (pc2 := 15) rfl ic_m1 rfl (
      r_ixor (pc2 := 16) rfl rfl (
      r_iand (pc2 := 17) rfl rfl (
      r_ic (x := 1) (pc2 := 18) rfl ic_1 rfl (
      r_iload (pc2 := 19) rfl rfl rfl (
      r_ishl (pc2 := 20) rfl rfl (
      r_ior (pc2 := 21) rfl rfl (
      r_putI (pc2 := 24) rfl rfl (sh_T hs rfl rfl) fun g2 => (
      r_vret rfl rfl))))))))))))))))))
theorem rf_cv_takeBack {s : gm_S} {n m : Nat} (hs : gm_sh s n m) (d : Nat)  (g : gm_T) (a1 : Int)  : jr (eV s) (cv_takeBack g a1) (jm_cl jm_CD km_n (d + 2) 115 [.ref 22, gv a1] (gm_h s g)) := by
  unfold cv_takeBack
  exact (r_ent (cd := cd_115) (n := 2) (L0 := [some (.ref 22), some (gv a1)]) rfl rfl rfl rfl (
      r_aload (pc2 := 1) rfl rfl rfl (
      r_dup (pc2 := 2) rfl rfl rfl (
      r_getI (pc2 := 5) rfl rfl (sh_T hs rfl rfl) (
      r_ic (x := 1) (pc2 := 6) rfl ic_1 rfl (
      r_iload (pc2 := 7) rfl rfl rfl (
      r_ishl (pc2 := 8) rfl rfl (
      r_ic (x := -1) (pc2 := 9) rfl ic_m1 rfl (
      r_ixor (pc2 := 10) rfl rfl (
      r_iand (pc2 := 11) rfl rfl (
      r_putI (pc2 := 14) rfl rfl (sh_T hs rfl rfl) fun g1 => (
      r_aload (pc2 := 15) rfl rfl rfl (
      r_iload (pc2 := 16) rfl rfl rfl (
      r_callVP (pc2 := 19) (args := [.ref 22, gv a1]) (st2 := []) rfl rfl rfl rfl rfl rfl (rc_of (sh_T hs rfl rfl)) (rf_cv_groupHasWord hs d g1 a1 ) fun v2 => (
      jr_g fun h3 => r_ifne (pc2 := 22) (t := 27) rfl h3 rfl (fun _ =>
      r_aload (pc2 := 23) rfl rfl rfl (
      r_iload (pc2 := 24) rfl rfl rfl (
      r_callVV (pc2 := 27) (args := [.ref 22, gv a1]) (st2 := []) rfl rfl rfl rfl rfl rfl (rc_of (sh_T hs rfl rfl)) (rf_cv_putBy hs d g1 a1 ) fun g4 => (
      r_vret rfl rfl)))) (fun _ =>
      r_vret rfl rfl))))))))))))))))
theorem rf_cv_lay {s : gm_S} {n m : Nat} (hs : gm_sh s n m) (d : Nat)  (g : gm_T) (a1 : Int) (a2 : Int64)  : jr (eI s) (cv_lay n g a1 a2) (jm_cl jm_CD km_n (d + 7) 116 [.ref 22, gv a1, .long a2] (gm_h s g)) := by
  unfold cv_lay
  exact (r_ent (cd := cd_116) (n := 5) (L0 := [some (.ref 22), some (gv a1), some (.long a2), none, none]) rfl rfl rfl rfl (
      r_aload (pc2 := 1) rfl rfl rfl (
      r_iload (pc2 := 2) rfl rfl rfl (
      r_lload (pc2 := 3) rfl rfl rfl (
      r_callVI (pc2 := 6) (args := [.ref 22, gv a1, .long a2]) (st2 := []) rfl rfl rfl rfl rfl rfl (rc_of (sh_T hs rfl rfl)) (rf_cv_bring hs d g a1 a2 ) fun v1 g2 => (
      r_istore (L2 := [some (.ref 22), some (gv a1), some (.long a2), none, some (gv v1)]) (pc2 := 8) rfl rfl rfl (
      r_iload (pc2 := 10) rfl rfl rfl (
      jr_g fun h3 => r_ifne (pc2 := 13) (t := 18) rfl h3 rfl (fun _ =>
      r_aload (pc2 := 14) rfl rfl rfl (
      r_iload (pc2 := 15) rfl rfl rfl (
      r_callVV (pc2 := 18) (args := [.ref 22, gv a1]) (st2 := []) rfl rfl rfl rfl rfl rfl (rc_of (sh_T hs rfl rfl)) (rf_cv_putBy hs (d + 5) g2 a1 ) fun g4 => (
      r_iload (pc2 := 20) rfl rfl rfl (
      r_iret rfl rfl))))) (fun _ =>
      r_iload (pc2 := 20) rfl rfl rfl (
      r_iret rfl rfl))))))))))
theorem rl_cv_bestJoins_l4 {s : gm_S} {n m : Nat} (hs : gm_sh s n m) (d : Nat)  (g : gm_T)   : ∀ (fuel : Nat) (v1 : Int64) (v2 : Int), jr (fun (q : Int64) (c : Option jm_R) => ∃ (j4 : Option Value), jm_lg j4 = false ∧ c = jm_sup cd_119 (jm_cl jm_CD km_n (d + 5)) (84, [some (.ref 22), some (.long q), none, j4], [], gm_h s g)) (cv_bestJoins_l4 n g  fuel v1 v2) (jm_sup cd_119 (jm_cl jm_CD km_n (d + 5)) (4, [some (.ref 22), some (.long v1), none, some (gv v2)], [], gm_h s g)) := by
  intro fuel
  induction fuel with
  | zero => intros; exact jr_none
  | succ fuel ih =>
    intro v1 v2  
    unfold cv_bestJoins_l4
    exact (
      r_iload (pc2 := 5) rfl rfl rfl (
      r_aload (pc2 := 6) rfl rfl rfl (
      r_getA (pc2 := 9) rfl rfl (sh_T hs rfl rfl) (sh_A hs rfl rfl) (
      r_getI (pc2 := 12) rfl rfl (sh_T hs rfl rfl) (
      jr_g fun h5 => r_cge (pc2 := 15) (t := 84) rfl h5.1 h5.2 rfl (fun _ =>
      r_aload (pc2 := 16) rfl rfl rfl (
      r_getA (pc2 := 19) rfl rfl (sh_T hs rfl rfl) (sh_A hs rfl rfl) (
      r_iload (pc2 := 20) rfl rfl rfl (
      r_callVP (pc2 := 23) (args := [.ref 14, gv v2]) (st2 := []) rfl rfl rfl rfl rfl rfl (rc_of (sh_T hs rfl rfl)) (rf_cj_isThere hs (d + 3) g v2 ) fun v6 => (
      jr_g fun h7 => r_ifeq (pc2 := 26) (t := 78) rfl h7 rfl (fun _ =>
      r_iinc (kk := 1) (L2 := [some (.ref 22), some (.long v1), none, some (gv (v2 + 1))]) (pc2 := 81) rfl ic_1 rfl rfl rfl (
      r_goto (t := 4) rfl (
      ih v1 (v2 + 1)))) (fun _ =>
      r_aload (pc2 := 27) rfl rfl rfl (
      r_getA (pc2 := 30) rfl rfl (sh_T hs rfl rfl) (sh_A hs rfl rfl) (
      r_aload (pc2 := 31) rfl rfl rfl (
      r_getA (pc2 := 34) rfl rfl (sh_T hs rfl rfl) (sh_A hs rfl rfl) (
      r_getA (pc2 := 37) rfl rfl (sh_T hs rfl rfl) (sh_A hs rfl rfl) (
      r_iload (pc2 := 38) rfl rfl rfl (
      jr_g fun h9 => r_iald (len := 60) (pc2 := 39) rfl rfl (sh_T hs rfl rfl) (sh_L hs rfl rfl) rfl h9 (
      r_aload (pc2 := 40) rfl rfl rfl (
      r_getA (pc2 := 43) rfl rfl (sh_T hs rfl rfl) (sh_A hs rfl rfl) (
      r_getA (pc2 := 46) rfl rfl (sh_T hs rfl rfl) (sh_A hs rfl rfl) (
      r_iload (pc2 := 47) rfl rfl rfl (
      r_iald (len := 60) (pc2 := 48) rfl rfl (sh_T hs rfl rfl) (sh_L hs rfl rfl) rfl h9 (
      r_aload (pc2 := 49) rfl rfl rfl (
      r_getA (pc2 := 52) rfl rfl (sh_T hs rfl rfl) (sh_A hs rfl rfl) (
      r_getA (pc2 := 55) rfl rfl (sh_T hs rfl rfl) (sh_A hs rfl rfl) (
      r_iload (pc2 := 56) rfl rfl rfl (
      r_iald (len := 60) (pc2 := 57) rfl rfl (sh_T hs rfl rfl) (sh_L hs rfl rfl) rfl h9 (
      r_aload (pc2 := 58) rfl rfl rfl (
      r_getA (pc2 := 61) rfl rfl (sh_T hs rfl rfl) (sh_A hs rfl rfl) (
      r_getA (pc2 := 64) rfl rfl (sh_T hs rfl rfl) (sh_A hs rfl rfl) (
      r_iload (pc2 := 65) rfl rfl rfl (
      r_iald (len := 60) (pc2 := 66) rfl rfl (sh_T hs rfl rfl) (sh_L hs rfl rfl) rfl h9 (
      r_callVP (pc2 := 69) (args := [.ref 10, gv (gm_I g 15 v2.toNat), gv (gm_I g 16 v2.toNat), gv (gm_I g 17 v2.toNat), gv (gm_I g 18 v2.toNat)]) (st2 := []) rfl rfl rfl rfl rfl rfl (rc_of (sh_T hs rfl rfl)) (rf_cf_isBestBothWays hs d g (gm_I g 15 v2.toNat) (gm_I g 16 v2.toNat) (gm_I g 17 v2.toNat) (gm_I g 18 v2.toNat) ) fun v10 => (
      jr_g fun h11 => r_ifeq (pc2 := 72) (t := 78) rfl h11 rfl (fun _ =>
      r_iinc (kk := 1) (L2 := [some (.ref 22), some (.long v1), none, some (gv (v2 + 1))]) (pc2 := 81) rfl ic_1 rfl rfl rfl (
      r_goto (t := 4) rfl (
      ih v1 (v2 + 1)))) (fun _ =>
      r_lload (pc2 := 73) rfl rfl rfl (
      r_lc (pc2 := 74) rfl rfl (
      r_iload (pc2 := 75) rfl rfl rfl (
      r_lshl (pc2 := 76) rfl rfl (
      r_lor (pc2 := 77) rfl rfl (
      r_lstoreL (L3 := fun v13 => [some (.ref 22), some (.long v13), none, some (gv v2)]) (pc2 := 78) rfl rfl (fun _ => rfl) fun v13 => (
      r_iinc (kk := 1) (L2 := [some (.ref 22), some (.long v13), none, some (gv (v2 + 1))]) (pc2 := 81) rfl ic_1 rfl rfl rfl (
      r_goto (t := 4) rfl (
      ih v13 (v2 + 1))))))))))))))))))))))))))))))))))))))) (fun _ =>
      jr_leaf ⟨_, rfl, rfl⟩))))))
theorem rf_cv_bestJoins {s : gm_S} {n m : Nat} (hs : gm_sh s n m) (d : Nat)  (g : gm_T)   : jr (pJ s g) (cv_bestJoins n g ) (jm_cl jm_CD km_n (d + 6) 119 [.ref 22] (gm_h s g)) := by
  unfold cv_bestJoins
  exact (r_ent (cd := cd_119) (n := 4) (L0 := [some (.ref 22), none, none, none]) rfl rfl rfl rfl (
      r_lc (pc2 := 1) rfl rfl (
      r_lstore (L2 := [some (.ref 22), some (.long 0), none, none]) (pc2 := 2) rfl rfl rfl (
      r_ic (x := 0) (pc2 := 3) rfl ic_0 rfl (
      r_istore (L2 := [some (.ref 22), some (.long 0), none, some (gv 0)]) (pc2 := 4) rfl rfl rfl (
      r_b1 (rl_cv_bestJoins_l4 hs d  g   fz 0 0  ) (fun v15 c h => match c, h with | _, ⟨j16, hj16, rfl⟩ => (
      r_lload (pc2 := 85) rfl rfl rfl (
      r_lret rfl rfl)))))))))
theorem rf_cv_proved {s : gm_S} {n m : Nat} (hs : gm_sh s n m) (d : Nat)  (g : gm_T)   : jr (pI s g) (cv_proved n g ) (jm_cl jm_CD km_n (d + 7) 120 [.ref 22] (gm_h s g)) := by
  unfold cv_proved
  exact (r_ent (cd := cd_120) (n := 1) (L0 := [some (.ref 22)]) rfl rfl rfl rfl (
      r_aload (pc2 := 1) rfl rfl rfl (
      r_getI (pc2 := 4) rfl rfl (sh_T hs rfl rfl) (
      jr_g fun h1 => r_ifne (pc2 := 7) (t := 11) rfl h1 rfl (fun _ =>
      r_ic (x := 0) (pc2 := 8) rfl ic_0 rfl (
      r_goto (t := 26) rfl (
      r_iret rfl rfl))) (fun _ =>
      r_aload (pc2 := 12) rfl rfl rfl (
      r_getA (pc2 := 15) rfl rfl (sh_T hs rfl rfl) (sh_A hs rfl rfl) (
      r_aload (pc2 := 16) rfl rfl rfl (
      r_getI (pc2 := 19) rfl rfl (sh_T hs rfl rfl) (
      r_aload (pc2 := 20) rfl rfl rfl (
      r_callVL (pc2 := 23) (args := [.ref 22]) (st2 := [gv (gm_I g 22 3), .ref 14]) rfl rfl rfl rfl rfl rfl (rc_of (sh_T hs rfl rfl)) (rf_cv_bestJoins hs d g ) fun v2 => (
      r_callVP (pc2 := 26) (args := [.ref 14, gv (gm_I g 22 3), .long v2]) (st2 := []) rfl rfl rfl rfl rfl rfl (rc_of (sh_T hs rfl rfl)) (rf_cj_reach hs (d + 4) g (gm_I g 22 3) v2 ) fun v3 => (
      r_iret rfl rfl))))))))))))
theorem rl_cv_prove_l30 {s : gm_S} {n m : Nat} (hs : gm_sh s n m) (d : Nat)  (g : gm_T) (c6 : Int64)  : ∀ (fuel : Nat) (v7 : Int) (v8 : Int) (j5 : Option Value) (j9 : Option Value) (hj5 : jm_lg j5 = false) (hj9 : jm_lg j9 = false), jr (fun (q : Int) (c : Option jm_R) => ∃ (j11 : Option Value) (j12 : Option Value), jm_lg j11 = false ∧ jm_lg j12 = false ∧ c = jm_sup cd_121 (jm_cl jm_CD km_n (d + 6)) (114, [some (.ref 22), j5, some (.long c6), none, some (gv q), j11, j12], [], gm_h s g)) (cv_prove_l30 n g c6 fuel v7 v8) (jm_sup cd_121 (jm_cl jm_CD km_n (d + 6)) (30, [some (.ref 22), j5, some (.long c6), none, some (gv v7), some (gv v8), j9], [], gm_h s g)) := by
  intro fuel
  induction fuel with
  | zero => intros; exact jr_none
  | succ fuel ih =>
    intro v7 v8 j5 j9 hj5 hj9
    unfold cv_prove_l30
    exact (
      r_iload (pc2 := 32) rfl rfl rfl (
      r_aload (pc2 := 33) rfl rfl rfl (
      r_getA (pc2 := 36) rfl rfl (sh_T hs rfl rfl) (sh_A hs rfl rfl) (
      r_getI (pc2 := 39) rfl rfl (sh_T hs rfl rfl) (
      jr_g fun h13 => r_cge (pc2 := 42) (t := 114) rfl h13.1 h13.2 rfl (fun _ =>
      r_aload (pc2 := 43) rfl rfl rfl (
      r_iload (pc2 := 45) rfl rfl rfl (
      r_callVP (pc2 := 48) (args := [.ref 22, gv v8]) (st2 := []) rfl rfl rfl rfl rfl rfl (rc_of (sh_T hs rfl rfl)) (rf_cv_hasWord hs (d + 5) g v8 ) fun v14 => (
      r_b1 (R1 := (fun (q : Int) (c : Option jm_R) => c = jm_sup cd_121 (jm_cl jm_CD km_n (d + 6)) (69, [some (.ref 22), j5, some (.long c6), none, some (gv v7), some (gv v8), j9], [gv q], gm_h s g))) (
      jr_g fun h16 => r_ifeq (pc2 := 51) (t := 68) rfl h16 rfl (fun _ =>
      r_ic (x := 0) (pc2 := 69) rfl ic_0 rfl (
      jr_leaf rfl)) (fun _ =>
      r_aload (pc2 := 52) rfl rfl rfl (
      r_getA (pc2 := 55) rfl rfl (sh_T hs rfl rfl) (sh_A hs rfl rfl) (
      r_getA (pc2 := 58) rfl rfl (sh_T hs rfl rfl) (sh_A hs rfl rfl) (
      r_iload (pc2 := 60) rfl rfl rfl (
      jr_g fun h17 => r_iald (len := 30) (pc2 := 61) rfl rfl (sh_T hs rfl rfl) (sh_L hs rfl rfl) rfl h17 (
      jr_g fun h18 => r_iflt (pc2 := 64) (t := 68) rfl h18 rfl (fun _ =>
      r_ic (x := 0) (pc2 := 69) rfl ic_0 rfl (
      jr_leaf rfl)) (fun _ =>
      r_ic (x := 1) (pc2 := 65) rfl ic_1 rfl (
      r_goto (t := 69) rfl (
      jr_leaf rfl)))))))))) (fun v15 c h => match c, h with | _, rfl => (
      r_istore (L2 := [some (.ref 22), j5, some (.long c6), none, some (gv v7), some (gv v8), some (gv v15)]) (pc2 := 71) rfl rfl rfl (
      r_iload (pc2 := 73) rfl rfl rfl (
      jr_g fun h19 => r_ifeq (pc2 := 76) (t := 108) rfl h19 rfl (fun _ =>
      r_iinc (kk := 1) (L2 := [some (.ref 22), j5, some (.long c6), none, some (gv v7), some (gv (v8 + 1)), some (gv v15)]) (pc2 := 111) rfl ic_1 rfl rfl rfl (
      r_goto (t := 30) rfl (
      ih v7 (v8 + 1) _ _ hj5 rfl))) (fun _ =>
      r_iload (pc2 := 78) rfl rfl rfl (
      jr_g fun h21 => r_iflt (pc2 := 81) (t := 104) rfl h21 rfl (fun _ =>
      r_iload (pc2 := 106) rfl rfl rfl (
      r_istore (L2 := [some (.ref 22), j5, some (.long c6), none, some (gv v8), some (gv v8), some (gv v15)]) (pc2 := 108) rfl rfl rfl (
      r_iinc (kk := 1) (L2 := [some (.ref 22), j5, some (.long c6), none, some (gv v8), some (gv (v8 + 1)), some (gv v15)]) (pc2 := 111) rfl ic_1 rfl rfl rfl (
      r_goto (t := 30) rfl (
      ih v8 (v8 + 1) _ _ hj5 rfl))))) (fun _ =>
      r_aload (pc2 := 82) rfl rfl rfl (
      r_getA (pc2 := 85) rfl rfl (sh_T hs rfl rfl) (sh_A hs rfl rfl) (
      r_getA (pc2 := 88) rfl rfl (sh_T hs rfl rfl) (sh_A hs rfl rfl) (
      r_iload (pc2 := 90) rfl rfl rfl (
      jr_g fun h23 => r_iald (len := 30) (pc2 := 91) rfl rfl (sh_T hs rfl rfl) (sh_L hs rfl rfl) rfl h23 (
      r_aload (pc2 := 92) rfl rfl rfl (
      r_getA (pc2 := 95) rfl rfl (sh_T hs rfl rfl) (sh_A hs rfl rfl) (
      r_getA (pc2 := 98) rfl rfl (sh_T hs rfl rfl) (sh_A hs rfl rfl) (
      r_iload (pc2 := 100) rfl rfl rfl (
      jr_g fun h24 => r_iald (len := 30) (pc2 := 101) rfl rfl (sh_T hs rfl rfl) (sh_L hs rfl rfl) rfl h24 (
      jr_g fun h25 => r_cge (pc2 := 104) (t := 108) rfl h25.1 h25.2 rfl (fun _ =>
      r_iload (pc2 := 106) rfl rfl rfl (
      r_istore (L2 := [some (.ref 22), j5, some (.long c6), none, some (gv v8), some (gv v8), some (gv v15)]) (pc2 := 108) rfl rfl rfl (
      r_iinc (kk := 1) (L2 := [some (.ref 22), j5, some (.long c6), none, some (gv v8), some (gv (v8 + 1)), some (gv v15)]) (pc2 := 111) rfl ic_1 rfl rfl rfl (
      r_goto (t := 30) rfl (
      ih v8 (v8 + 1) _ _ hj5 rfl))))) (fun _ =>
      r_iinc (kk := 1) (L2 := [some (.ref 22), j5, some (.long c6), none, some (gv v7), some (gv (v8 + 1)), some (gv v15)]) (pc2 := 111) rfl ic_1 rfl rfl rfl (
      r_goto (t := 30) rfl (
      ih v7 (v8 + 1) _ _ hj5 rfl)))))))))))))))))))))))) (fun _ =>
      jr_leaf ⟨_, _, rfl, hj9, rfl⟩))))))
theorem rf_cv_prove {s : gm_S} {n m : Nat} (hs : gm_sh s n m) (d : Nat)  (g : gm_T) (a1 : Int)  : jr (eI s) (cv_prove n g a1) (jm_cl jm_CD km_n (d + 7) 121 [.ref 22, gv a1] (gm_h s g)) := by
  unfold cv_prove
  exact (r_ent (cd := cd_121) (n := 7) (L0 := [some (.ref 22), some (gv a1), none, none, none, none, none]) rfl rfl rfl rfl (
      r_aload (pc2 := 1) rfl rfl rfl (
      r_iload (pc2 := 2) rfl rfl rfl (
      r_callVP (pc2 := 5) (args := [.ref 22, gv a1]) (st2 := []) rfl rfl rfl rfl rfl rfl (rc_of (sh_T hs rfl rfl)) (rf_cv_groupHasWord hs (d + 5) g a1 ) fun v1 => (
      jr_g fun h2 => r_ifne (pc2 := 8) (t := 10) rfl h2 rfl (fun _ =>
      r_ic (x := -1) (pc2 := 9) rfl ic_m1 rfl (
      r_iret rfl rfl)) (fun _ =>
      r_aload (pc2 := 11) rfl rfl rfl (
      r_callVL (pc2 := 14) (args := [.ref 22]) (st2 := []) rfl rfl rfl rfl rfl rfl (rc_of (sh_T hs rfl rfl)) (rf_cv_bestJoins hs d g ) fun v3 => (
      r_lstore (L2 := [some (.ref 22), some (gv a1), some (.long v3), none, none, none, none]) (pc2 := 15) rfl rfl rfl (
      r_aload (pc2 := 16) rfl rfl rfl (
      r_getA (pc2 := 19) rfl rfl (sh_T hs rfl rfl) (sh_A hs rfl rfl) (
      r_iload (pc2 := 20) rfl rfl rfl (
      r_lload (pc2 := 21) rfl rfl rfl (
      r_callVV (pc2 := 24) (args := [.ref 14, gv a1, .long v3]) (st2 := []) rfl rfl rfl rfl rfl rfl (rc_of (sh_T hs rfl rfl)) (rf_cj_measure hs (d + 4) g a1 v3 ) fun g4 => (
      r_ic (x := -1) (pc2 := 25) rfl ic_m1 rfl (
      r_istore (L2 := [some (.ref 22), some (gv a1), some (.long v3), none, some (gv (-1)), none, none]) (pc2 := 27) rfl rfl rfl (
      r_ic (x := 0) (pc2 := 28) rfl ic_0 rfl (
      r_istore (L2 := [some (.ref 22), some (gv a1), some (.long v3), none, some (gv (-1)), some (gv 0), none]) (pc2 := 30) rfl rfl rfl (
      r_b1 (rl_cv_prove_l30 hs d  g4 v3  fz (-1) 0 _ _ rfl rfl) (fun v29 c h => match c, h with | _, ⟨j30, j31, hj30, hj31, rfl⟩ => (
      r_iload (pc2 := 116) rfl rfl rfl (
      jr_g fun h32 => r_ifge (pc2 := 119) (t := 123) rfl h32 rfl (fun _ =>
      r_ic (x := -1) (pc2 := 120) rfl ic_m1 rfl (
      r_goto (t := 133) rfl (
      r_iret rfl rfl))) (fun _ =>
      r_aload (pc2 := 124) rfl rfl rfl (
      r_getA (pc2 := 127) rfl rfl (sh_T hs rfl rfl) (sh_A hs rfl rfl) (
      r_iload (pc2 := 129) rfl rfl rfl (
      r_lload (pc2 := 130) rfl rfl rfl (
      r_callVI (pc2 := 133) (args := [.ref 14, gv v29, .long v3]) (st2 := []) rfl rfl rfl rfl rfl rfl (rc_of (sh_T hs rfl rfl)) (rf_cj_walk hs (d + 4) g4 v29 v3 ) fun v33 g34 => (
      r_iret rfl rfl)))))))))))))))))))))))))))
theorem rl_cw_feed_l37 {s : gm_S} {n m : Nat} (hs : gm_sh s n m) (d : Nat)  (c4 : Int64)  : ∀ (fuel : Nat) (v6 : Int) (g7 : gm_T) (j5 : Option Value) (hj5 : jm_lg j5 = false), jr (fun (q : gm_T) (c : Option jm_R) => ∃ (j8 : Option Value), jm_lg j8 = false ∧ c = jm_sup cd_123 (jm_cl jm_CD km_n (d + 1)) (67, [some (.ref 0), some (.long c4), none, j5, j8], [], gm_h s q)) (cw_feed_l37  c4 fuel v6 g7) (jm_sup cd_123 (jm_cl jm_CD km_n (d + 1)) (37, [some (.ref 0), some (.long c4), none, j5, some (gv v6)], [], gm_h s g7)) := by
  intro fuel
  induction fuel with
  | zero => intros; exact jr_none
  | succ fuel ih =>
    intro v6 g7 j5 hj5
    unfold cw_feed_l37
    exact (
      r_iload (pc2 := 39) rfl rfl rfl (
      jr_g fun h10 => r_iflt (pc2 := 42) (t := 67) rfl h10 rfl (fun _ =>
      jr_leaf ⟨_, rfl, rfl⟩) (fun _ =>
      r_aload (pc2 := 43) rfl rfl rfl (
      r_getA (pc2 := 46) rfl rfl (sh_T hs rfl rfl) (sh_A hs rfl rfl) (
      r_lload (pc2 := 47) rfl rfl rfl (
      r_ic (x := 8) (pc2 := 49) rfl ic_8 rfl (
      r_iload (pc2 := 51) rfl rfl rfl (
      r_imul (pc2 := 52) rfl rfl (
      r_lushr (pc2 := 53) rfl rfl (
      r_l2i (pc2 := 54) rfl rfl (
      r_ic (x := 255) (pc2 := 57) rfl ic_255 rfl (
      r_iand (pc2 := 58) rfl rfl (
      r_callVV (pc2 := 61) (args := [.ref 1, gv (zA (lI (lSu c4 (8 * v6))) 255)]) (st2 := []) rfl rfl rfl rfl rfl rfl (rc_of (sh_T hs rfl rfl)) (rf_ct_append hs d g7 (zA (lI (lSu c4 (8 * v6))) 255) ) fun g11 => (
      r_iinc (kk := -1) (L2 := [some (.ref 0), some (.long c4), none, j5, some (gv (v6 + (-1)))]) (pc2 := 64) rfl ic_m1 rfl rfl (jm_st1j hj5 rfl ⟨rfl, rfl⟩) (
      r_goto (t := 37) rfl (
      ih (v6 + (-1)) g11 _ hj5))))))))))))))))
theorem rf_cw_feed {s : gm_S} {n m : Nat} (hs : gm_sh s n m) (d : Nat)  (g : gm_T) (a1 : Int64) (a3 : Int)  : jr (eI s) (cw_feed g a1 a3) (jm_cl jm_CD km_n (d + 2) 123 [.ref 0, .long a1, gv a3] (gm_h s g)) := by
  unfold cw_feed
  exact (r_ent (cd := cd_123) (n := 5) (L0 := [some (.ref 0), some (.long a1), none, some (gv a3), none]) rfl rfl rfl rfl (
      r_iload (pc2 := 1) rfl rfl rfl (
      r_ic (x := 1) (pc2 := 2) rfl ic_1 rfl (
      jr_g fun h1 => r_clt (pc2 := 5) (t := 11) rfl h1 (rgk rfl) rfl (fun _ =>
      r_ic (x := -2) (pc2 := 13) rfl ic_m2 rfl (
      r_iret rfl rfl)) (fun _ =>
      r_iload (pc2 := 6) rfl rfl rfl (
      r_ic (x := 8) (pc2 := 8) rfl ic_8 rfl (
      r_cle (pc2 := 11) (t := 14) rfl h1 (rgk rfl) rfl (fun _ =>
      r_aload (pc2 := 15) rfl rfl rfl (
      r_getA (pc2 := 18) rfl rfl (sh_T hs rfl rfl) (sh_A hs rfl rfl) (
      r_getI (pc2 := 21) rfl rfl (sh_T hs rfl rfl) (
      r_iload (pc2 := 22) rfl rfl rfl (
      r_iadd (pc2 := 23) rfl rfl (
      r_ic (x := 240) (pc2 := 26) rfl ic_240 rfl (
      jr_g fun h2 => r_cle (pc2 := 29) (t := 32) rfl h2 (rgk rfl) rfl (fun _ =>
      r_iload (pc2 := 33) rfl rfl rfl (
      r_ic (x := 1) (pc2 := 34) rfl ic_1 rfl (
      r_isub (pc2 := 35) rfl rfl (
      r_istoreL (L3 := fun v3 => [some (.ref 0), some (.long a1), none, some (gv a3), some (gv v3)]) (pc2 := 37) rfl rfl (fun _ => rfl) fun v3 => (
      r_b1 (rl_cw_feed_l37 hs d   a1  fz v3 g _ rfl) (fun g15 c h => match c, h with | _, ⟨j14, hj14, rfl⟩ => (
      r_aload (pc2 := 68) rfl rfl rfl (
      r_getA (pc2 := 71) rfl rfl (sh_T hs rfl rfl) (sh_A hs rfl rfl) (
      r_getI (pc2 := 74) rfl rfl (sh_T hs rfl rfl) (
      r_iret rfl rfl)))))))))) (fun _ =>
      r_ic (x := -4) (pc2 := 31) rfl ic_m4 rfl (
      r_iret rfl rfl))))))))) (fun _ =>
      r_ic (x := -2) (pc2 := 13) rfl ic_m2 rfl (
      r_iret rfl rfl)))))))))
theorem rf_cw_isBit {s : gm_S} {n m : Nat} (hs : gm_sh s n m) (d : Nat)  (g : gm_T) (a1 : Int)  : jr (pI s g) (cw_isBit g a1) (jm_cl jm_CD km_n (d + 1) 160 [.ref 0, gv a1] (gm_h s g)) := by
  unfold cw_isBit
  exact (r_ent (cd := cd_160) (n := 2) (L0 := [some (.ref 0), some (gv a1)]) rfl rfl rfl rfl (
      r_iload (pc2 := 1) rfl rfl rfl (
      jr_g fun h1 => r_iflt (pc2 := 4) (t := 19) rfl h1 rfl (fun _ =>
      r_ic (x := 0) (pc2 := 20) rfl ic_0 rfl (
      r_zret rfl (by decide) rfl)) (fun _ =>
      r_iload (pc2 := 5) rfl rfl rfl (
      r_aload (pc2 := 6) rfl rfl rfl (
      r_getA (pc2 := 9) rfl rfl (sh_T hs rfl rfl) (sh_A hs rfl rfl) (
      r_getI (pc2 := 12) rfl rfl (sh_T hs rfl rfl) (
      jr_g fun h2 => r_cge (pc2 := 15) (t := 19) rfl h1 h2 rfl (fun _ =>
      r_ic (x := 1) (pc2 := 16) rfl ic_1 rfl (
      r_goto (t := 20) rfl (
      r_zret rfl (by decide) rfl))) (fun _ =>
      r_ic (x := 0) (pc2 := 20) rfl ic_0 rfl (
      r_zret rfl (by decide) rfl))))))))))
theorem rf_cw_about {s : gm_S} {n m : Nat} (hs : gm_sh s n m) (d : Nat)  (g : gm_T) (a1 : Int) (a2 : Int)  : jr (pI s g) (cw_about n g a1 a2) (jm_cl jm_CD km_n (d + 2) 125 [.ref 0, gv a1, gv a2] (gm_h s g)) := by
  unfold cw_about
  exact (r_ent (cd := cd_125) (n := 4) (L0 := [some (.ref 0), some (gv a1), some (gv a2), none]) rfl rfl rfl rfl (
      r_aload (pc2 := 1) rfl rfl rfl (
      r_iload (pc2 := 2) rfl rfl rfl (
      r_callVP (pc2 := 5) (args := [.ref 0, gv a1]) (st2 := []) rfl rfl rfl rfl rfl rfl (rc_of (sh_T hs rfl rfl)) (rf_cw_isBit hs d g a1 ) fun v1 => (
      jr_g fun h2 => r_ifne (pc2 := 8) (t := 11) rfl h2 rfl (fun _ =>
      r_ic (x := -100000) (pc2 := 10) rfl ic_m100000 rfl (
      r_iret rfl rfl)) (fun _ =>
      r_aload (pc2 := 12) rfl rfl rfl (
      r_getA (pc2 := 15) rfl rfl (sh_T hs rfl rfl) (sh_A hs rfl rfl) (
      r_getA (pc2 := 18) rfl rfl (sh_T hs rfl rfl) (sh_A hs rfl rfl) (
      r_iload (pc2 := 19) rfl rfl rfl (
      jr_g fun h3 => r_aald (pc2 := 20) rfl rfl hs h3 (
      r_astore (L2 := [some (.ref 0), some (gv a1), some (gv a2), some (.ref (bA a1.toNat))]) (pc2 := 21) rfl rfl rfl (
      r_iload (pc2 := 22) rfl rfl rfl (
      jr_g fun h4 => (jr_ite (fun h5 => r_sw (pc2 := 64) rfl (sw_yes ic_0 h5) (
      r_aload (pc2 := 65) rfl rfl rfl (
      r_getI (pc2 := 68) rfl rfl (sh_b0 hs (bn_lt hs h3)) (
      r_iret rfl rfl)))) (fun h5 =>
      jr_ite (fun h6 => r_sw (pc2 := 69) rfl (sw_no ic_0 h4 (rgk rfl) h5 (sw_yes ic_1 h6)) (
      r_aload (pc2 := 70) rfl rfl rfl (
      r_getI (pc2 := 73) rfl rfl (sh_b0 hs (bn_lt hs h3)) (
      r_iret rfl rfl)))) (fun h6 =>
      jr_ite (fun h7 => r_sw (pc2 := 74) rfl (sw_no ic_0 h4 (rgk rfl) h5 (sw_no ic_1 h4 (rgk rfl) h6 (sw_yes ic_2 h7))) (
      r_aload (pc2 := 75) rfl rfl rfl (
      r_getI (pc2 := 78) rfl rfl (sh_b0 hs (bn_lt hs h3)) (
      r_iret rfl rfl)))) (fun h7 =>
      jr_ite (fun h8 => r_sw (pc2 := 79) rfl (sw_no ic_0 h4 (rgk rfl) h5 (sw_no ic_1 h4 (rgk rfl) h6 (sw_no ic_2 h4 (rgk rfl) h7 (sw_yes ic_3 h8)))) (
      r_aload (pc2 := 80) rfl rfl rfl (
      r_getI (pc2 := 83) rfl rfl (sh_b0 hs (bn_lt hs h3)) (
      r_iret rfl rfl)))) (fun h8 =>
      jr_ite (fun h9 => r_sw (pc2 := 84) rfl (sw_no ic_0 h4 (rgk rfl) h5 (sw_no ic_1 h4 (rgk rfl) h6 (sw_no ic_2 h4 (rgk rfl) h7 (sw_no ic_3 h4 (rgk rfl) h8 (sw_yes ic_4 h9))))) (
      r_aload (pc2 := 85) rfl rfl rfl (
      r_getI (pc2 := 88) rfl rfl (sh_b0 hs (bn_lt hs h3)) (
      r_iret rfl rfl)))) (fun h9 =>
      jr_ite (fun h10 => r_sw (pc2 := 89) rfl (sw_no ic_0 h4 (rgk rfl) h5 (sw_no ic_1 h4 (rgk rfl) h6 (sw_no ic_2 h4 (rgk rfl) h7 (sw_no ic_3 h4 (rgk rfl) h8 (sw_no ic_4 h4 (rgk rfl) h9 (sw_yes ic_5 h10)))))) (
      r_aload (pc2 := 90) rfl rfl rfl (
      r_getI (pc2 := 93) rfl rfl (sh_b0 hs (bn_lt hs h3)) (
      r_iret rfl rfl)))) (fun h10 =>
      jr_ite (fun h11 => r_sw (pc2 := 94) rfl (sw_no ic_0 h4 (rgk rfl) h5 (sw_no ic_1 h4 (rgk rfl) h6 (sw_no ic_2 h4 (rgk rfl) h7 (sw_no ic_3 h4 (rgk rfl) h8 (sw_no ic_4 h4 (rgk rfl) h9 (sw_no ic_5 h4 (rgk rfl) h10 (sw_yes ic_6 h11))))))) (
      r_aload (pc2 := 95) rfl rfl rfl (
      r_getI (pc2 := 98) rfl rfl (sh_b0 hs (bn_lt hs h3)) (
      r_iret rfl rfl)))) (fun h11 =>
      r_sw (pc2 := 99) rfl (sw_no ic_0 h4 (rgk rfl) h5 (sw_no ic_1 h4 (rgk rfl) h6 (sw_no ic_2 h4 (rgk rfl) h7 (sw_no ic_3 h4 (rgk rfl) h8 (sw_no ic_4 h4 (rgk rfl) h9 (sw_no ic_5 h4 (rgk rfl) h10 (sw_no ic_6 h4 (rgk rfl) h11 rfl))))))) (
      r_ic (x := -100000) (pc2 := 101) rfl ic_m100000 rfl (
      r_iret rfl rfl)))))))))))))))))))))))
theorem rf_cw_isEdge {s : gm_S} {n m : Nat} (hs : gm_sh s n m) (d : Nat)  (g : gm_T) (a1 : Int) (a2 : Int)  : jr (pI s g) (cw_isEdge n g a1 a2) (jm_cl jm_CD km_n (d + 2) 161 [.ref 0, gv a1, gv a2] (gm_h s g)) := by
  unfold cw_isEdge
  exact (r_ent (cd := cd_161) (n := 3) (L0 := [some (.ref 0), some (gv a1), some (gv a2)]) rfl rfl rfl rfl (
      r_aload (pc2 := 1) rfl rfl rfl (
      r_iload (pc2 := 2) rfl rfl rfl (
      r_callVP (pc2 := 5) (args := [.ref 0, gv a1]) (st2 := []) rfl rfl rfl rfl rfl rfl (rc_of (sh_T hs rfl rfl)) (rf_cw_isBit hs d g a1 ) fun v1 => (
      jr_g fun h2 => r_ifeq (pc2 := 8) (t := 32) rfl h2 rfl (fun _ =>
      r_ic (x := 0) (pc2 := 33) rfl ic_0 rfl (
      r_zret rfl (by decide) rfl)) (fun _ =>
      r_iload (pc2 := 9) rfl rfl rfl (
      jr_g fun h3 => r_iflt (pc2 := 12) (t := 32) rfl h3 rfl (fun _ =>
      r_ic (x := 0) (pc2 := 33) rfl ic_0 rfl (
      r_zret rfl (by decide) rfl)) (fun _ =>
      r_iload (pc2 := 13) rfl rfl rfl (
      r_aload (pc2 := 14) rfl rfl rfl (
      r_getA (pc2 := 17) rfl rfl (sh_T hs rfl rfl) (sh_A hs rfl rfl) (
      r_getA (pc2 := 20) rfl rfl (sh_T hs rfl rfl) (sh_A hs rfl rfl) (
      r_iload (pc2 := 21) rfl rfl rfl (
      jr_g fun h4 => r_aald (pc2 := 22) rfl rfl hs h4 (
      r_getI (pc2 := 25) rfl rfl (sh_b0 hs (bn_lt hs h4)) (
      jr_g fun h5 => r_cge (pc2 := 28) (t := 32) rfl h3 h5 rfl (fun _ =>
      r_ic (x := 1) (pc2 := 29) rfl ic_1 rfl (
      r_goto (t := 33) rfl (
      r_zret rfl (by decide) rfl))) (fun _ =>
      r_ic (x := 0) (pc2 := 33) rfl ic_0 rfl (
      r_zret rfl (by decide) rfl)))))))))))))))))
theorem rf_cw_corner {s : gm_S} {n m : Nat} (hs : gm_sh s n m) (d : Nat)  (g : gm_T) (a1 : Int) (a2 : Int) (a3 : Int)  : jr (pI s g) (cw_corner n g a1 a2 a3) (jm_cl jm_CD km_n (d + 3) 126 [.ref 0, gv a1, gv a2, gv a3] (gm_h s g)) := by
  unfold cw_corner
  exact (r_ent (cd := cd_126) (n := 5) (L0 := [some (.ref 0), some (gv a1), some (gv a2), some (gv a3), none]) rfl rfl rfl rfl (
      r_aload (pc2 := 1) rfl rfl rfl (
      r_iload (pc2 := 2) rfl rfl rfl (
      r_iload (pc2 := 3) rfl rfl rfl (
      r_callVP (pc2 := 6) (args := [.ref 0, gv a1, gv a2]) (st2 := []) rfl rfl rfl rfl rfl rfl (rc_of (sh_T hs rfl rfl)) (rf_cw_isEdge hs d g a1 a2 ) fun v1 => (
      jr_g fun h2 => r_ifne (pc2 := 9) (t := 12) rfl h2 rfl (fun _ =>
      r_ic (x := -100000) (pc2 := 11) rfl ic_m100000 rfl (
      r_iret rfl rfl)) (fun _ =>
      r_aload (pc2 := 13) rfl rfl rfl (
      r_getA (pc2 := 16) rfl rfl (sh_T hs rfl rfl) (sh_A hs rfl rfl) (
      r_getA (pc2 := 19) rfl rfl (sh_T hs rfl rfl) (sh_A hs rfl rfl) (
      r_iload (pc2 := 20) rfl rfl rfl (
      jr_g fun h3 => r_aald (pc2 := 21) rfl rfl hs h3 (
      r_astore (L2 := [some (.ref 0), some (gv a1), some (gv a2), some (gv a3), some (.ref (bA a1.toNat))]) (pc2 := 23) rfl rfl rfl (
      r_iload (pc2 := 24) rfl rfl rfl (
      jr_g fun h4 => (jr_ite (fun h5 => r_sw (pc2 := 52) rfl (sw_yes ic_0 h5) (
      r_aload (pc2 := 54) rfl rfl rfl (
      r_getA (pc2 := 57) rfl rfl (sh_b0 hs (bn_lt hs h3)) (sh_bA hs (bn_lt hs h3) rfl rfl) (
      r_iload (pc2 := 58) rfl rfl rfl (
      jr_g fun h10 => r_iald (len := 8) (pc2 := 59) rfl rfl (sh_bT hs (bn_lt hs h3) rfl rfl) (sh_bL hs (bn_lt hs h3) rfl rfl) rfl h10 (
      r_iret rfl rfl)))))) (fun h5 =>
      jr_ite (fun h6 => r_sw (pc2 := 60) rfl (sw_no ic_0 h4 (rgk rfl) h5 (sw_yes ic_1 h6)) (
      r_aload (pc2 := 62) rfl rfl rfl (
      r_getA (pc2 := 65) rfl rfl (sh_b0 hs (bn_lt hs h3)) (sh_bA hs (bn_lt hs h3) rfl rfl) (
      r_iload (pc2 := 66) rfl rfl rfl (
      jr_g fun h9 => r_iald (len := 8) (pc2 := 67) rfl rfl (sh_bT hs (bn_lt hs h3) rfl rfl) (sh_bL hs (bn_lt hs h3) rfl rfl) rfl h9 (
      r_iret rfl rfl)))))) (fun h6 =>
      jr_ite (fun h7 => r_sw (pc2 := 68) rfl (sw_no ic_0 h4 (rgk rfl) h5 (sw_no ic_1 h4 (rgk rfl) h6 (sw_yes ic_2 h7))) (
      r_aload (pc2 := 70) rfl rfl rfl (
      r_getA (pc2 := 73) rfl rfl (sh_b0 hs (bn_lt hs h3)) (sh_bA hs (bn_lt hs h3) rfl rfl) (
      r_iload (pc2 := 74) rfl rfl rfl (
      jr_g fun h8 => r_iald (len := 8) (pc2 := 75) rfl rfl (sh_bT hs (bn_lt hs h3) rfl rfl) (sh_bL hs (bn_lt hs h3) rfl rfl) rfl h8 (
      r_iret rfl rfl)))))) (fun h7 =>
      r_sw (pc2 := 76) rfl (sw_no ic_0 h4 (rgk rfl) h5 (sw_no ic_1 h4 (rgk rfl) h6 (sw_no ic_2 h4 (rgk rfl) h7 rfl))) (
      r_ic (x := -100000) (pc2 := 78) rfl ic_m100000 rfl (
      r_iret rfl rfl))))))))))))))))))))
theorem rf_cw_isNear {s : gm_S} {n m : Nat} (hs : gm_sh s n m) (d : Nat)  (g : gm_T) (a0 : Int)  : jr (pI s g) (cw_isNear g a0) (jm_cl jm_CD km_n (d + 1) 165 [gv a0] (gm_h s g)) := by
  unfold cw_isNear
  exact (r_ent (cd := cd_165) (n := 1) (L0 := [some (gv a0)]) rfl rfl rfl rfl (
      r_iload (pc2 := 1) rfl rfl rfl (
      r_ic (x := -500) (pc2 := 4) rfl ic_m500 rfl (
      jr_g fun h1 => r_clt (pc2 := 7) (t := 18) rfl h1 (rgk rfl) rfl (fun _ =>
      r_ic (x := 0) (pc2 := 19) rfl ic_0 rfl (
      r_zret rfl (by decide) rfl)) (fun _ =>
      r_iload (pc2 := 8) rfl rfl rfl (
      r_ic (x := 500) (pc2 := 11) rfl ic_500 rfl (
      r_cgt (pc2 := 14) (t := 18) rfl h1 (rgk rfl) rfl (fun _ =>
      r_ic (x := 1) (pc2 := 15) rfl ic_1 rfl (
      r_goto (t := 19) rfl (
      r_zret rfl (by decide) rfl))) (fun _ =>
      r_ic (x := 0) (pc2 := 19) rfl ic_0 rfl (
      r_zret rfl (by decide) rfl)))))))))
theorem rf_cw_isPlacing {s : gm_S} {n m : Nat} (hs : gm_sh s n m) (d : Nat)  (g : gm_T) (a0 : Int) (a1 : Int) (a2 : Int)  : jr (pI s g) (cw_isPlacing g a0 a1 a2) (jm_cl jm_CD km_n (d + 2) 166 [gv a0, gv a1, gv a2] (gm_h s g)) := by
  unfold cw_isPlacing
  exact (r_ent (cd := cd_166) (n := 3) (L0 := [some (gv a0), some (gv a1), some (gv a2)]) rfl rfl rfl rfl (
      r_iload (pc2 := 1) rfl rfl rfl (
      jr_g fun h1 => r_iflt (pc2 := 4) (t := 27) rfl h1 rfl (fun _ =>
      r_ic (x := 0) (pc2 := 28) rfl ic_0 rfl (
      r_zret rfl (by decide) rfl)) (fun _ =>
      r_iload (pc2 := 5) rfl rfl rfl (
      r_ic (x := 3) (pc2 := 6) rfl ic_3 rfl (
      r_cgt (pc2 := 9) (t := 27) rfl h1 (rgk rfl) rfl (fun _ =>
      r_iload (pc2 := 10) rfl rfl rfl (
      r_callSP (pc2 := 13) (args := [gv a1]) (st2 := []) rfl rfl rfl rfl rfl rfl (rf_cw_isNear hs d g a1 ) fun v2 => (
      jr_g fun h3 => r_ifeq (pc2 := 16) (t := 27) rfl h3 rfl (fun _ =>
      r_ic (x := 0) (pc2 := 28) rfl ic_0 rfl (
      r_zret rfl (by decide) rfl)) (fun _ =>
      r_iload (pc2 := 17) rfl rfl rfl (
      r_callSP (pc2 := 20) (args := [gv a2]) (st2 := []) rfl rfl rfl rfl rfl rfl (rf_cw_isNear hs d g a2 ) fun v4 => (
      jr_g fun h5 => r_ifeq (pc2 := 23) (t := 27) rfl h5 rfl (fun _ =>
      r_ic (x := 0) (pc2 := 28) rfl ic_0 rfl (
      r_zret rfl (by decide) rfl)) (fun _ =>
      r_ic (x := 1) (pc2 := 24) rfl ic_1 rfl (
      r_goto (t := 28) rfl (
      r_zret rfl (by decide) rfl))))))))) (fun _ =>
      r_ic (x := 0) (pc2 := 28) rfl ic_0 rfl (
      r_zret rfl (by decide) rfl))))))))
theorem rf_cw_overlap {s : gm_S} {n m : Nat} (hs : gm_sh s n m) (d : Nat)  (g : gm_T) (a1 : Int) (a2 : Int) (a3 : Int) (a4 : Int) (a5 : Int)  : jr (pI s g) (cw_overlap n g a1 a2 a3 a4 a5) (jm_cl jm_CD km_n (d + 3) 127 [.ref 0, gv a1, gv a2, gv a3, gv a4, gv a5] (gm_h s g)) := by
  unfold cw_overlap
  exact (r_ent (cd := cd_127) (n := 6) (L0 := [some (.ref 0), some (gv a1), some (gv a2), some (gv a3), some (gv a4), some (gv a5)]) rfl rfl rfl rfl (
      r_aload (pc2 := 1) rfl rfl rfl (
      r_iload (pc2 := 2) rfl rfl rfl (
      r_callVP (pc2 := 5) (args := [.ref 0, gv a1]) (st2 := []) rfl rfl rfl rfl rfl rfl (rc_of (sh_T hs rfl rfl)) (rf_cw_isBit hs (d + 1) g a1 ) fun v1 => (
      jr_g fun h2 => r_ifeq (pc2 := 8) (t := 16) rfl h2 rfl (fun _ =>
      r_ic (x := -1) (pc2 := 17) rfl ic_m1 rfl (
      r_iret rfl rfl)) (fun _ =>
      r_aload (pc2 := 9) rfl rfl rfl (
      r_iload (pc2 := 10) rfl rfl rfl (
      r_callVP (pc2 := 13) (args := [.ref 0, gv a2]) (st2 := []) rfl rfl rfl rfl rfl rfl (rc_of (sh_T hs rfl rfl)) (rf_cw_isBit hs (d + 1) g a2 ) fun v3 => (
      jr_g fun h4 => r_ifne (pc2 := 16) (t := 18) rfl h4 rfl (fun _ =>
      r_ic (x := -1) (pc2 := 17) rfl ic_m1 rfl (
      r_iret rfl rfl)) (fun _ =>
      r_iload (pc2 := 19) rfl rfl rfl (
      r_iload (pc2 := 20) rfl rfl rfl (
      jr_g fun h5 => r_ceq (pc2 := 23) (t := 34) rfl h5.1 h5.2 rfl (fun _ =>
      r_ic (x := -2) (pc2 := 36) rfl ic_m2 rfl (
      r_iret rfl rfl)) (fun _ =>
      r_iload (pc2 := 24) rfl rfl rfl (
      r_iload (pc2 := 26) rfl rfl rfl (
      r_iload (pc2 := 28) rfl rfl rfl (
      r_callSP (pc2 := 31) (args := [gv a3, gv a4, gv a5]) (st2 := []) rfl rfl rfl rfl rfl rfl (rf_cw_isPlacing hs d g a3 a4 a5 ) fun v6 => (
      jr_g fun h7 => r_ifne (pc2 := 34) (t := 37) rfl h7 rfl (fun _ =>
      r_ic (x := -2) (pc2 := 36) rfl ic_m2 rfl (
      r_iret rfl rfl)) (fun _ =>
      r_aload (pc2 := 38) rfl rfl rfl (
      r_getA (pc2 := 41) rfl rfl (sh_T hs rfl rfl) (sh_A hs rfl rfl) (
      r_getA (pc2 := 44) rfl rfl (sh_T hs rfl rfl) (sh_A hs rfl rfl) (
      r_iload (pc2 := 45) rfl rfl rfl (
      jr_g fun h8 => r_aald (pc2 := 46) rfl rfl hs h8 (
      r_ic (x := 0) (pc2 := 47) rfl ic_0 rfl (
      r_aload (pc2 := 48) rfl rfl rfl (
      r_getA (pc2 := 51) rfl rfl (sh_T hs rfl rfl) (sh_A hs rfl rfl) (
      r_getA (pc2 := 54) rfl rfl (sh_T hs rfl rfl) (sh_A hs rfl rfl) (
      r_iload (pc2 := 55) rfl rfl rfl (
      jr_g fun h9 => r_aald (pc2 := 56) rfl rfl hs h9 (
      r_iload (pc2 := 57) rfl rfl rfl (
      r_iload (pc2 := 59) rfl rfl rfl (
      r_iload (pc2 := 61) rfl rfl rfl (
      r_callVP (pc2 := 64) (args := [.ref (bA a1.toNat), gv 0, .ref (bA a2.toNat), gv a3, gv a4, gv a5]) (st2 := []) rfl rfl rfl rfl rfl rfl (rc_of (sh_b0 hs (bn_lt hs h8))) (rf_cb_common hs d g a1.toNat 0 a2.toNat a3 a4 a5 (bn_lt hs h8) (bn_lt hs h9)) fun v10 => (
      r_iret rfl rfl)))))))))))))))))))))))))))))))))
theorem rf_cw_tolerance {s : gm_S} {n m : Nat} (hs : gm_sh s n m) (d : Nat)  (g : gm_T) (a1 : Int)  : jr (eI s) (cw_tolerance g a1) (jm_cl jm_CD km_n (d + 1) 128 [.ref 0, gv a1] (gm_h s g)) := by
  unfold cw_tolerance
  exact (r_ent (cd := cd_128) (n := 3) (L0 := [some (.ref 0), some (gv a1), none]) rfl rfl rfl rfl (
      r_iload (pc2 := 1) rfl rfl rfl (
      jr_g fun h1 => r_iflt (pc2 := 4) (t := 10) rfl h1 rfl (fun _ =>
      r_ic (x := -2) (pc2 := 12) rfl ic_m2 rfl (
      r_iret rfl rfl)) (fun _ =>
      r_iload (pc2 := 5) rfl rfl rfl (
      r_ic (x := 30) (pc2 := 7) rfl ic_30 rfl (
      r_cle (pc2 := 10) (t := 13) rfl h1 (rgk rfl) rfl (fun _ =>
      r_aload (pc2 := 14) rfl rfl rfl (
      r_getA (pc2 := 17) rfl rfl (sh_T hs rfl rfl) (sh_A hs rfl rfl) (
      r_getI (pc2 := 20) rfl rfl (sh_T hs rfl rfl) (
      r_istoreL (L3 := fun v2 => [some (.ref 0), some (gv a1), some (gv v2)]) (pc2 := 21) rfl rfl (fun _ => rfl) fun v2 => (
      r_aload (pc2 := 22) rfl rfl rfl (
      r_getA (pc2 := 25) rfl rfl (sh_T hs rfl rfl) (sh_A hs rfl rfl) (
      r_iload (pc2 := 26) rfl rfl rfl (
      r_putI (pc2 := 29) rfl rfl (sh_T hs rfl rfl) fun g3 => (
      r_iload (pc2 := 30) rfl rfl rfl (
      r_iret rfl rfl)))))))))) (fun _ =>
      r_ic (x := -2) (pc2 := 12) rfl ic_m2 rfl (
      r_iret rfl rfl))))))))
theorem rf_cw_isDigit {s : gm_S} {n m : Nat} (hs : gm_sh s n m) (d : Nat)  (g : gm_T) (a0 : Int)  : jr (pI s g) (cw_isDigit g a0) (jm_cl jm_CD km_n (d + 1) 164 [gv a0] (gm_h s g)) := by
  unfold cw_isDigit
  exact (r_ent (cd := cd_164) (n := 1) (L0 := [some (gv a0)]) rfl rfl rfl rfl (
      r_iload (pc2 := 1) rfl rfl rfl (
      jr_g fun h1 => r_iflt (pc2 := 4) (t := 14) rfl h1 rfl (fun _ =>
      r_ic (x := 0) (pc2 := 15) rfl ic_0 rfl (
      r_zret rfl (by decide) rfl)) (fun _ =>
      r_iload (pc2 := 5) rfl rfl rfl (
      r_ic (x := 9) (pc2 := 7) rfl ic_9 rfl (
      r_cgt (pc2 := 10) (t := 14) rfl h1 (rgk rfl) rfl (fun _ =>
      r_ic (x := 1) (pc2 := 11) rfl ic_1 rfl (
      r_goto (t := 15) rfl (
      r_zret rfl (by decide) rfl))) (fun _ =>
      r_ic (x := 0) (pc2 := 15) rfl ic_0 rfl (
      r_zret rfl (by decide) rfl))))))))
theorem rf_cw_likeness {s : gm_S} {n m : Nat} (hs : gm_sh s n m) (d : Nat)  (g : gm_T) (a1 : Int) (a2 : Int) (a3 : Int)  : jr (eI s) (cw_likeness g a1 a2 a3) (jm_cl jm_CD km_n (d + 2) 129 [.ref 0, gv a1, gv a2, gv a3] (gm_h s g)) := by
  unfold cw_likeness
  exact (r_ent (cd := cd_129) (n := 5) (L0 := [some (.ref 0), some (gv a1), some (gv a2), some (gv a3), none]) rfl rfl rfl rfl (
      r_iload (pc2 := 1) rfl rfl rfl (
      r_callSP (pc2 := 4) (args := [gv a1]) (st2 := []) rfl rfl rfl rfl rfl rfl (rf_cw_isDigit hs d g a1 ) fun v1 => (
      jr_g fun h2 => r_ifeq (pc2 := 7) (t := 14) rfl h2 rfl (fun _ =>
      r_ic (x := -1) (pc2 := 15) rfl ic_m1 rfl (
      r_iret rfl rfl)) (fun _ =>
      r_iload (pc2 := 8) rfl rfl rfl (
      r_callSP (pc2 := 11) (args := [gv a2]) (st2 := []) rfl rfl rfl rfl rfl rfl (rf_cw_isDigit hs d g a2 ) fun v3 => (
      jr_g fun h4 => r_ifne (pc2 := 14) (t := 16) rfl h4 rfl (fun _ =>
      r_ic (x := -1) (pc2 := 15) rfl ic_m1 rfl (
      r_iret rfl rfl)) (fun _ =>
      r_iload (pc2 := 17) rfl rfl rfl (
      r_callSP (pc2 := 20) (args := [gv a3]) (st2 := []) rfl rfl rfl rfl rfl rfl (rf_cw_isDigit hs d g a3 ) fun v5 => (
      jr_g fun h6 => r_ifne (pc2 := 23) (t := 26) rfl h6 rfl (fun _ =>
      r_ic (x := -2) (pc2 := 25) rfl ic_m2 rfl (
      r_iret rfl rfl)) (fun _ =>
      r_aload (pc2 := 27) rfl rfl rfl (
      r_getA (pc2 := 30) rfl rfl (sh_T hs rfl rfl) (sh_A hs rfl rfl) (
      r_getA (pc2 := 33) rfl rfl (sh_T hs rfl rfl) (sh_A hs rfl rfl) (
      r_ic (x := 10) (pc2 := 35) rfl ic_10 rfl (
      r_iload (pc2 := 36) rfl rfl rfl (
      r_imul (pc2 := 37) rfl rfl (
      r_iload (pc2 := 38) rfl rfl rfl (
      r_iadd (pc2 := 39) rfl rfl (
      jr_g fun h7 => r_iald (len := 100) (pc2 := 40) rfl rfl (sh_T hs rfl rfl) (sh_L hs rfl rfl) rfl h7 (
      r_istoreL (L3 := fun v8 => [some (.ref 0), some (gv a1), some (gv a2), some (gv a3), some (gv v8)]) (pc2 := 42) rfl rfl (fun _ => rfl) fun v8 => (
      r_aload (pc2 := 43) rfl rfl rfl (
      r_getA (pc2 := 46) rfl rfl (sh_T hs rfl rfl) (sh_A hs rfl rfl) (
      r_getA (pc2 := 49) rfl rfl (sh_T hs rfl rfl) (sh_A hs rfl rfl) (
      r_ic (x := 10) (pc2 := 51) rfl ic_10 rfl (
      r_iload (pc2 := 52) rfl rfl rfl (
      r_imul (pc2 := 53) rfl rfl (
      r_iload (pc2 := 54) rfl rfl rfl (
      r_iadd (pc2 := 55) rfl rfl (
      r_iload (pc2 := 56) rfl rfl rfl (
      r_iast (len := 100) (pc2 := 57) rfl rfl (sh_T hs rfl rfl) (sh_L hs rfl rfl) rfl h7 fun g9 => (
      r_aload (pc2 := 58) rfl rfl rfl (
      r_getA (pc2 := 61) rfl rfl (sh_T hs rfl rfl) (sh_A hs rfl rfl) (
      r_getA (pc2 := 64) rfl rfl (sh_T hs rfl rfl) (sh_A hs rfl rfl) (
      r_ic (x := 10) (pc2 := 66) rfl ic_10 rfl (
      r_iload (pc2 := 67) rfl rfl rfl (
      r_imul (pc2 := 68) rfl rfl (
      r_iload (pc2 := 69) rfl rfl rfl (
      r_iadd (pc2 := 70) rfl rfl (
      r_iload (pc2 := 71) rfl rfl rfl (
      jr_g fun h11 => r_iast (len := 100) (pc2 := 72) rfl rfl (sh_T hs rfl rfl) (sh_L hs rfl rfl) rfl h11 fun g10 => (
      r_iload (pc2 := 74) rfl rfl rfl (
      r_iret rfl rfl))))))))))))))))))))))))))))))))))))))))))
theorem rf_cw_refusePair {s : gm_S} {n m : Nat} (hs : gm_sh s n m) (d : Nat)  (g : gm_T) (a1 : Int) (a2 : Int) (a3 : Int) (a4 : Int)  : jr (pI s g) (cw_refusePair n g a1 a2 a3 a4) (jm_cl jm_CD km_n (d + 3) 163 [.ref 0, gv a1, gv a2, gv a3, gv a4] (gm_h s g)) := by
  unfold cw_refusePair
  exact (r_ent (cd := cd_163) (n := 5) (L0 := [some (.ref 0), some (gv a1), some (gv a2), some (gv a3), some (gv a4)]) rfl rfl rfl rfl (
      r_aload (pc2 := 1) rfl rfl rfl (
      r_iload (pc2 := 2) rfl rfl rfl (
      r_iload (pc2 := 3) rfl rfl rfl (
      r_callVP (pc2 := 6) (args := [.ref 0, gv a1, gv a2]) (st2 := []) rfl rfl rfl rfl rfl rfl (rc_of (sh_T hs rfl rfl)) (rf_cw_isEdge hs d g a1 a2 ) fun v1 => (
      jr_g fun h2 => r_ifeq (pc2 := 9) (t := 19) rfl h2 rfl (fun _ =>
      r_ic (x := -1) (pc2 := 20) rfl ic_m1 rfl (
      r_iret rfl rfl)) (fun _ =>
      r_aload (pc2 := 10) rfl rfl rfl (
      r_iload (pc2 := 11) rfl rfl rfl (
      r_iload (pc2 := 13) rfl rfl rfl (
      r_callVP (pc2 := 16) (args := [.ref 0, gv a3, gv a4]) (st2 := []) rfl rfl rfl rfl rfl rfl (rc_of (sh_T hs rfl rfl)) (rf_cw_isEdge hs d g a3 a4 ) fun v3 => (
      jr_g fun h4 => r_ifne (pc2 := 19) (t := 21) rfl h4 rfl (fun _ =>
      r_ic (x := -1) (pc2 := 20) rfl ic_m1 rfl (
      r_iret rfl rfl)) (fun _ =>
      r_iload (pc2 := 22) rfl rfl rfl (
      r_iload (pc2 := 23) rfl rfl rfl (
      jr_g fun h5 => r_cne (pc2 := 26) (t := 31) rfl h5.1 h5.2 rfl (fun _ =>
      r_ic (x := -2) (pc2 := 28) rfl ic_m2 rfl (
      r_goto (t := 32) rfl (
      r_iret rfl rfl))) (fun _ =>
      r_ic (x := 0) (pc2 := 32) rfl ic_0 rfl (
      r_iret rfl rfl))))))))))))))))
theorem rf_cw_score {s : gm_S} {n m : Nat} (hs : gm_sh s n m) (d : Nat)  (g : gm_T) (a1 : Int) (a2 : Int) (a3 : Int) (a4 : Int)  : jr (pI s g) (cw_score n g a1 a2 a3 a4) (jm_cl jm_CD km_n (d + 4) 130 [.ref 0, gv a1, gv a2, gv a3, gv a4] (gm_h s g)) := by
  unfold cw_score
  exact (r_ent (cd := cd_130) (n := 8) (L0 := [some (.ref 0), some (gv a1), some (gv a2), some (gv a3), some (gv a4), none, none, none]) rfl rfl rfl rfl (
      r_aload (pc2 := 1) rfl rfl rfl (
      r_iload (pc2 := 2) rfl rfl rfl (
      r_iload (pc2 := 3) rfl rfl rfl (
      r_iload (pc2 := 4) rfl rfl rfl (
      r_iload (pc2 := 6) rfl rfl rfl (
      r_callVP (pc2 := 9) (args := [.ref 0, gv a1, gv a2, gv a3, gv a4]) (st2 := []) rfl rfl rfl rfl rfl rfl (rc_of (sh_T hs rfl rfl)) (rf_cw_refusePair hs d g a1 a2 a3 a4 ) fun v1 => (
      r_istore (L2 := [some (.ref 0), some (gv a1), some (gv a2), some (gv a3), some (gv a4), some (gv v1), none, none]) (pc2 := 11) rfl rfl rfl (
      r_iload (pc2 := 13) rfl rfl rfl (
      jr_g fun h2 => r_ifeq (pc2 := 16) (t := 19) rfl h2 rfl (fun _ =>
      r_aload (pc2 := 20) rfl rfl rfl (
      r_getA (pc2 := 23) rfl rfl (sh_T hs rfl rfl) (sh_A hs rfl rfl) (
      r_iload (pc2 := 24) rfl rfl rfl (
      r_iload (pc2 := 25) rfl rfl rfl (
      r_iload (pc2 := 26) rfl rfl rfl (
      r_iload (pc2 := 28) rfl rfl rfl (
      r_callVL (pc2 := 31) (args := [.ref 10, gv a1, gv a2, gv a3, gv a4]) (st2 := []) rfl rfl rfl rfl rfl rfl (rc_of (sh_T hs rfl rfl)) (rf_cf_fitting hs d g a1 a2 a3 a4 ) fun v3 => (
      r_lstore (L2 := [some (.ref 0), some (gv a1), some (gv a2), some (gv a3), some (gv a4), some (gv v1), some (.long v3), none]) (pc2 := 33) rfl rfl rfl (
      r_lload (pc2 := 35) rfl rfl rfl (
      r_lc (pc2 := 36) rfl rfl (
      r_lcmp (pc2 := 37) rfl rfl (
      r_ifge (pc2 := 40) (t := 45) rfl (rg_toInt _) rfl (fun _ =>
      r_ic (x := -3) (pc2 := 42) rfl ic_m3 rfl (
      r_goto (t := 62) rfl (
      r_iret rfl rfl))) (fun _ =>
      r_aload (pc2 := 46) rfl rfl rfl (
      r_getA (pc2 := 49) rfl rfl (sh_T hs rfl rfl) (sh_A hs rfl rfl) (
      r_iload (pc2 := 50) rfl rfl rfl (
      r_iload (pc2 := 51) rfl rfl rfl (
      r_iload (pc2 := 52) rfl rfl rfl (
      r_iload (pc2 := 54) rfl rfl rfl (
      r_lload (pc2 := 56) rfl rfl rfl (
      r_callSP (pc2 := 59) (args := [.long v3]) (st2 := [gv a4, gv a3, gv a2, gv a1, .ref 10]) rfl rfl rfl rfl rfl rfl (rf_cc_turn hs (d + 2) g v3 ) fun v4 => (
      r_callVP (pc2 := 62) (args := [.ref 10, gv a1, gv a2, gv a3, gv a4, gv v4]) (st2 := []) rfl rfl rfl rfl rfl rfl (rc_of (sh_T hs rfl rfl)) (rf_cf_scoreOf hs (d + 2) g a1 a2 a3 a4 v4 ) fun v5 => (
      r_iret rfl rfl)))))))))))))))))))))) (fun _ =>
      r_iload (pc2 := 18) rfl rfl rfl (
      r_iret rfl rfl))))))))))))
theorem rf_cw_partOf {s : gm_S} {n m : Nat} (hs : gm_sh s n m) (d : Nat)  (g : gm_T) (a0 : Int64) (a2 : Int)  : jr (pI s g) (cw_partOf g a0 a2) (jm_cl jm_CD km_n (d + 2) 169 [.long a0, gv a2] (gm_h s g)) := by
  unfold cw_partOf
  exact (r_ent (cd := cd_169) (n := 3) (L0 := [some (.long a0), none, some (gv a2)]) rfl rfl rfl rfl (
      r_iload (pc2 := 1) rfl rfl rfl (
      jr_g fun h1 => (jr_ite (fun h2 => r_sw (pc2 := 28) rfl (sw_yes ic_0 h2) (
      r_lload (pc2 := 29) rfl rfl rfl (
      r_callSP (pc2 := 32) (args := [.long a0]) (st2 := []) rfl rfl rfl rfl rfl rfl (rf_cc_turn hs d g a0 ) fun v7 => (
      r_iret rfl rfl)))) (fun h2 =>
      jr_ite (fun h3 => r_sw (pc2 := 33) rfl (sw_no ic_0 h1 (rgk rfl) h2 (sw_yes ic_1 h3)) (
      r_lload (pc2 := 34) rfl rfl rfl (
      r_callSP (pc2 := 37) (args := [.long a0]) (st2 := []) rfl rfl rfl rfl rfl rfl (rf_cc_x hs d g a0 ) fun v6 => (
      r_iret rfl rfl)))) (fun h3 =>
      jr_ite (fun h4 => r_sw (pc2 := 38) rfl (sw_no ic_0 h1 (rgk rfl) h2 (sw_no ic_1 h1 (rgk rfl) h3 (sw_yes ic_2 h4))) (
      r_lload (pc2 := 39) rfl rfl rfl (
      r_callSP (pc2 := 42) (args := [.long a0]) (st2 := []) rfl rfl rfl rfl rfl rfl (rf_cc_y hs d g a0 ) fun v5 => (
      r_iret rfl rfl)))) (fun h4 =>
      r_sw (pc2 := 43) rfl (sw_no ic_0 h1 (rgk rfl) h2 (sw_no ic_1 h1 (rgk rfl) h3 (sw_no ic_2 h1 (rgk rfl) h4 rfl))) (
      r_ic (x := -100000) (pc2 := 45) rfl ic_m100000 rfl (
      r_iret rfl rfl)))))))))
theorem rf_cw_turned {s : gm_S} {n m : Nat} (hs : gm_sh s n m) (d : Nat)  (g : gm_T) (a1 : Int) (a2 : Int) (a3 : Int) (a4 : Int) (a5 : Int)  : jr (pI s g) (cw_turned n g a1 a2 a3 a4 a5) (jm_cl jm_CD km_n (d + 4) 131 [.ref 0, gv a1, gv a2, gv a3, gv a4, gv a5] (gm_h s g)) := by
  unfold cw_turned
  exact (r_ent (cd := cd_131) (n := 8) (L0 := [some (.ref 0), some (gv a1), some (gv a2), some (gv a3), some (gv a4), some (gv a5), none, none]) rfl rfl rfl rfl (
      r_aload (pc2 := 1) rfl rfl rfl (
      r_iload (pc2 := 2) rfl rfl rfl (
      r_iload (pc2 := 3) rfl rfl rfl (
      r_iload (pc2 := 4) rfl rfl rfl (
      r_iload (pc2 := 6) rfl rfl rfl (
      r_callVP (pc2 := 9) (args := [.ref 0, gv a1, gv a2, gv a3, gv a4]) (st2 := []) rfl rfl rfl rfl rfl rfl (rc_of (sh_T hs rfl rfl)) (rf_cw_refusePair hs d g a1 a2 a3 a4 ) fun v1 => (
      jr_g fun h2 => r_ifeq (pc2 := 12) (t := 15) rfl h2 rfl (fun _ =>
      r_aload (pc2 := 16) rfl rfl rfl (
      r_getA (pc2 := 19) rfl rfl (sh_T hs rfl rfl) (sh_A hs rfl rfl) (
      r_iload (pc2 := 20) rfl rfl rfl (
      r_iload (pc2 := 21) rfl rfl rfl (
      r_iload (pc2 := 22) rfl rfl rfl (
      r_iload (pc2 := 24) rfl rfl rfl (
      r_callVL (pc2 := 27) (args := [.ref 10, gv a1, gv a2, gv a3, gv a4]) (st2 := []) rfl rfl rfl rfl rfl rfl (rc_of (sh_T hs rfl rfl)) (rf_cf_fitting hs d g a1 a2 a3 a4 ) fun v3 => (
      r_lstore (L2 := [some (.ref 0), some (gv a1), some (gv a2), some (gv a3), some (gv a4), some (gv a5), some (.long v3), none]) (pc2 := 29) rfl rfl rfl (
      r_lload (pc2 := 31) rfl rfl rfl (
      r_lc (pc2 := 32) rfl rfl (
      r_lcmp (pc2 := 33) rfl rfl (
      r_ifge (pc2 := 36) (t := 41) rfl (rg_toInt _) rfl (fun _ =>
      r_ic (x := -100000) (pc2 := 38) rfl ic_m100000 rfl (
      r_goto (t := 48) rfl (
      r_iret rfl rfl))) (fun _ =>
      r_lload (pc2 := 43) rfl rfl rfl (
      r_iload (pc2 := 45) rfl rfl rfl (
      r_callSP (pc2 := 48) (args := [.long v3, gv a5]) (st2 := []) rfl rfl rfl rfl rfl rfl (rf_cw_partOf hs (d + 1) g v3 a5 ) fun v4 => (
      r_iret rfl rfl)))))))))))))))) (fun _ =>
      r_ic (x := -100000) (pc2 := 14) rfl ic_m100000 rfl (
      r_iret rfl rfl))))))))))
theorem rf_cw_fits {s : gm_S} {n m : Nat} (hs : gm_sh s n m) (d : Nat)  (g : gm_T) (a1 : Int) (a2 : Int)  : jr (eI s) (cw_fits n g a1 a2) (jm_cl jm_CD km_n (d + 5) 132 [.ref 0, gv a1, gv a2] (gm_h s g)) := by
  unfold cw_fits
  exact (r_ent (cd := cd_132) (n := 3) (L0 := [some (.ref 0), some (gv a1), some (gv a2)]) rfl rfl rfl rfl (
      r_aload (pc2 := 1) rfl rfl rfl (
      r_iload (pc2 := 2) rfl rfl rfl (
      r_iload (pc2 := 3) rfl rfl rfl (
      r_callVP (pc2 := 6) (args := [.ref 0, gv a1, gv a2]) (st2 := []) rfl rfl rfl rfl rfl rfl (rc_of (sh_T hs rfl rfl)) (rf_cw_isEdge hs (d + 2) g a1 a2 ) fun v1 => (
      jr_g fun h2 => r_ifeq (pc2 := 9) (t := 21) rfl h2 rfl (fun _ =>
      r_ic (x := -1) (pc2 := 22) rfl ic_m1 rfl (
      r_iret rfl rfl)) (fun _ =>
      r_aload (pc2 := 10) rfl rfl rfl (
      r_getA (pc2 := 13) rfl rfl (sh_T hs rfl rfl) (sh_A hs rfl rfl) (
      r_iload (pc2 := 14) rfl rfl rfl (
      r_iload (pc2 := 15) rfl rfl rfl (
      r_callVI (pc2 := 18) (args := [.ref 10, gv a1, gv a2]) (st2 := []) rfl rfl rfl rfl rfl rfl (rc_of (sh_T hs rfl rfl)) (rf_cf_collect hs d g a1 a2 ) fun v3 g4 => (
      r_goto (t := 22) rfl (
      r_iret rfl rfl)))))))))))))
theorem rf_cw_fit {s : gm_S} {n m : Nat} (hs : gm_sh s n m) (d : Nat)  (g : gm_T) (a1 : Int) (a2 : Int) (a3 : Int)  : jr (eI s) (cw_fit n g a1 a2 a3) (jm_cl jm_CD km_n (d + 5) 133 [.ref 0, gv a1, gv a2, gv a3] (gm_h s g)) := by
  unfold cw_fit
  exact (r_ent (cd := cd_133) (n := 4) (L0 := [some (.ref 0), some (gv a1), some (gv a2), some (gv a3)]) rfl rfl rfl rfl (
      r_aload (pc2 := 1) rfl rfl rfl (
      r_iload (pc2 := 2) rfl rfl rfl (
      r_iload (pc2 := 3) rfl rfl rfl (
      r_callVP (pc2 := 6) (args := [.ref 0, gv a1, gv a2]) (st2 := []) rfl rfl rfl rfl rfl rfl (rc_of (sh_T hs rfl rfl)) (rf_cw_isEdge hs (d + 2) g a1 a2 ) fun v1 => (
      jr_g fun h2 => r_ifeq (pc2 := 9) (t := 26) rfl h2 rfl (fun _ =>
      r_ic (x := -1) (pc2 := 27) rfl ic_m1 rfl (
      r_iret rfl rfl)) (fun _ =>
      r_iload (pc2 := 10) rfl rfl rfl (
      jr_g fun h3 => r_iflt (pc2 := 13) (t := 26) rfl h3 rfl (fun _ =>
      r_ic (x := -1) (pc2 := 27) rfl ic_m1 rfl (
      r_iret rfl rfl)) (fun _ =>
      r_iload (pc2 := 14) rfl rfl rfl (
      r_aload (pc2 := 15) rfl rfl rfl (
      r_getA (pc2 := 18) rfl rfl (sh_T hs rfl rfl) (sh_A hs rfl rfl) (
      r_iload (pc2 := 19) rfl rfl rfl (
      r_iload (pc2 := 20) rfl rfl rfl (
      r_callVI (pc2 := 23) (args := [.ref 10, gv a1, gv a2]) (st2 := [gv a3]) rfl rfl rfl rfl rfl rfl (rc_of (sh_T hs rfl rfl)) (rf_cf_collect hs d g a1 a2 ) fun v4 g5 => (
      jr_g fun h6 => r_clt (pc2 := 26) (t := 28) rfl h3 h6 rfl (fun _ =>
      r_aload (pc2 := 29) rfl rfl rfl (
      r_getA (pc2 := 32) rfl rfl (sh_T hs rfl rfl) (sh_A hs rfl rfl) (
      r_getA (pc2 := 35) rfl rfl (sh_T hs rfl rfl) (sh_A hs rfl rfl) (
      r_iload (pc2 := 36) rfl rfl rfl (
      jr_g fun h7 => r_iald (len := 240) (pc2 := 37) rfl rfl (sh_T hs rfl rfl) (sh_L hs rfl rfl) rfl h7 (
      r_ic (x := 1000) (pc2 := 40) rfl ic_1000 rfl (
      jr_g fun hd => r_irem (pc2 := 41) rfl rfl hd ⟨by decide, by decide⟩ (
      r_iret rfl rfl)))))))) (fun _ =>
      r_ic (x := -1) (pc2 := 27) rfl ic_m1 rfl (
      r_iret rfl rfl)))))))))))))))))
theorem rf_cw_rival {s : gm_S} {n m : Nat} (hs : gm_sh s n m) (d : Nat)  (g : gm_T) (a1 : Int) (a2 : Int) (a3 : Int) (a4 : Int)  : jr (pI s g) (cw_rival n g a1 a2 a3 a4) (jm_cl jm_CD km_n (d + 5) 134 [.ref 0, gv a1, gv a2, gv a3, gv a4] (gm_h s g)) := by
  unfold cw_rival
  exact (r_ent (cd := cd_134) (n := 8) (L0 := [some (.ref 0), some (gv a1), some (gv a2), some (gv a3), some (gv a4), none, none, none]) rfl rfl rfl rfl (
      r_aload (pc2 := 1) rfl rfl rfl (
      r_iload (pc2 := 2) rfl rfl rfl (
      r_iload (pc2 := 3) rfl rfl rfl (
      r_iload (pc2 := 4) rfl rfl rfl (
      r_iload (pc2 := 6) rfl rfl rfl (
      r_callVP (pc2 := 9) (args := [.ref 0, gv a1, gv a2, gv a3, gv a4]) (st2 := []) rfl rfl rfl rfl rfl rfl (rc_of (sh_T hs rfl rfl)) (rf_cw_refusePair hs (d + 1) g a1 a2 a3 a4 ) fun v1 => (
      r_istore (L2 := [some (.ref 0), some (gv a1), some (gv a2), some (gv a3), some (gv a4), some (gv v1), none, none]) (pc2 := 11) rfl rfl rfl (
      r_iload (pc2 := 13) rfl rfl rfl (
      jr_g fun h2 => r_ifeq (pc2 := 16) (t := 19) rfl h2 rfl (fun _ =>
      r_aload (pc2 := 20) rfl rfl rfl (
      r_getA (pc2 := 23) rfl rfl (sh_T hs rfl rfl) (sh_A hs rfl rfl) (
      r_iload (pc2 := 24) rfl rfl rfl (
      r_iload (pc2 := 25) rfl rfl rfl (
      r_iload (pc2 := 26) rfl rfl rfl (
      r_iload (pc2 := 28) rfl rfl rfl (
      r_callVL (pc2 := 31) (args := [.ref 10, gv a1, gv a2, gv a3, gv a4]) (st2 := []) rfl rfl rfl rfl rfl rfl (rc_of (sh_T hs rfl rfl)) (rf_cf_fitting hs (d + 1) g a1 a2 a3 a4 ) fun v3 => (
      r_lc (pc2 := 32) rfl rfl (
      r_lcmp (pc2 := 33) rfl rfl (
      r_ifge (pc2 := 36) (t := 39) rfl (rg_toInt _) rfl (fun _ =>
      r_ic (x := -3) (pc2 := 38) rfl ic_m3 rfl (
      r_iret rfl rfl)) (fun _ =>
      r_aload (pc2 := 40) rfl rfl rfl (
      r_getA (pc2 := 43) rfl rfl (sh_T hs rfl rfl) (sh_A hs rfl rfl) (
      r_iload (pc2 := 44) rfl rfl rfl (
      r_iload (pc2 := 45) rfl rfl rfl (
      r_iload (pc2 := 46) rfl rfl rfl (
      r_iload (pc2 := 48) rfl rfl rfl (
      r_callVP (pc2 := 51) (args := [.ref 10, gv a1, gv a2, gv a3, gv a4]) (st2 := []) rfl rfl rfl rfl rfl rfl (rc_of (sh_T hs rfl rfl)) (rf_cf_rivalOf hs d g a1 a2 a3 a4 ) fun v4 => (
      r_istore (L2 := [some (.ref 0), some (gv a1), some (gv a2), some (gv a3), some (gv a4), some (gv v1), some (gv v4), none]) (pc2 := 53) rfl rfl rfl (
      r_iload (pc2 := 55) rfl rfl rfl (
      jr_g fun h5 => r_iflt (pc2 := 58) (t := 67) rfl h5 rfl (fun _ =>
      r_aload (pc2 := 68) rfl rfl rfl (
      r_getA (pc2 := 71) rfl rfl (sh_T hs rfl rfl) (sh_A hs rfl rfl) (
      r_iload (pc2 := 72) rfl rfl rfl (
      r_iload (pc2 := 74) rfl rfl rfl (
      r_iload (pc2 := 75) rfl rfl rfl (
      r_iload (pc2 := 76) rfl rfl rfl (
      r_callVP (pc2 := 79) (args := [.ref 10, gv a3, gv a4, gv a1, gv a2]) (st2 := []) rfl rfl rfl rfl rfl rfl (rc_of (sh_T hs rfl rfl)) (rf_cf_rivalOf hs d g a3 a4 a1 a2 ) fun v6 => (
      r_istore (L2 := [some (.ref 0), some (gv a1), some (gv a2), some (gv a3), some (gv a4), some (gv v1), some (gv v4), some (gv v6)]) (pc2 := 81) rfl rfl rfl (
      r_iload (pc2 := 83) rfl rfl rfl (
      jr_g fun h7 => r_iflt (pc2 := 86) (t := 97) rfl h7 rfl (fun _ =>
      r_ic (x := -5) (pc2 := 99) rfl ic_m5 rfl (
      r_iret rfl rfl)) (fun _ =>
      r_ic (x := 1000) (pc2 := 89) rfl ic_1000 rfl (
      r_iload (pc2 := 90) rfl rfl rfl (
      r_imul (pc2 := 91) rfl rfl (
      r_iload (pc2 := 93) rfl rfl rfl (
      r_iadd (pc2 := 94) rfl rfl (
      r_goto (t := 99) rfl (
      r_iret rfl rfl))))))))))))))))) (fun _ =>
      r_ic (x := 1000) (pc2 := 61) rfl ic_1000 rfl (
      r_iload (pc2 := 62) rfl rfl rfl (
      r_imul (pc2 := 63) rfl rfl (
      r_iload (pc2 := 65) rfl rfl rfl (
      r_iadd (pc2 := 66) rfl rfl (
      r_iret rfl rfl)))))))))))))))))))))))))) (fun _ =>
      r_iload (pc2 := 18) rfl rfl rfl (
      r_iret rfl rfl))))))))))))
theorem rf_cw_join {s : gm_S} {n m : Nat} (hs : gm_sh s n m) (d : Nat)  (g : gm_T) (a1 : Int) (a2 : Int) (a3 : Int) (a4 : Int)  : jr (eI s) (cw_join n g a1 a2 a3 a4) (jm_cl jm_CD km_n (d + 7) 135 [.ref 0, gv a1, gv a2, gv a3, gv a4] (gm_h s g)) := by
  unfold cw_join
  exact (r_ent (cd := cd_135) (n := 9) (L0 := [some (.ref 0), some (gv a1), some (gv a2), some (gv a3), some (gv a4), none, none, none, none]) rfl rfl rfl rfl (
      r_aload (pc2 := 1) rfl rfl rfl (
      r_iload (pc2 := 2) rfl rfl rfl (
      r_iload (pc2 := 3) rfl rfl rfl (
      r_iload (pc2 := 4) rfl rfl rfl (
      r_iload (pc2 := 6) rfl rfl rfl (
      r_callVP (pc2 := 9) (args := [.ref 0, gv a1, gv a2, gv a3, gv a4]) (st2 := []) rfl rfl rfl rfl rfl rfl (rc_of (sh_T hs rfl rfl)) (rf_cw_refusePair hs (d + 3) g a1 a2 a3 a4 ) fun v1 => (
      r_istore (L2 := [some (.ref 0), some (gv a1), some (gv a2), some (gv a3), some (gv a4), some (gv v1), none, none, none]) (pc2 := 11) rfl rfl rfl (
      r_iload (pc2 := 13) rfl rfl rfl (
      jr_g fun h2 => r_ifeq (pc2 := 16) (t := 19) rfl h2 rfl (fun _ =>
      r_aload (pc2 := 20) rfl rfl rfl (
      r_getA (pc2 := 23) rfl rfl (sh_T hs rfl rfl) (sh_A hs rfl rfl) (
      r_iload (pc2 := 24) rfl rfl rfl (
      r_iload (pc2 := 25) rfl rfl rfl (
      r_iload (pc2 := 26) rfl rfl rfl (
      r_iload (pc2 := 28) rfl rfl rfl (
      r_callVL (pc2 := 31) (args := [.ref 10, gv a1, gv a2, gv a3, gv a4]) (st2 := []) rfl rfl rfl rfl rfl rfl (rc_of (sh_T hs rfl rfl)) (rf_cf_fitting hs (d + 3) g a1 a2 a3 a4 ) fun v3 => (
      r_lstore (L2 := [some (.ref 0), some (gv a1), some (gv a2), some (gv a3), some (gv a4), some (gv v1), some (.long v3), none, none]) (pc2 := 33) rfl rfl rfl (
      r_lload (pc2 := 35) rfl rfl rfl (
      r_lc (pc2 := 36) rfl rfl (
      r_lcmp (pc2 := 37) rfl rfl (
      r_iflt (pc2 := 40) (t := 65) rfl (rg_toInt _) rfl (fun _ =>
      r_ic (x := -3) (pc2 := 67) rfl ic_m3 rfl (
      r_iret rfl rfl)) (fun _ =>
      r_aload (pc2 := 41) rfl rfl rfl (
      r_getA (pc2 := 44) rfl rfl (sh_T hs rfl rfl) (sh_A hs rfl rfl) (
      r_iload (pc2 := 45) rfl rfl rfl (
      r_iload (pc2 := 46) rfl rfl rfl (
      r_callVP (pc2 := 49) (args := [.ref 14, gv a1, gv a2]) (st2 := []) rfl rfl rfl rfl rfl rfl (rc_of (sh_T hs rfl rfl)) (rf_cj_isTaken hs (d + 4) g a1 a2 ) fun v4 => (
      jr_g fun h5 => r_ifne (pc2 := 52) (t := 65) rfl h5 rfl (fun _ =>
      r_aload (pc2 := 53) rfl rfl rfl (
      r_getA (pc2 := 56) rfl rfl (sh_T hs rfl rfl) (sh_A hs rfl rfl) (
      r_iload (pc2 := 57) rfl rfl rfl (
      r_iload (pc2 := 59) rfl rfl rfl (
      r_callVP (pc2 := 62) (args := [.ref 14, gv a3, gv a4]) (st2 := []) rfl rfl rfl rfl rfl rfl (rc_of (sh_T hs rfl rfl)) (rf_cj_isTaken hs (d + 4) g a3 a4 ) fun v6 => (
      jr_g fun h7 => r_ifeq (pc2 := 65) (t := 68) rfl h7 rfl (fun _ =>
      r_aload (pc2 := 69) rfl rfl rfl (
      r_getA (pc2 := 72) rfl rfl (sh_T hs rfl rfl) (sh_A hs rfl rfl) (
      r_getI (pc2 := 75) rfl rfl (sh_T hs rfl rfl) (
      r_ic (x := 60) (pc2 := 77) rfl ic_60 rfl (
      jr_g fun h8 => r_cne (pc2 := 80) (t := 83) rfl h8 (rgk rfl) rfl (fun _ =>
      r_ic (x := -4) (pc2 := 82) rfl ic_m4 rfl (
      r_iret rfl rfl)) (fun _ =>
      r_aload (pc2 := 84) rfl rfl rfl (
      r_getA (pc2 := 87) rfl rfl (sh_T hs rfl rfl) (sh_A hs rfl rfl) (
      r_iload (pc2 := 88) rfl rfl rfl (
      r_iload (pc2 := 89) rfl rfl rfl (
      r_lload (pc2 := 91) rfl rfl rfl (
      r_callVI (pc2 := 94) (args := [.ref 22, gv a1, gv a3, .long v3]) (st2 := []) rfl rfl rfl rfl rfl rfl (rc_of (sh_T hs rfl rfl)) (rf_cv_attach hs d g a1 a3 v3 ) fun v9 g10 => (
      r_istore (L2 := [some (.ref 0), some (gv a1), some (gv a2), some (gv a3), some (gv a4), some (gv v1), some (.long v3), none, some (gv v9)]) (pc2 := 96) rfl rfl rfl (
      r_iload (pc2 := 98) rfl rfl rfl (
      jr_g fun h11 => r_ifeq (pc2 := 101) (t := 109) rfl h11 rfl (fun _ =>
      r_aload (pc2 := 110) rfl rfl rfl (
      r_getA (pc2 := 113) rfl rfl (sh_T hs rfl rfl) (sh_A hs rfl rfl) (
      r_iload (pc2 := 114) rfl rfl rfl (
      r_iload (pc2 := 115) rfl rfl rfl (
      r_iload (pc2 := 116) rfl rfl rfl (
      r_iload (pc2 := 118) rfl rfl rfl (
      r_callVI (pc2 := 121) (args := [.ref 14, gv a1, gv a2, gv a3, gv a4]) (st2 := []) rfl rfl rfl rfl rfl rfl (rc_of (sh_T hs rfl rfl)) (rf_cj_add hs (d + 2) g10 a1 a2 a3 a4 ) fun v12 g13 => (
      r_iret rfl rfl)))))))) (fun _ =>
      r_ic (x := -10) (pc2 := 103) rfl ic_m10 rfl (
      r_iload (pc2 := 105) rfl rfl rfl (
      r_isub (pc2 := 106) rfl rfl (
      r_goto (t := 121) rfl (
      r_iret rfl rfl))))))))))))))))))) (fun _ =>
      r_ic (x := -3) (pc2 := 67) rfl ic_m3 rfl (
      r_iret rfl rfl)))))))) (fun _ =>
      r_ic (x := -3) (pc2 := 67) rfl ic_m3 rfl (
      r_iret rfl rfl)))))))))))))))))))) (fun _ =>
      r_iload (pc2 := 18) rfl rfl rfl (
      r_iret rfl rfl))))))))))))
theorem rf_cw_undo {s : gm_S} {n m : Nat} (hs : gm_sh s n m) (d : Nat)  (g : gm_T) (a1 : Int)  : jr (eI s) (cw_undo g a1) (jm_cl jm_CD km_n (d + 5) 136 [.ref 0, gv a1] (gm_h s g)) := by
  unfold cw_undo
  exact (r_ent (cd := cd_136) (n := 2) (L0 := [some (.ref 0), some (gv a1)]) rfl rfl rfl rfl (
      r_aload (pc2 := 1) rfl rfl rfl (
      r_getA (pc2 := 4) rfl rfl (sh_T hs rfl rfl) (sh_A hs rfl rfl) (
      r_iload (pc2 := 5) rfl rfl rfl (
      r_callVP (pc2 := 8) (args := [.ref 14, gv a1]) (st2 := []) rfl rfl rfl rfl rfl rfl (rc_of (sh_T hs rfl rfl)) (rf_cj_isThere hs (d + 2) g a1 ) fun v1 => (
      jr_g fun h2 => r_ifne (pc2 := 11) (t := 13) rfl h2 rfl (fun _ =>
      r_ic (x := -1) (pc2 := 12) rfl ic_m1 rfl (
      r_iret rfl rfl)) (fun _ =>
      r_aload (pc2 := 14) rfl rfl rfl (
      r_getA (pc2 := 17) rfl rfl (sh_T hs rfl rfl) (sh_A hs rfl rfl) (
      r_iload (pc2 := 18) rfl rfl rfl (
      r_callVV (pc2 := 21) (args := [.ref 14, gv a1]) (st2 := []) rfl rfl rfl rfl rfl rfl (rc_of (sh_T hs rfl rfl)) (rf_cj_remove hs d g a1 ) fun g3 => (
      r_aload (pc2 := 22) rfl rfl rfl (
      r_getA (pc2 := 25) rfl rfl (sh_T hs rfl rfl) (sh_A hs rfl rfl) (
      r_getA (pc2 := 28) rfl rfl (sh_T hs rfl rfl) (sh_A hs rfl rfl) (
      r_aload (pc2 := 29) rfl rfl rfl (
      r_getA (pc2 := 32) rfl rfl (sh_T hs rfl rfl) (sh_A hs rfl rfl) (
      r_getA (pc2 := 35) rfl rfl (sh_T hs rfl rfl) (sh_A hs rfl rfl) (
      r_iload (pc2 := 36) rfl rfl rfl (
      jr_g fun h4 => r_iald (len := 60) (pc2 := 37) rfl rfl (sh_T hs rfl rfl) (sh_L hs rfl rfl) rfl h4 (
      jr_g fun h5 => r_iald (len := 30) (pc2 := 38) rfl rfl (sh_T hs rfl rfl) (sh_L hs rfl rfl) rfl h5 (
      r_aload (pc2 := 39) rfl rfl rfl (
      r_getA (pc2 := 42) rfl rfl (sh_T hs rfl rfl) (sh_A hs rfl rfl) (
      r_getA (pc2 := 45) rfl rfl (sh_T hs rfl rfl) (sh_A hs rfl rfl) (
      r_aload (pc2 := 46) rfl rfl rfl (
      r_getA (pc2 := 49) rfl rfl (sh_T hs rfl rfl) (sh_A hs rfl rfl) (
      r_getA (pc2 := 52) rfl rfl (sh_T hs rfl rfl) (sh_A hs rfl rfl) (
      r_iload (pc2 := 53) rfl rfl rfl (
      r_iald (len := 60) (pc2 := 54) rfl rfl (sh_T hs rfl rfl) (sh_L hs rfl rfl) rfl h4 (
      jr_g fun h6 => r_iald (len := 30) (pc2 := 55) rfl rfl (sh_T hs rfl rfl) (sh_L hs rfl rfl) rfl h6 (
      r_ior (pc2 := 56) rfl rfl (
      r_callSP (pc2 := 59) (args := [gv (zO (gm_I g3 19 ((gm_I g3 15 a1.toNat)).toNat) (gm_I g3 19 ((gm_I g3 17 a1.toNat)).toNat))]) (st2 := []) rfl rfl rfl rfl rfl rfl (rf_jd_bitCount hs (d + 3) g3 (zO (gm_I g3 19 ((gm_I g3 15 a1.toNat)).toNat) (gm_I g3 19 ((gm_I g3 17 a1.toNat)).toNat)) ) fun v7 => (
      r_iret rfl rfl)))))))))))))))))))))))))))))))
theorem rf_cw_isBest {s : gm_S} {n m : Nat} (hs : gm_sh s n m) (d : Nat)  (g : gm_T) (a1 : Int)  : jr (pI s g) (cw_isBest n g a1) (jm_cl jm_CD km_n (d + 6) 162 [.ref 0, gv a1] (gm_h s g)) := by
  unfold cw_isBest
  exact (r_ent (cd := cd_162) (n := 2) (L0 := [some (.ref 0), some (gv a1)]) rfl rfl rfl rfl (
      r_aload (pc2 := 1) rfl rfl rfl (
      r_getA (pc2 := 4) rfl rfl (sh_T hs rfl rfl) (sh_A hs rfl rfl) (
      r_aload (pc2 := 5) rfl rfl rfl (
      r_getA (pc2 := 8) rfl rfl (sh_T hs rfl rfl) (sh_A hs rfl rfl) (
      r_getA (pc2 := 11) rfl rfl (sh_T hs rfl rfl) (sh_A hs rfl rfl) (
      r_iload (pc2 := 12) rfl rfl rfl (
      jr_g fun h1 => r_iald (len := 60) (pc2 := 13) rfl rfl (sh_T hs rfl rfl) (sh_L hs rfl rfl) rfl h1 (
      r_aload (pc2 := 14) rfl rfl rfl (
      r_getA (pc2 := 17) rfl rfl (sh_T hs rfl rfl) (sh_A hs rfl rfl) (
      r_getA (pc2 := 20) rfl rfl (sh_T hs rfl rfl) (sh_A hs rfl rfl) (
      r_iload (pc2 := 21) rfl rfl rfl (
      r_iald (len := 60) (pc2 := 22) rfl rfl (sh_T hs rfl rfl) (sh_L hs rfl rfl) rfl h1 (
      r_aload (pc2 := 23) rfl rfl rfl (
      r_getA (pc2 := 26) rfl rfl (sh_T hs rfl rfl) (sh_A hs rfl rfl) (
      r_getA (pc2 := 29) rfl rfl (sh_T hs rfl rfl) (sh_A hs rfl rfl) (
      r_iload (pc2 := 30) rfl rfl rfl (
      r_iald (len := 60) (pc2 := 31) rfl rfl (sh_T hs rfl rfl) (sh_L hs rfl rfl) rfl h1 (
      r_aload (pc2 := 32) rfl rfl rfl (
      r_getA (pc2 := 35) rfl rfl (sh_T hs rfl rfl) (sh_A hs rfl rfl) (
      r_getA (pc2 := 38) rfl rfl (sh_T hs rfl rfl) (sh_A hs rfl rfl) (
      r_iload (pc2 := 39) rfl rfl rfl (
      r_iald (len := 60) (pc2 := 40) rfl rfl (sh_T hs rfl rfl) (sh_L hs rfl rfl) rfl h1 (
      r_callVP (pc2 := 43) (args := [.ref 10, gv (gm_I g 15 a1.toNat), gv (gm_I g 16 a1.toNat), gv (gm_I g 17 a1.toNat), gv (gm_I g 18 a1.toNat)]) (st2 := []) rfl rfl rfl rfl rfl rfl (rc_of (sh_T hs rfl rfl)) (rf_cf_isBestBothWays hs d g (gm_I g 15 a1.toNat) (gm_I g 16 a1.toNat) (gm_I g 17 a1.toNat) (gm_I g 18 a1.toNat) ) fun v2 => (
      jr_g fun hz => r_zret rfl hz rfl)))))))))))))))))))))))))
theorem rf_cw_joined {s : gm_S} {n m : Nat} (hs : gm_sh s n m) (d : Nat)  (g : gm_T) (a1 : Int) (a2 : Int)  : jr (pI s g) (cw_joined n g a1 a2) (jm_cl jm_CD km_n (d + 7) 137 [.ref 0, gv a1, gv a2] (gm_h s g)) := by
  unfold cw_joined
  exact (r_ent (cd := cd_137) (n := 3) (L0 := [some (.ref 0), some (gv a1), some (gv a2)]) rfl rfl rfl rfl (
      r_aload (pc2 := 1) rfl rfl rfl (
      r_getA (pc2 := 4) rfl rfl (sh_T hs rfl rfl) (sh_A hs rfl rfl) (
      r_iload (pc2 := 5) rfl rfl rfl (
      r_callVP (pc2 := 8) (args := [.ref 14, gv a1]) (st2 := []) rfl rfl rfl rfl rfl rfl (rc_of (sh_T hs rfl rfl)) (rf_cj_isThere hs (d + 4) g a1 ) fun v1 => (
      jr_g fun h2 => r_ifne (pc2 := 11) (t := 13) rfl h2 rfl (fun _ =>
      r_ic (x := -1) (pc2 := 12) rfl ic_m1 rfl (
      r_iret rfl rfl)) (fun _ =>
      r_iload (pc2 := 14) rfl rfl rfl (
      jr_g fun h3 => (jr_ite (fun h4 => r_sw (pc2 := 48) rfl (sw_yes ic_0 h4) (
      r_aload (pc2 := 49) rfl rfl rfl (
      r_getA (pc2 := 52) rfl rfl (sh_T hs rfl rfl) (sh_A hs rfl rfl) (
      r_getA (pc2 := 55) rfl rfl (sh_T hs rfl rfl) (sh_A hs rfl rfl) (
      r_iload (pc2 := 56) rfl rfl rfl (
      jr_g fun h14 => r_iald (len := 60) (pc2 := 57) rfl rfl (sh_T hs rfl rfl) (sh_L hs rfl rfl) rfl h14 (
      r_iret rfl rfl))))))) (fun h4 =>
      jr_ite (fun h5 => r_sw (pc2 := 58) rfl (sw_no ic_0 h3 (rgk rfl) h4 (sw_yes ic_1 h5)) (
      r_aload (pc2 := 59) rfl rfl rfl (
      r_getA (pc2 := 62) rfl rfl (sh_T hs rfl rfl) (sh_A hs rfl rfl) (
      r_getA (pc2 := 65) rfl rfl (sh_T hs rfl rfl) (sh_A hs rfl rfl) (
      r_iload (pc2 := 66) rfl rfl rfl (
      jr_g fun h13 => r_iald (len := 60) (pc2 := 67) rfl rfl (sh_T hs rfl rfl) (sh_L hs rfl rfl) rfl h13 (
      r_iret rfl rfl))))))) (fun h5 =>
      jr_ite (fun h6 => r_sw (pc2 := 68) rfl (sw_no ic_0 h3 (rgk rfl) h4 (sw_no ic_1 h3 (rgk rfl) h5 (sw_yes ic_2 h6))) (
      r_aload (pc2 := 69) rfl rfl rfl (
      r_getA (pc2 := 72) rfl rfl (sh_T hs rfl rfl) (sh_A hs rfl rfl) (
      r_getA (pc2 := 75) rfl rfl (sh_T hs rfl rfl) (sh_A hs rfl rfl) (
      r_iload (pc2 := 76) rfl rfl rfl (
      jr_g fun h12 => r_iald (len := 60) (pc2 := 77) rfl rfl (sh_T hs rfl rfl) (sh_L hs rfl rfl) rfl h12 (
      r_iret rfl rfl))))))) (fun h6 =>
      jr_ite (fun h7 => r_sw (pc2 := 78) rfl (sw_no ic_0 h3 (rgk rfl) h4 (sw_no ic_1 h3 (rgk rfl) h5 (sw_no ic_2 h3 (rgk rfl) h6 (sw_yes ic_3 h7)))) (
      r_aload (pc2 := 79) rfl rfl rfl (
      r_getA (pc2 := 82) rfl rfl (sh_T hs rfl rfl) (sh_A hs rfl rfl) (
      r_getA (pc2 := 85) rfl rfl (sh_T hs rfl rfl) (sh_A hs rfl rfl) (
      r_iload (pc2 := 86) rfl rfl rfl (
      jr_g fun h11 => r_iald (len := 60) (pc2 := 87) rfl rfl (sh_T hs rfl rfl) (sh_L hs rfl rfl) rfl h11 (
      r_iret rfl rfl))))))) (fun h7 =>
      jr_ite (fun h8 => r_sw (pc2 := 88) rfl (sw_no ic_0 h3 (rgk rfl) h4 (sw_no ic_1 h3 (rgk rfl) h5 (sw_no ic_2 h3 (rgk rfl) h6 (sw_no ic_3 h3 (rgk rfl) h7 (sw_yes ic_4 h8))))) (
      r_aload (pc2 := 89) rfl rfl rfl (
      r_iload (pc2 := 90) rfl rfl rfl (
      r_callVP (pc2 := 93) (args := [.ref 0, gv a1]) (st2 := []) rfl rfl rfl rfl rfl rfl (rc_of (sh_T hs rfl rfl)) (rf_cw_isBest hs d g a1 ) fun v9 => (
      jr_g fun h10 => r_ifeq (pc2 := 96) (t := 100) rfl h10 rfl (fun _ =>
      r_ic (x := 0) (pc2 := 101) rfl ic_0 rfl (
      r_iret rfl rfl)) (fun _ =>
      r_ic (x := 1) (pc2 := 97) rfl ic_1 rfl (
      r_goto (t := 101) rfl (
      r_iret rfl rfl)))))))) (fun h8 =>
      r_sw (pc2 := 102) rfl (sw_no ic_0 h3 (rgk rfl) h4 (sw_no ic_1 h3 (rgk rfl) h5 (sw_no ic_2 h3 (rgk rfl) h6 (sw_no ic_3 h3 (rgk rfl) h7 (sw_no ic_4 h3 (rgk rfl) h8 rfl))))) (
      r_ic (x := -1) (pc2 := 103) rfl ic_m1 rfl (
      r_iret rfl rfl))))))))))))))))
theorem rf_cw_group {s : gm_S} {n m : Nat} (hs : gm_sh s n m) (d : Nat)  (g : gm_T) (a1 : Int) (a2 : Int)  : jr (pI s g) (cw_group g a1 a2) (jm_cl jm_CD km_n (d + 3) 138 [.ref 0, gv a1, gv a2] (gm_h s g)) := by
  unfold cw_group
  exact (r_ent (cd := cd_138) (n := 4) (L0 := [some (.ref 0), some (gv a1), some (gv a2), none]) rfl rfl rfl rfl (
      r_aload (pc2 := 1) rfl rfl rfl (
      r_iload (pc2 := 2) rfl rfl rfl (
      r_callVP (pc2 := 5) (args := [.ref 0, gv a1]) (st2 := []) rfl rfl rfl rfl rfl rfl (rc_of (sh_T hs rfl rfl)) (rf_cw_isBit hs (d + 1) g a1 ) fun v1 => (
      jr_g fun h2 => r_ifne (pc2 := 8) (t := 10) rfl h2 rfl (fun _ =>
      r_ic (x := -1) (pc2 := 9) rfl ic_m1 rfl (
      r_iret rfl rfl)) (fun _ =>
      r_aload (pc2 := 11) rfl rfl rfl (
      r_getA (pc2 := 14) rfl rfl (sh_T hs rfl rfl) (sh_A hs rfl rfl) (
      r_getA (pc2 := 17) rfl rfl (sh_T hs rfl rfl) (sh_A hs rfl rfl) (
      r_iload (pc2 := 18) rfl rfl rfl (
      jr_g fun h3 => r_iald (len := 30) (pc2 := 19) rfl rfl (sh_T hs rfl rfl) (sh_L hs rfl rfl) rfl h3 (
      r_istoreL (L3 := fun v4 => [some (.ref 0), some (gv a1), some (gv a2), some (gv v4)]) (pc2 := 20) rfl rfl (fun _ => rfl) fun v4 => (
      r_iload (pc2 := 21) rfl rfl rfl (
      jr_g fun h5 => (jr_ite (fun h6 => r_sw (pc2 := 48) rfl (sw_yes ic_0 h6) (
      r_iload (pc2 := 49) rfl rfl rfl (
      r_callSP (pc2 := 52) (args := [gv v4]) (st2 := []) rfl rfl rfl rfl rfl rfl (rf_jd_numberOfTrailingZeros hs (d + 1) g v4 ) fun v11 => (
      r_iret rfl rfl)))) (fun h6 =>
      jr_ite (fun h7 => r_sw (pc2 := 53) rfl (sw_no ic_0 h5 (rgk rfl) h6 (sw_yes ic_1 h7)) (
      r_iload (pc2 := 54) rfl rfl rfl (
      r_callSP (pc2 := 57) (args := [gv v4]) (st2 := []) rfl rfl rfl rfl rfl rfl (rf_jd_bitCount hs (d + 1) g v4 ) fun v10 => (
      r_iret rfl rfl)))) (fun h7 =>
      jr_ite (fun h8 => r_sw (pc2 := 58) rfl (sw_no ic_0 h5 (rgk rfl) h6 (sw_no ic_1 h5 (rgk rfl) h7 (sw_yes ic_2 h8))) (
      r_aload (pc2 := 59) rfl rfl rfl (
      r_getA (pc2 := 62) rfl rfl (sh_T hs rfl rfl) (sh_A hs rfl rfl) (
      r_iload (pc2 := 63) rfl rfl rfl (
      r_callVP (pc2 := 66) (args := [.ref 14, gv v4]) (st2 := []) rfl rfl rfl rfl rfl rfl (rc_of (sh_T hs rfl rfl)) (rf_cj_countIn hs d g v4 ) fun v9 => (
      r_iret rfl rfl)))))) (fun h8 =>
      r_sw (pc2 := 67) rfl (sw_no ic_0 h5 (rgk rfl) h6 (sw_no ic_1 h5 (rgk rfl) h7 (sw_no ic_2 h5 (rgk rfl) h8 rfl))) (
      r_ic (x := -1) (pc2 := 68) rfl ic_m1 rfl (
      r_iret rfl rfl)))))))))))))))))))
theorem rf_cw_clash {s : gm_S} {n m : Nat} (hs : gm_sh s n m) (d : Nat)  (g : gm_T) (a1 : Int)  : jr (pI s g) (cw_clash g a1) (jm_cl jm_CD km_n (d + 1) 139 [.ref 0, gv a1] (gm_h s g)) := by
  unfold cw_clash
  exact (r_ent (cd := cd_139) (n := 2) (L0 := [some (.ref 0), some (gv a1)]) rfl rfl rfl rfl (
      r_aload (pc2 := 1) rfl rfl rfl (
      r_getA (pc2 := 4) rfl rfl (sh_T hs rfl rfl) (sh_A hs rfl rfl) (
      r_getI (pc2 := 7) rfl rfl (sh_T hs rfl rfl) (
      jr_g fun h1 => r_ifne (pc2 := 10) (t := 12) rfl h1 rfl (fun _ =>
      r_ic (x := -1) (pc2 := 11) rfl ic_m1 rfl (
      r_iret rfl rfl)) (fun _ =>
      r_iload (pc2 := 13) rfl rfl rfl (
      jr_g fun h2 => (jr_ite (fun h5 => r_sw (pc2 := 44) rfl (sw_yes ic_0 h5) (
      r_aload (pc2 := 45) rfl rfl rfl (
      r_getA (pc2 := 48) rfl rfl (sh_T hs rfl rfl) (sh_A hs rfl rfl) (
      r_getI (pc2 := 51) rfl rfl (sh_T hs rfl rfl) (
      r_iret rfl rfl))))) (fun h5 =>
      jr_ite (fun h6 => r_sw (pc2 := 52) rfl (sw_no ic_0 h2 (rgk rfl) h5 (sw_yes ic_1 h6)) (
      r_aload (pc2 := 53) rfl rfl rfl (
      r_getA (pc2 := 56) rfl rfl (sh_T hs rfl rfl) (sh_A hs rfl rfl) (
      r_getI (pc2 := 59) rfl rfl (sh_T hs rfl rfl) (
      r_iret rfl rfl))))) (fun h6 =>
      jr_ite (fun h7 => r_sw (pc2 := 60) rfl (sw_no ic_0 h2 (rgk rfl) h5 (sw_no ic_1 h2 (rgk rfl) h6 (sw_yes ic_2 h7))) (
      r_aload (pc2 := 61) rfl rfl rfl (
      r_getA (pc2 := 64) rfl rfl (sh_T hs rfl rfl) (sh_A hs rfl rfl) (
      r_getI (pc2 := 67) rfl rfl (sh_T hs rfl rfl) (
      r_iret rfl rfl))))) (fun h7 =>
      jr_ite (fun h8 => r_sw (pc2 := 68) rfl (sw_no ic_0 h2 (rgk rfl) h5 (sw_no ic_1 h2 (rgk rfl) h6 (sw_no ic_2 h2 (rgk rfl) h7 (sw_yes ic_3 h8)))) (
      r_aload (pc2 := 69) rfl rfl rfl (
      r_getA (pc2 := 72) rfl rfl (sh_T hs rfl rfl) (sh_A hs rfl rfl) (
      r_getI (pc2 := 75) rfl rfl (sh_T hs rfl rfl) (
      r_iret rfl rfl))))) (fun h8 =>
      r_sw (pc2 := 76) rfl (sw_no ic_0 h2 (rgk rfl) h5 (sw_no ic_1 h2 (rgk rfl) h6 (sw_no ic_2 h2 (rgk rfl) h7 (sw_no ic_3 h2 (rgk rfl) h8 rfl)))) (
      r_iload (pc2 := 77) rfl rfl rfl (
      r_ic (x := 10) (pc2 := 79) rfl ic_10 rfl (
      r_clt (pc2 := 82) (t := 111) rfl h2 (rgk rfl) rfl (fun _ =>
      r_ic (x := -1) (pc2 := 112) rfl ic_m1 rfl (
      r_iret rfl rfl)) (fun _ =>
      r_iload (pc2 := 83) rfl rfl rfl (
      r_ic (x := 10) (pc2 := 85) rfl ic_10 rfl (
      r_isub (pc2 := 86) rfl rfl (
      r_aload (pc2 := 87) rfl rfl rfl (
      r_getA (pc2 := 90) rfl rfl (sh_T hs rfl rfl) (sh_A hs rfl rfl) (
      r_getI (pc2 := 93) rfl rfl (sh_T hs rfl rfl) (
      jr_g fun h3 => r_cge (pc2 := 96) (t := 111) rfl h3.1 h3.2 rfl (fun _ =>
      r_aload (pc2 := 97) rfl rfl rfl (
      r_getA (pc2 := 100) rfl rfl (sh_T hs rfl rfl) (sh_A hs rfl rfl) (
      r_getA (pc2 := 103) rfl rfl (sh_T hs rfl rfl) (sh_A hs rfl rfl) (
      r_iload (pc2 := 104) rfl rfl rfl (
      r_ic (x := 10) (pc2 := 106) rfl ic_10 rfl (
      r_isub (pc2 := 107) rfl rfl (
      jr_g fun h4 => r_iald (len := 60) (pc2 := 108) rfl rfl (sh_T hs rfl rfl) (sh_L hs rfl rfl) rfl h4 (
      r_goto (t := 112) rfl (
      r_iret rfl rfl))))))))) (fun _ =>
      r_ic (x := -1) (pc2 := 112) rfl ic_m1 rfl (
      r_iret rfl rfl))))))))))))))))))))))))
theorem rf_cw_word {s : gm_S} {n m : Nat} (hs : gm_sh s n m) (d : Nat)  (g : gm_T) (a1 : Int) (a2 : Int) (a3 : Int) (a4 : Int)  : jr (eI s) (cw_word n g a1 a2 a3 a4) (jm_cl jm_CD km_n (d + 8) 140 [.ref 0, gv a1, gv a2, gv a3, gv a4] (gm_h s g)) := by
  unfold cw_word
  exact (r_ent (cd := cd_140) (n := 6) (L0 := [some (.ref 0), some (gv a1), some (gv a2), some (gv a3), some (gv a4), none]) rfl rfl rfl rfl (
      r_aload (pc2 := 1) rfl rfl rfl (
      r_iload (pc2 := 2) rfl rfl rfl (
      r_callVP (pc2 := 5) (args := [.ref 0, gv a1]) (st2 := []) rfl rfl rfl rfl rfl rfl (rc_of (sh_T hs rfl rfl)) (rf_cw_isBit hs (d + 6) g a1 ) fun v1 => (
      jr_g fun h2 => r_ifne (pc2 := 8) (t := 10) rfl h2 rfl (fun _ =>
      r_ic (x := -1) (pc2 := 9) rfl ic_m1 rfl (
      r_iret rfl rfl)) (fun _ =>
      r_iload (pc2 := 11) rfl rfl rfl (
      r_iload (pc2 := 12) rfl rfl rfl (
      r_iload (pc2 := 14) rfl rfl rfl (
      r_callSP (pc2 := 17) (args := [gv a2, gv a3, gv a4]) (st2 := []) rfl rfl rfl rfl rfl rfl (rf_cw_isPlacing hs (d + 5) g a2 a3 a4 ) fun v3 => (
      jr_g fun h4 => r_ifne (pc2 := 20) (t := 23) rfl h4 rfl (fun _ =>
      r_ic (x := -2) (pc2 := 22) rfl ic_m2 rfl (
      r_iret rfl rfl)) (fun _ =>
      r_aload (pc2 := 24) rfl rfl rfl (
      r_getA (pc2 := 27) rfl rfl (sh_T hs rfl rfl) (sh_A hs rfl rfl) (
      r_iload (pc2 := 28) rfl rfl rfl (
      r_iload (pc2 := 29) rfl rfl rfl (
      r_iload (pc2 := 30) rfl rfl rfl (
      r_iload (pc2 := 32) rfl rfl rfl (
      r_callSL (pc2 := 35) (args := [gv a2, gv a3, gv a4]) (st2 := [gv a1, .ref 22]) rfl rfl rfl rfl rfl rfl (rf_cc_of hs (d + 6) g a2 a3 a4 ) fun v5 => (
      r_callVI (pc2 := 38) (args := [.ref 22, gv a1, .long v5]) (st2 := []) rfl rfl rfl rfl rfl rfl (rc_of (sh_T hs rfl rfl)) (rf_cv_say hs d g a1 v5 ) fun v6 g7 => (
      r_istore (L2 := [some (.ref 0), some (gv a1), some (gv a2), some (gv a3), some (gv a4), some (gv v6)]) (pc2 := 40) rfl rfl rfl (
      r_iload (pc2 := 42) rfl rfl rfl (
      jr_g fun h8 => r_ifeq (pc2 := 45) (t := 53) rfl h8 rfl (fun _ =>
      r_aload (pc2 := 54) rfl rfl rfl (
      r_getA (pc2 := 57) rfl rfl (sh_T hs rfl rfl) (sh_A hs rfl rfl) (
      r_getA (pc2 := 60) rfl rfl (sh_T hs rfl rfl) (sh_A hs rfl rfl) (
      r_iload (pc2 := 61) rfl rfl rfl (
      jr_g fun h9 => r_iald (len := 30) (pc2 := 62) rfl rfl (sh_T hs rfl rfl) (sh_L hs rfl rfl) rfl h9 (
      r_callSP (pc2 := 65) (args := [gv (gm_I g7 19 a1.toNat)]) (st2 := []) rfl rfl rfl rfl rfl rfl (rf_jd_bitCount hs (d + 6) g7 (gm_I g7 19 a1.toNat) ) fun v10 => (
      r_iret rfl rfl))))))) (fun _ =>
      r_ic (x := -10) (pc2 := 47) rfl ic_m10 rfl (
      r_iload (pc2 := 49) rfl rfl rfl (
      r_isub (pc2 := 50) rfl rfl (
      r_goto (t := 65) rfl (
      r_iret rfl rfl))))))))))))))))))))))))))
theorem rf_cw_unsay {s : gm_S} {n m : Nat} (hs : gm_sh s n m) (d : Nat)  (g : gm_T) (a1 : Int)  : jr (eI s) (cw_unsay g a1) (jm_cl jm_CD km_n (d + 3) 141 [.ref 0, gv a1] (gm_h s g)) := by
  unfold cw_unsay
  exact (r_ent (cd := cd_141) (n := 2) (L0 := [some (.ref 0), some (gv a1)]) rfl rfl rfl rfl (
      r_aload (pc2 := 1) rfl rfl rfl (
      r_iload (pc2 := 2) rfl rfl rfl (
      r_callVP (pc2 := 5) (args := [.ref 0, gv a1]) (st2 := []) rfl rfl rfl rfl rfl rfl (rc_of (sh_T hs rfl rfl)) (rf_cw_isBit hs (d + 1) g a1 ) fun v1 => (
      jr_g fun h2 => r_ifne (pc2 := 8) (t := 10) rfl h2 rfl (fun _ =>
      r_ic (x := -1) (pc2 := 9) rfl ic_m1 rfl (
      r_iret rfl rfl)) (fun _ =>
      r_aload (pc2 := 11) rfl rfl rfl (
      r_getA (pc2 := 14) rfl rfl (sh_T hs rfl rfl) (sh_A hs rfl rfl) (
      r_iload (pc2 := 15) rfl rfl rfl (
      r_callVP (pc2 := 18) (args := [.ref 22, gv a1]) (st2 := []) rfl rfl rfl rfl rfl rfl (rc_of (sh_T hs rfl rfl)) (rf_cv_hasWord hs (d + 1) g a1 ) fun v3 => (
      jr_g fun h4 => r_ifne (pc2 := 21) (t := 24) rfl h4 rfl (fun _ =>
      r_ic (x := -3) (pc2 := 23) rfl ic_m3 rfl (
      r_iret rfl rfl)) (fun _ =>
      r_aload (pc2 := 25) rfl rfl rfl (
      r_getA (pc2 := 28) rfl rfl (sh_T hs rfl rfl) (sh_A hs rfl rfl) (
      r_iload (pc2 := 29) rfl rfl rfl (
      r_callVV (pc2 := 32) (args := [.ref 22, gv a1]) (st2 := []) rfl rfl rfl rfl rfl rfl (rc_of (sh_T hs rfl rfl)) (rf_cv_takeBack hs d g a1 ) fun g5 => (
      r_ic (x := 1) (pc2 := 33) rfl ic_1 rfl (
      r_iret rfl rfl))))))))))))))))
theorem rf_cw_put {s : gm_S} {n m : Nat} (hs : gm_sh s n m) (d : Nat)  (g : gm_T) (a1 : Int) (a2 : Int) (a3 : Int) (a4 : Int)  : jr (eI s) (cw_put n g a1 a2 a3 a4) (jm_cl jm_CD km_n (d + 8) 142 [.ref 0, gv a1, gv a2, gv a3, gv a4] (gm_h s g)) := by
  unfold cw_put
  exact (r_ent (cd := cd_142) (n := 6) (L0 := [some (.ref 0), some (gv a1), some (gv a2), some (gv a3), some (gv a4), none]) rfl rfl rfl rfl (
      r_aload (pc2 := 1) rfl rfl rfl (
      r_iload (pc2 := 2) rfl rfl rfl (
      r_callVP (pc2 := 5) (args := [.ref 0, gv a1]) (st2 := []) rfl rfl rfl rfl rfl rfl (rc_of (sh_T hs rfl rfl)) (rf_cw_isBit hs (d + 6) g a1 ) fun v1 => (
      jr_g fun h2 => r_ifne (pc2 := 8) (t := 10) rfl h2 rfl (fun _ =>
      r_ic (x := -1) (pc2 := 9) rfl ic_m1 rfl (
      r_iret rfl rfl)) (fun _ =>
      r_iload (pc2 := 11) rfl rfl rfl (
      r_iload (pc2 := 12) rfl rfl rfl (
      r_iload (pc2 := 14) rfl rfl rfl (
      r_callSP (pc2 := 17) (args := [gv a2, gv a3, gv a4]) (st2 := []) rfl rfl rfl rfl rfl rfl (rf_cw_isPlacing hs (d + 5) g a2 a3 a4 ) fun v3 => (
      jr_g fun h4 => r_ifne (pc2 := 20) (t := 23) rfl h4 rfl (fun _ =>
      r_ic (x := -2) (pc2 := 22) rfl ic_m2 rfl (
      r_iret rfl rfl)) (fun _ =>
      r_aload (pc2 := 24) rfl rfl rfl (
      r_getA (pc2 := 27) rfl rfl (sh_T hs rfl rfl) (sh_A hs rfl rfl) (
      r_iload (pc2 := 28) rfl rfl rfl (
      r_callVP (pc2 := 31) (args := [.ref 22, gv a1]) (st2 := []) rfl rfl rfl rfl rfl rfl (rc_of (sh_T hs rfl rfl)) (rf_cv_groupHasWord hs (d + 6) g a1 ) fun v5 => (
      jr_g fun h6 => r_ifeq (pc2 := 34) (t := 37) rfl h6 rfl (fun _ =>
      r_aload (pc2 := 38) rfl rfl rfl (
      r_getA (pc2 := 41) rfl rfl (sh_T hs rfl rfl) (sh_A hs rfl rfl) (
      r_iload (pc2 := 42) rfl rfl rfl (
      r_iload (pc2 := 43) rfl rfl rfl (
      r_iload (pc2 := 44) rfl rfl rfl (
      r_iload (pc2 := 46) rfl rfl rfl (
      r_callSL (pc2 := 49) (args := [gv a2, gv a3, gv a4]) (st2 := [gv a1, .ref 22]) rfl rfl rfl rfl rfl rfl (rf_cc_of hs (d + 6) g a2 a3 a4 ) fun v7 => (
      r_callVI (pc2 := 52) (args := [.ref 22, gv a1, .long v7]) (st2 := []) rfl rfl rfl rfl rfl rfl (rc_of (sh_T hs rfl rfl)) (rf_cv_lay hs d g a1 v7 ) fun v8 g9 => (
      r_istore (L2 := [some (.ref 0), some (gv a1), some (gv a2), some (gv a3), some (gv a4), some (gv v8)]) (pc2 := 54) rfl rfl rfl (
      r_iload (pc2 := 56) rfl rfl rfl (
      jr_g fun h10 => r_ifeq (pc2 := 59) (t := 67) rfl h10 rfl (fun _ =>
      r_aload (pc2 := 68) rfl rfl rfl (
      r_getA (pc2 := 71) rfl rfl (sh_T hs rfl rfl) (sh_A hs rfl rfl) (
      r_getA (pc2 := 74) rfl rfl (sh_T hs rfl rfl) (sh_A hs rfl rfl) (
      r_iload (pc2 := 75) rfl rfl rfl (
      jr_g fun h11 => r_iald (len := 30) (pc2 := 76) rfl rfl (sh_T hs rfl rfl) (sh_L hs rfl rfl) rfl h11 (
      r_callSP (pc2 := 79) (args := [gv (gm_I g9 19 a1.toNat)]) (st2 := []) rfl rfl rfl rfl rfl rfl (rf_jd_bitCount hs (d + 6) g9 (gm_I g9 19 a1.toNat) ) fun v12 => (
      r_iret rfl rfl))))))) (fun _ =>
      r_ic (x := -10) (pc2 := 61) rfl ic_m10 rfl (
      r_iload (pc2 := 63) rfl rfl rfl (
      r_isub (pc2 := 64) rfl rfl (
      r_goto (t := 79) rfl (
      r_iret rfl rfl)))))))))))))))) (fun _ =>
      r_ic (x := -3) (pc2 := 36) rfl ic_m3 rfl (
      r_iret rfl rfl)))))))))))))))))
theorem rf_cw_lift {s : gm_S} {n m : Nat} (hs : gm_sh s n m) (d : Nat)  (g : gm_T) (a1 : Int)  : jr (eI s) (cw_lift g a1) (jm_cl jm_CD km_n (d + 2) 143 [.ref 0, gv a1] (gm_h s g)) := by
  unfold cw_lift
  exact (r_ent (cd := cd_143) (n := 2) (L0 := [some (.ref 0), some (gv a1)]) rfl rfl rfl rfl (
      r_aload (pc2 := 1) rfl rfl rfl (
      r_iload (pc2 := 2) rfl rfl rfl (
      r_callVP (pc2 := 5) (args := [.ref 0, gv a1]) (st2 := []) rfl rfl rfl rfl rfl rfl (rc_of (sh_T hs rfl rfl)) (rf_cw_isBit hs d g a1 ) fun v1 => (
      jr_g fun h2 => r_ifne (pc2 := 8) (t := 10) rfl h2 rfl (fun _ =>
      r_ic (x := -1) (pc2 := 9) rfl ic_m1 rfl (
      r_iret rfl rfl)) (fun _ =>
      r_aload (pc2 := 11) rfl rfl rfl (
      r_getA (pc2 := 14) rfl rfl (sh_T hs rfl rfl) (sh_A hs rfl rfl) (
      r_iload (pc2 := 15) rfl rfl rfl (
      r_callVP (pc2 := 18) (args := [.ref 22, gv a1]) (st2 := []) rfl rfl rfl rfl rfl rfl (rc_of (sh_T hs rfl rfl)) (rf_cv_stands hs d g a1 ) fun v3 => (
      jr_g fun h4 => r_ifeq (pc2 := 21) (t := 32) rfl h4 rfl (fun _ =>
      r_ic (x := -3) (pc2 := 34) rfl ic_m3 rfl (
      r_iret rfl rfl)) (fun _ =>
      r_aload (pc2 := 22) rfl rfl rfl (
      r_getA (pc2 := 25) rfl rfl (sh_T hs rfl rfl) (sh_A hs rfl rfl) (
      r_iload (pc2 := 26) rfl rfl rfl (
      r_callVP (pc2 := 29) (args := [.ref 22, gv a1]) (st2 := []) rfl rfl rfl rfl rfl rfl (rc_of (sh_T hs rfl rfl)) (rf_cv_groupHasWord hs d g a1 ) fun v5 => (
      jr_g fun h6 => r_ifeq (pc2 := 32) (t := 35) rfl h6 rfl (fun _ =>
      r_aload (pc2 := 36) rfl rfl rfl (
      r_getA (pc2 := 39) rfl rfl (sh_T hs rfl rfl) (sh_A hs rfl rfl) (
      r_dup (pc2 := 40) rfl rfl rfl (
      r_getI (pc2 := 43) rfl rfl (sh_T hs rfl rfl) (
      r_aload (pc2 := 44) rfl rfl rfl (
      r_getA (pc2 := 47) rfl rfl (sh_T hs rfl rfl) (sh_A hs rfl rfl) (
      r_getA (pc2 := 50) rfl rfl (sh_T hs rfl rfl) (sh_A hs rfl rfl) (
      r_iload (pc2 := 51) rfl rfl rfl (
      jr_g fun h7 => r_iald (len := 30) (pc2 := 52) rfl rfl (sh_T hs rfl rfl) (sh_L hs rfl rfl) rfl h7 (
      r_ic (x := -1) (pc2 := 53) rfl ic_m1 rfl (
      r_ixor (pc2 := 54) rfl rfl (
      r_iand (pc2 := 55) rfl rfl (
      r_putI (pc2 := 58) rfl rfl (sh_T hs rfl rfl) fun g8 => (
      r_aload (pc2 := 59) rfl rfl rfl (
      r_getA (pc2 := 62) rfl rfl (sh_T hs rfl rfl) (sh_A hs rfl rfl) (
      r_getA (pc2 := 65) rfl rfl (sh_T hs rfl rfl) (sh_A hs rfl rfl) (
      r_iload (pc2 := 66) rfl rfl rfl (
      r_iald (len := 30) (pc2 := 67) rfl rfl (sh_T hs rfl rfl) (sh_L hs rfl rfl) rfl h7 (
      r_callSP (pc2 := 70) (args := [gv (gm_I g8 19 a1.toNat)]) (st2 := []) rfl rfl rfl rfl rfl rfl (rf_jd_bitCount hs d g8 (gm_I g8 19 a1.toNat) ) fun v9 => (
      r_iret rfl rfl)))))))))))))))))))) (fun _ =>
      r_ic (x := -3) (pc2 := 34) rfl ic_m3 rfl (
      r_iret rfl rfl)))))))))))))))))
theorem rf_cw_placed {s : gm_S} {n m : Nat} (hs : gm_sh s n m) (d : Nat)  (g : gm_T) (a1 : Int) (a2 : Int)  : jr (pI s g) (cw_placed g a1 a2) (jm_cl jm_CD km_n (d + 3) 144 [.ref 0, gv a1, gv a2] (gm_h s g)) := by
  unfold cw_placed
  exact (r_ent (cd := cd_144) (n := 3) (L0 := [some (.ref 0), some (gv a1), some (gv a2)]) rfl rfl rfl rfl (
      r_aload (pc2 := 1) rfl rfl rfl (
      r_iload (pc2 := 2) rfl rfl rfl (
      r_callVP (pc2 := 5) (args := [.ref 0, gv a1]) (st2 := []) rfl rfl rfl rfl rfl rfl (rc_of (sh_T hs rfl rfl)) (rf_cw_isBit hs (d + 1) g a1 ) fun v1 => (
      jr_g fun h2 => r_ifeq (pc2 := 8) (t := 19) rfl h2 rfl (fun _ =>
      r_ic (x := -100000) (pc2 := 21) rfl ic_m100000 rfl (
      r_iret rfl rfl)) (fun _ =>
      r_aload (pc2 := 9) rfl rfl rfl (
      r_getA (pc2 := 12) rfl rfl (sh_T hs rfl rfl) (sh_A hs rfl rfl) (
      r_iload (pc2 := 13) rfl rfl rfl (
      r_callVP (pc2 := 16) (args := [.ref 22, gv a1]) (st2 := []) rfl rfl rfl rfl rfl rfl (rc_of (sh_T hs rfl rfl)) (rf_cv_stands hs (d + 1) g a1 ) fun v3 => (
      jr_g fun h4 => r_ifne (pc2 := 19) (t := 22) rfl h4 rfl (fun _ =>
      r_ic (x := -100000) (pc2 := 21) rfl ic_m100000 rfl (
      r_iret rfl rfl)) (fun _ =>
      r_iload (pc2 := 23) rfl rfl rfl (
      r_ic (x := 3) (pc2 := 24) rfl ic_3 rfl (
      jr_g fun h5 => r_ceq (pc2 := 27) (t := 41) rfl h5 (rgk rfl) rfl (fun _ =>
      r_aload (pc2 := 42) rfl rfl rfl (
      r_getA (pc2 := 45) rfl rfl (sh_T hs rfl rfl) (sh_A hs rfl rfl) (
      r_iload (pc2 := 46) rfl rfl rfl (
      r_callVP (pc2 := 49) (args := [.ref 22, gv a1]) (st2 := []) rfl rfl rfl rfl rfl rfl (rc_of (sh_T hs rfl rfl)) (rf_cv_hasWord hs (d + 1) g a1 ) fun v6 => (
      jr_g fun h7 => r_ifeq (pc2 := 52) (t := 54) rfl h7 rfl (fun _ =>
      r_aload (pc2 := 55) rfl rfl rfl (
      r_getA (pc2 := 58) rfl rfl (sh_T hs rfl rfl) (sh_A hs rfl rfl) (
      r_iload (pc2 := 59) rfl rfl rfl (
      r_callVP (pc2 := 62) (args := [.ref 22, gv a1]) (st2 := []) rfl rfl rfl rfl rfl rfl (rc_of (sh_T hs rfl rfl)) (rf_cv_groupHasWord hs (d + 1) g a1 ) fun v8 => (
      jr_g fun h9 => r_ifeq (pc2 := 65) (t := 69) rfl h9 rfl (fun _ =>
      r_ic (x := 0) (pc2 := 70) rfl ic_0 rfl (
      r_iret rfl rfl)) (fun _ =>
      r_ic (x := 1) (pc2 := 66) rfl ic_1 rfl (
      r_goto (t := 70) rfl (
      r_iret rfl rfl)))))))) (fun _ =>
      r_ic (x := 2) (pc2 := 53) rfl ic_2 rfl (
      r_iret rfl rfl))))))) (fun _ =>
      r_aload (pc2 := 28) rfl rfl rfl (
      r_getA (pc2 := 31) rfl rfl (sh_T hs rfl rfl) (sh_A hs rfl rfl) (
      r_getA (pc2 := 34) rfl rfl (sh_T hs rfl rfl) (sh_A hs rfl rfl) (
      r_iload (pc2 := 35) rfl rfl rfl (
      jr_g fun h10 => r_lald (len := 30) (pc2 := 36) rfl rfl (sh_T hs rfl rfl) (sh_L hs rfl rfl) rfl h10 (
      r_iload (pc2 := 37) rfl rfl rfl (
      r_callSP (pc2 := 40) (args := [.long (gm_J g 23 a1.toNat), gv a2]) (st2 := []) rfl rfl rfl rfl rfl rfl (rf_cw_partOf hs d g (gm_J g 23 a1.toNat) a2 ) fun v11 => (
      r_iret rfl rfl)))))))))))))))))))))
theorem rf_cw_at {s : gm_S} {n m : Nat} (hs : gm_sh s n m) (d : Nat)  (g : gm_T) (a1 : Int) (a2 : Int)  : jr (pI s g) (cw_at n g a1 a2) (jm_cl jm_CD km_n (d + 3) 145 [.ref 0, gv a1, gv a2] (gm_h s g)) := by
  unfold cw_at
  exact (r_ent (cd := cd_145) (n := 3) (L0 := [some (.ref 0), some (gv a1), some (gv a2)]) rfl rfl rfl rfl (
      r_aload (pc2 := 1) rfl rfl rfl (
      r_getA (pc2 := 4) rfl rfl (sh_T hs rfl rfl) (sh_A hs rfl rfl) (
      r_iload (pc2 := 5) rfl rfl rfl (
      r_iload (pc2 := 6) rfl rfl rfl (
      r_callVP (pc2 := 9) (args := [.ref 22, gv a1, gv a2]) (st2 := []) rfl rfl rfl rfl rfl rfl (rc_of (sh_T hs rfl rfl)) (rf_cv_bitAt hs d g a1 a2 ) fun v1 => (
      r_iret rfl rfl)))))))
theorem rf_cw_proof {s : gm_S} {n m : Nat} (hs : gm_sh s n m) (d : Nat)  (g : gm_T) (a1 : Int)  : jr (eI s) (cw_proof n g a1) (jm_cl jm_CD km_n (d + 8) 146 [.ref 0, gv a1] (gm_h s g)) := by
  unfold cw_proof
  exact (r_ent (cd := cd_146) (n := 3) (L0 := [some (.ref 0), some (gv a1), none]) rfl rfl rfl rfl (
      r_aload (pc2 := 1) rfl rfl rfl (
      r_iload (pc2 := 2) rfl rfl rfl (
      r_callVP (pc2 := 5) (args := [.ref 0, gv a1]) (st2 := []) rfl rfl rfl rfl rfl rfl (rc_of (sh_T hs rfl rfl)) (rf_cw_isBit hs (d + 6) g a1 ) fun v1 => (
      jr_g fun h2 => r_ifne (pc2 := 8) (t := 10) rfl h2 rfl (fun _ =>
      r_ic (x := -1) (pc2 := 9) rfl ic_m1 rfl (
      r_iret rfl rfl)) (fun _ =>
      r_aload (pc2 := 11) rfl rfl rfl (
      r_getA (pc2 := 14) rfl rfl (sh_T hs rfl rfl) (sh_A hs rfl rfl) (
      r_iload (pc2 := 15) rfl rfl rfl (
      r_callVI (pc2 := 18) (args := [.ref 22, gv a1]) (st2 := []) rfl rfl rfl rfl rfl rfl (rc_of (sh_T hs rfl rfl)) (rf_cv_prove hs d g a1 ) fun v3 g4 => (
      r_istore (L2 := [some (.ref 0), some (gv a1), some (gv v3)]) (pc2 := 19) rfl rfl rfl (
      r_iload (pc2 := 20) rfl rfl rfl (
      jr_g fun h5 => r_ifge (pc2 := 23) (t := 28) rfl h5 rfl (fun _ =>
      r_ic (x := -3) (pc2 := 25) rfl ic_m3 rfl (
      r_goto (t := 29) rfl (
      r_iret rfl rfl))) (fun _ =>
      r_iload (pc2 := 29) rfl rfl rfl (
      r_iret rfl rfl))))))))))))))
theorem rf_cw_reason {s : gm_S} {n m : Nat} (hs : gm_sh s n m) (d : Nat)  (g : gm_T) (a1 : Int) (a2 : Int)  : jr (eI s) (cw_reason n g a1 a2) (jm_cl jm_CD km_n (d + 8) 147 [.ref 0, gv a1, gv a2] (gm_h s g)) := by
  unfold cw_reason
  exact (r_ent (cd := cd_147) (n := 3) (L0 := [some (.ref 0), some (gv a1), some (gv a2)]) rfl rfl rfl rfl (
      r_aload (pc2 := 1) rfl rfl rfl (
      r_iload (pc2 := 2) rfl rfl rfl (
      r_callVP (pc2 := 5) (args := [.ref 0, gv a1]) (st2 := []) rfl rfl rfl rfl rfl rfl (rc_of (sh_T hs rfl rfl)) (rf_cw_isBit hs (d + 6) g a1 ) fun v1 => (
      jr_g fun h2 => r_ifeq (pc2 := 8) (t := 24) rfl h2 rfl (fun _ =>
      r_ic (x := -1) (pc2 := 25) rfl ic_m1 rfl (
      r_iret rfl rfl)) (fun _ =>
      r_iload (pc2 := 9) rfl rfl rfl (
      jr_g fun h3 => r_iflt (pc2 := 12) (t := 24) rfl h3 rfl (fun _ =>
      r_ic (x := -1) (pc2 := 25) rfl ic_m1 rfl (
      r_iret rfl rfl)) (fun _ =>
      r_iload (pc2 := 13) rfl rfl rfl (
      r_aload (pc2 := 14) rfl rfl rfl (
      r_getA (pc2 := 17) rfl rfl (sh_T hs rfl rfl) (sh_A hs rfl rfl) (
      r_iload (pc2 := 18) rfl rfl rfl (
      r_callVI (pc2 := 21) (args := [.ref 22, gv a1]) (st2 := [gv a2]) rfl rfl rfl rfl rfl rfl (rc_of (sh_T hs rfl rfl)) (rf_cv_prove hs d g a1 ) fun v4 g5 => (
      jr_g fun h6 => r_clt (pc2 := 24) (t := 26) rfl h3 h6 rfl (fun _ =>
      r_aload (pc2 := 27) rfl rfl rfl (
      r_getA (pc2 := 30) rfl rfl (sh_T hs rfl rfl) (sh_A hs rfl rfl) (
      r_getA (pc2 := 33) rfl rfl (sh_T hs rfl rfl) (sh_A hs rfl rfl) (
      r_iload (pc2 := 34) rfl rfl rfl (
      jr_g fun h7 => r_iald (len := 30) (pc2 := 35) rfl rfl (sh_T hs rfl rfl) (sh_L hs rfl rfl) rfl h7 (
      r_iret rfl rfl)))))) (fun _ =>
      r_ic (x := -1) (pc2 := 25) rfl ic_m1 rfl (
      r_iret rfl rfl)))))))))))))))
theorem rf_cw_photograph {s : gm_S} {n m : Nat} (hs : gm_sh s n m) (d : Nat)  (g : gm_T) (a1 : Int) (a2 : Int) (a3 : Int)  : jr (eI s) (cw_photograph g a1 a2 a3) (jm_cl jm_CD km_n (d + 4) 148 [.ref 0, gv a1, gv a2, gv a3] (gm_h s g)) := by
  unfold cw_photograph
  exact (r_ent (cd := cd_148) (n := 5) (L0 := [some (.ref 0), some (gv a1), some (gv a2), some (gv a3), none]) rfl rfl rfl rfl (
      r_iload (pc2 := 1) rfl rfl rfl (
      r_callSP (pc2 := 4) (args := [gv a1]) (st2 := []) rfl rfl rfl rfl rfl rfl (rf_cw_isNear hs (d + 2) g a1 ) fun v1 => (
      jr_g fun h2 => r_ifeq (pc2 := 7) (t := 23) rfl h2 rfl (fun _ =>
      r_ic (x := -2) (pc2 := 25) rfl ic_m2 rfl (
      r_iret rfl rfl)) (fun _ =>
      r_iload (pc2 := 8) rfl rfl rfl (
      r_callSP (pc2 := 11) (args := [gv a2]) (st2 := []) rfl rfl rfl rfl rfl rfl (rf_cw_isNear hs (d + 2) g a2 ) fun v3 => (
      jr_g fun h4 => r_ifeq (pc2 := 14) (t := 23) rfl h4 rfl (fun _ =>
      r_ic (x := -2) (pc2 := 25) rfl ic_m2 rfl (
      r_iret rfl rfl)) (fun _ =>
      r_iload (pc2 := 15) rfl rfl rfl (
      jr_g fun h5 => r_iflt (pc2 := 18) (t := 23) rfl h5 rfl (fun _ =>
      r_ic (x := -2) (pc2 := 25) rfl ic_m2 rfl (
      r_iret rfl rfl)) (fun _ =>
      r_iload (pc2 := 19) rfl rfl rfl (
      r_ic (x := 3) (pc2 := 20) rfl ic_3 rfl (
      r_cle (pc2 := 23) (t := 26) rfl h5 (rgk rfl) rfl (fun _ =>
      r_aload (pc2 := 27) rfl rfl rfl (
      r_getA (pc2 := 30) rfl rfl (sh_T hs rfl rfl) (sh_A hs rfl rfl) (
      r_aload (pc2 := 31) rfl rfl rfl (
      r_getA (pc2 := 34) rfl rfl (sh_T hs rfl rfl) (sh_A hs rfl rfl) (
      r_callVP (pc2 := 37) (args := [.ref 25, .ref 1]) (st2 := []) rfl rfl rfl rfl rfl rfl (rc_of (sh_T hs rfl rfl)) (rf_cp_faultOf hs d g ) fun v6 => (
      r_istore (L2 := [some (.ref 0), some (gv a1), some (gv a2), some (gv a3), some (gv v6)]) (pc2 := 39) rfl rfl rfl (
      r_iload (pc2 := 41) rfl rfl rfl (
      r_b1 (R1 := (fun (q : gm_T) (c : Option jm_R) => c = jm_sup cd_148 (jm_cl jm_CD km_n (d + 3)) (58, [some (.ref 0), some (gv a1), some (gv a2), some (gv a3), some (gv v6)], [], gm_h s q))) (
      jr_g fun h8 => r_ifge (pc2 := 44) (t := 58) rfl h8 rfl (fun _ =>
      r_aload (pc2 := 45) rfl rfl rfl (
      r_getA (pc2 := 48) rfl rfl (sh_T hs rfl rfl) (sh_A hs rfl rfl) (
      r_aload (pc2 := 49) rfl rfl rfl (
      r_getA (pc2 := 52) rfl rfl (sh_T hs rfl rfl) (sh_A hs rfl rfl) (
      r_iload (pc2 := 53) rfl rfl rfl (
      r_iload (pc2 := 54) rfl rfl rfl (
      r_iload (pc2 := 55) rfl rfl rfl (
      r_callVV (pc2 := 58) (args := [.ref 25, .ref 1, gv a1, gv a2, gv a3]) (st2 := []) rfl rfl rfl rfl rfl rfl (rc_of (sh_T hs rfl rfl)) (rf_cp_take hs d g a1 a2 a3 ) fun g9 => (
      jr_leaf rfl))))))))) (fun _ =>
      jr_leaf rfl)) (fun g7 c h => match c, h with | _, rfl => (
      r_aload (pc2 := 59) rfl rfl rfl (
      r_getA (pc2 := 62) rfl rfl (sh_T hs rfl rfl) (sh_A hs rfl rfl) (
      r_ic (x := 0) (pc2 := 63) rfl ic_0 rfl (
      r_putI (pc2 := 66) rfl rfl (sh_T hs rfl rfl) fun g10 => (
      r_iload (pc2 := 68) rfl rfl rfl (
      jr_g fun h11 => r_ifge (pc2 := 71) (t := 81) rfl h11 rfl (fun _ =>
      r_aload (pc2 := 72) rfl rfl rfl (
      r_getA (pc2 := 75) rfl rfl (sh_T hs rfl rfl) (sh_A hs rfl rfl) (
      r_callVP (pc2 := 78) (args := [.ref 25]) (st2 := []) rfl rfl rfl rfl rfl rfl (rc_of (sh_T hs rfl rfl)) (rf_cp_countColours hs (d + 1) g10 ) fun v12 => (
      r_goto (t := 86) rfl (
      r_iret rfl rfl))))) (fun _ =>
      r_ic (x := -10) (pc2 := 83) rfl ic_m10 rfl (
      r_iload (pc2 := 85) rfl rfl rfl (
      r_isub (pc2 := 86) rfl rfl (
      r_iret rfl rfl))))))))))))))))))) (fun _ =>
      r_ic (x := -2) (pc2 := 25) rfl ic_m2 rfl (
      r_iret rfl rfl))))))))))))))
theorem rf_cw_agree {s : gm_S} {n m : Nat} (hs : gm_sh s n m) (d : Nat)  (g : gm_T) (a1 : Int) (a2 : Int) (a3 : Int) (a4 : Int)  : jr (pI s g) (cw_agree n g a1 a2 a3 a4) (jm_cl jm_CD km_n (d + 4) 149 [.ref 0, gv a1, gv a2, gv a3, gv a4] (gm_h s g)) := by
  unfold cw_agree
  exact (r_ent (cd := cd_149) (n := 5) (L0 := [some (.ref 0), some (gv a1), some (gv a2), some (gv a3), some (gv a4)]) rfl rfl rfl rfl (
      r_aload (pc2 := 1) rfl rfl rfl (
      r_iload (pc2 := 2) rfl rfl rfl (
      r_callVP (pc2 := 5) (args := [.ref 0, gv a1]) (st2 := []) rfl rfl rfl rfl rfl rfl (rc_of (sh_T hs rfl rfl)) (rf_cw_isBit hs (d + 2) g a1 ) fun v1 => (
      jr_g fun h2 => r_ifne (pc2 := 8) (t := 10) rfl h2 rfl (fun _ =>
      r_ic (x := -1) (pc2 := 9) rfl ic_m1 rfl (
      r_iret rfl rfl)) (fun _ =>
      r_iload (pc2 := 11) rfl rfl rfl (
      r_iload (pc2 := 12) rfl rfl rfl (
      r_iload (pc2 := 14) rfl rfl rfl (
      r_callSP (pc2 := 17) (args := [gv a2, gv a3, gv a4]) (st2 := []) rfl rfl rfl rfl rfl rfl (rf_cw_isPlacing hs (d + 1) g a2 a3 a4 ) fun v3 => (
      jr_g fun h4 => r_ifne (pc2 := 20) (t := 23) rfl h4 rfl (fun _ =>
      r_ic (x := -2) (pc2 := 22) rfl ic_m2 rfl (
      r_iret rfl rfl)) (fun _ =>
      r_aload (pc2 := 24) rfl rfl rfl (
      r_getA (pc2 := 27) rfl rfl (sh_T hs rfl rfl) (sh_A hs rfl rfl) (
      r_callVP (pc2 := 30) (args := [.ref 25]) (st2 := []) rfl rfl rfl rfl rfl rfl (rc_of (sh_T hs rfl rfl)) (rf_cp_isThere hs (d + 2) g ) fun v5 => (
      jr_g fun h6 => r_ifeq (pc2 := 33) (t := 56) rfl h6 rfl (fun _ =>
      r_ic (x := -3) (pc2 := 58) rfl ic_m3 rfl (
      r_iret rfl rfl)) (fun _ =>
      r_aload (pc2 := 34) rfl rfl rfl (
      r_getA (pc2 := 37) rfl rfl (sh_T hs rfl rfl) (sh_A hs rfl rfl) (
      r_aload (pc2 := 38) rfl rfl rfl (
      r_getA (pc2 := 41) rfl rfl (sh_T hs rfl rfl) (sh_A hs rfl rfl) (
      r_getA (pc2 := 44) rfl rfl (sh_T hs rfl rfl) (sh_A hs rfl rfl) (
      r_iload (pc2 := 45) rfl rfl rfl (
      jr_g fun h7 => r_aald (pc2 := 46) rfl rfl hs h7 (
      r_iload (pc2 := 47) rfl rfl rfl (
      r_iload (pc2 := 48) rfl rfl rfl (
      r_iload (pc2 := 50) rfl rfl rfl (
      r_callVP (pc2 := 53) (args := [.ref 25, .ref (bA a1.toNat), gv a2, gv a3, gv a4]) (st2 := []) rfl rfl rfl rfl rfl rfl (rc_of (sh_T hs rfl rfl)) (rf_cp_countAgreeing hs d g a1.toNat a2 a3 a4 (bn_lt hs h7)) fun v8 => (
      r_goto (t := 58) rfl (
      r_iret rfl rfl)))))))))))))))))))))))))))
theorem rf_cw_best {s : gm_S} {n m : Nat} (hs : gm_sh s n m) (d : Nat)  (g : gm_T) (a1 : Int) (a2 : Int)  : jr (eI s) (cw_best n g a1 a2) (jm_cl jm_CD km_n (d + 6) 150 [.ref 0, gv a1, gv a2] (gm_h s g)) := by
  unfold cw_best
  exact (r_ent (cd := cd_150) (n := 3) (L0 := [some (.ref 0), some (gv a1), some (gv a2)]) rfl rfl rfl rfl (
      r_aload (pc2 := 1) rfl rfl rfl (
      r_iload (pc2 := 2) rfl rfl rfl (
      r_callVP (pc2 := 5) (args := [.ref 0, gv a1]) (st2 := []) rfl rfl rfl rfl rfl rfl (rc_of (sh_T hs rfl rfl)) (rf_cw_isBit hs (d + 4) g a1 ) fun v1 => (
      jr_g fun h2 => r_ifeq (pc2 := 8) (t := 17) rfl h2 rfl (fun _ =>
      r_ic (x := -100000) (pc2 := 19) rfl ic_m100000 rfl (
      r_iret rfl rfl)) (fun _ =>
      r_iload (pc2 := 9) rfl rfl rfl (
      jr_g fun h3 => r_iflt (pc2 := 12) (t := 17) rfl h3 rfl (fun _ =>
      r_ic (x := -100000) (pc2 := 19) rfl ic_m100000 rfl (
      r_iret rfl rfl)) (fun _ =>
      r_iload (pc2 := 13) rfl rfl rfl (
      r_ic (x := 4) (pc2 := 14) rfl ic_4 rfl (
      r_cle (pc2 := 17) (t := 20) rfl h3 (rgk rfl) rfl (fun _ =>
      r_aload (pc2 := 21) rfl rfl rfl (
      r_getA (pc2 := 24) rfl rfl (sh_T hs rfl rfl) (sh_A hs rfl rfl) (
      r_callVP (pc2 := 27) (args := [.ref 25]) (st2 := []) rfl rfl rfl rfl rfl rfl (rc_of (sh_T hs rfl rfl)) (rf_cp_isThere hs (d + 4) g ) fun v4 => (
      jr_g fun h5 => r_ifeq (pc2 := 30) (t := 49) rfl h5 rfl (fun _ =>
      r_ic (x := -100001) (pc2 := 52) rfl ic_m100001 rfl (
      r_iret rfl rfl)) (fun _ =>
      r_aload (pc2 := 31) rfl rfl rfl (
      r_getA (pc2 := 34) rfl rfl (sh_T hs rfl rfl) (sh_A hs rfl rfl) (
      r_aload (pc2 := 35) rfl rfl rfl (
      r_getA (pc2 := 38) rfl rfl (sh_T hs rfl rfl) (sh_A hs rfl rfl) (
      r_getA (pc2 := 41) rfl rfl (sh_T hs rfl rfl) (sh_A hs rfl rfl) (
      r_iload (pc2 := 42) rfl rfl rfl (
      jr_g fun h6 => r_aald (pc2 := 43) rfl rfl hs h6 (
      r_callVI (pc2 := 46) (args := [.ref 25, .ref (bA a1.toNat)]) (st2 := []) rfl rfl rfl rfl rfl rfl (rc_of (sh_T hs rfl rfl)) (rf_cp_search hs d g a1.toNat (bn_lt hs h6)) fun v7 g8 => (
      jr_g fun h9 => r_ifne (pc2 := 49) (t := 53) rfl h9 rfl (fun _ =>
      r_ic (x := -100001) (pc2 := 52) rfl ic_m100001 rfl (
      r_iret rfl rfl)) (fun _ =>
      r_iload (pc2 := 54) rfl rfl rfl (
      (jr_ite (fun h11 => r_sw (pc2 := 80) rfl (sw_yes ic_0 h11) (
      r_aload (pc2 := 81) rfl rfl rfl (
      r_getA (pc2 := 84) rfl rfl (sh_T hs rfl rfl) (sh_A hs rfl rfl) (
      r_getI (pc2 := 87) rfl rfl (sh_T hs rfl rfl) (
      r_iret rfl rfl))))) (fun h11 =>
      jr_ite (fun h12 => r_sw (pc2 := 88) rfl (sw_no ic_0 h3 (rgk rfl) h11 (sw_yes ic_4 h12)) (
      r_aload (pc2 := 89) rfl rfl rfl (
      r_getA (pc2 := 92) rfl rfl (sh_T hs rfl rfl) (sh_A hs rfl rfl) (
      r_getI (pc2 := 95) rfl rfl (sh_T hs rfl rfl) (
      r_iret rfl rfl))))) (fun h12 =>
      r_sw (pc2 := 96) rfl (sw_no ic_0 h3 (rgk rfl) h11 (sw_no ic_4 h3 (rgk rfl) h12 rfl)) (
      r_aload (pc2 := 97) rfl rfl rfl (
      r_getA (pc2 := 100) rfl rfl (sh_T hs rfl rfl) (sh_A hs rfl rfl) (
      r_getJ (pc2 := 103) rfl rfl (sh_T hs rfl rfl) (
      r_iload (pc2 := 104) rfl rfl rfl (
      r_ic (x := 1) (pc2 := 105) rfl ic_1 rfl (
      r_isub (pc2 := 106) rfl rfl (
      r_callSP (pc2 := 109) (args := [.long (gm_J g8 25 8), gv (a2 - 1)]) (st2 := []) rfl rfl rfl rfl rfl rfl (rf_cw_partOf hs (d + 3) g8 (gm_J g8 25 8) (a2 - 1) ) fun v10 => (
      r_iret rfl rfl)))))))))))))))))))))))))) (fun _ =>
      r_ic (x := -100000) (pc2 := 19) rfl ic_m100000 rfl (
      r_iret rfl rfl))))))))))))
theorem rf_cw_arrange {s : gm_S} {n m : Nat} (hs : gm_sh s n m) (d : Nat)  (g : gm_T) (a1 : Int)  : jr (eI s) (cw_arrange n g a1) (jm_cl jm_CD km_n (d + 7) 151 [.ref 0, gv a1] (gm_h s g)) := by
  unfold cw_arrange
  exact (r_ent (cd := cd_151) (n := 3) (L0 := [some (.ref 0), some (gv a1), none]) rfl rfl rfl rfl (
      r_iload (pc2 := 1) rfl rfl rfl (
      r_callSP (pc2 := 4) (args := [gv a1]) (st2 := []) rfl rfl rfl rfl rfl rfl (rf_jd_bitCount hs (d + 5) g a1 ) fun v1 => (
      r_istore (L2 := [some (.ref 0), some (gv a1), some (gv v1)]) (pc2 := 5) rfl rfl rfl (
      r_iload (pc2 := 6) rfl rfl rfl (
      r_aload (pc2 := 7) rfl rfl rfl (
      r_getA (pc2 := 10) rfl rfl (sh_T hs rfl rfl) (sh_A hs rfl rfl) (
      r_callVP (pc2 := 13) (args := [.ref 10]) (st2 := [gv a1]) rfl rfl rfl rfl rfl rfl (rc_of (sh_T hs rfl rfl)) (rf_cf_allBits hs (d + 5) g ) fun v2 => (
      r_ic (x := -1) (pc2 := 14) rfl ic_m1 rfl (
      r_ixor (pc2 := 15) rfl rfl (
      r_iand (pc2 := 16) rfl rfl (
      r_ifne (pc2 := 19) (t := 29) rfl (rg_toInt _) rfl (fun _ =>
      r_iload (pc2 := 20) rfl rfl rfl (
      r_ic (x := 2) (pc2 := 21) rfl ic_2 rfl (
      jr_g fun h3 => r_clt (pc2 := 24) (t := 29) rfl h3 (rgk rfl) rfl (fun _ =>
      r_ic (x := -2) (pc2 := 31) rfl ic_m2 rfl (
      r_iret rfl rfl)) (fun _ =>
      r_iload (pc2 := 25) rfl rfl rfl (
      r_ic (x := 3) (pc2 := 26) rfl ic_3 rfl (
      r_cle (pc2 := 29) (t := 32) rfl h3 (rgk rfl) rfl (fun _ =>
      r_aload (pc2 := 33) rfl rfl rfl (
      r_getA (pc2 := 36) rfl rfl (sh_T hs rfl rfl) (sh_A hs rfl rfl) (
      r_iload (pc2 := 37) rfl rfl rfl (
      r_callVI (pc2 := 40) (args := [.ref 27, gv a1]) (st2 := []) rfl rfl rfl rfl rfl rfl (rc_of (sh_T hs rfl rfl)) (rf_ca_solve hs d g a1 ) fun v4 g5 => (
      jr_g fun h6 => r_ifeq (pc2 := 43) (t := 53) rfl h6 rfl (fun _ =>
      r_ic (x := -5) (pc2 := 55) rfl ic_m5 rfl (
      r_iret rfl rfl)) (fun _ =>
      r_aload (pc2 := 44) rfl rfl rfl (
      r_getA (pc2 := 47) rfl rfl (sh_T hs rfl rfl) (sh_A hs rfl rfl) (
      r_getI (pc2 := 50) rfl rfl (sh_T hs rfl rfl) (
      r_goto (t := 55) rfl (
      r_iret rfl rfl)))))))))) (fun _ =>
      r_ic (x := -2) (pc2 := 31) rfl ic_m2 rfl (
      r_iret rfl rfl)))))))) (fun _ =>
      r_ic (x := -2) (pc2 := 31) rfl ic_m2 rfl (
      r_iret rfl rfl))))))))))))))
theorem rf_cw_arranged {s : gm_S} {n m : Nat} (hs : gm_sh s n m) (d : Nat)  (g : gm_T) (a1 : Int) (a2 : Int)  : jr (pI s g) (cw_arranged g a1 a2) (jm_cl jm_CD km_n (d + 3) 152 [.ref 0, gv a1, gv a2] (gm_h s g)) := by
  unfold cw_arranged
  exact (r_ent (cd := cd_152) (n := 3) (L0 := [some (.ref 0), some (gv a1), some (gv a2)]) rfl rfl rfl rfl (
      r_aload (pc2 := 1) rfl rfl rfl (
      r_iload (pc2 := 2) rfl rfl rfl (
      r_callVP (pc2 := 5) (args := [.ref 0, gv a1]) (st2 := []) rfl rfl rfl rfl rfl rfl (rc_of (sh_T hs rfl rfl)) (rf_cw_isBit hs (d + 1) g a1 ) fun v1 => (
      jr_g fun h2 => r_ifeq (pc2 := 8) (t := 19) rfl h2 rfl (fun _ =>
      r_ic (x := -100000) (pc2 := 21) rfl ic_m100000 rfl (
      r_iret rfl rfl)) (fun _ =>
      r_aload (pc2 := 9) rfl rfl rfl (
      r_getA (pc2 := 12) rfl rfl (sh_T hs rfl rfl) (sh_A hs rfl rfl) (
      r_iload (pc2 := 13) rfl rfl rfl (
      r_callVP (pc2 := 16) (args := [.ref 27, gv a1]) (st2 := []) rfl rfl rfl rfl rfl rfl (rc_of (sh_T hs rfl rfl)) (rf_ca_holds hs (d + 1) g a1 ) fun v3 => (
      jr_g fun h4 => r_ifne (pc2 := 19) (t := 22) rfl h4 rfl (fun _ =>
      r_ic (x := -100000) (pc2 := 21) rfl ic_m100000 rfl (
      r_iret rfl rfl)) (fun _ =>
      r_aload (pc2 := 23) rfl rfl rfl (
      r_getA (pc2 := 26) rfl rfl (sh_T hs rfl rfl) (sh_A hs rfl rfl) (
      r_iload (pc2 := 27) rfl rfl rfl (
      r_callVL (pc2 := 30) (args := [.ref 27, gv a1]) (st2 := []) rfl rfl rfl rfl rfl rfl (rc_of (sh_T hs rfl rfl)) (rf_ca_placeOf hs d g a1 ) fun v5 => (
      r_iload (pc2 := 31) rfl rfl rfl (
      r_callSP (pc2 := 34) (args := [.long v5, gv a2]) (st2 := []) rfl rfl rfl rfl rfl rfl (rf_cw_partOf hs d g v5 a2 ) fun v6 => (
      r_iret rfl rfl)))))))))))))))))
theorem rf_cw_ask {s : gm_S} {n m : Nat} (hs : gm_sh s n m) (d : Nat)  (g : gm_T)   : jr (eI s) (cw_ask n g ) (jm_cl jm_CD km_n (d + 8) 153 [.ref 0] (gm_h s g)) := by
  unfold cw_ask
  exact (r_ent (cd := cd_153) (n := 3) (L0 := [some (.ref 0), none, none]) rfl rfl rfl rfl (
      r_aload (pc2 := 1) rfl rfl rfl (
      r_getA (pc2 := 4) rfl rfl (sh_T hs rfl rfl) (sh_A hs rfl rfl) (
      r_ic (x := 118) (pc2 := 6) rfl ic_118 rfl (
      r_callVP (pc2 := 9) (args := [.ref 1, gv 118]) (st2 := []) rfl rfl rfl rfl rfl rfl (rc_of (sh_T hs rfl rfl)) (rf_ct_contains hs (d + 5) g 118 ) fun v1 => (
      r_b1 (R1 := (fun (q : Int) (c : Option jm_R) => c = jm_sup cd_153 (jm_cl jm_CD km_n (d + 7)) (23, [some (.ref 0), none, none], [gv q], gm_h s g))) (
      jr_g fun h3 => r_ifeq (pc2 := 12) (t := 22) rfl h3 rfl (fun _ =>
      r_ic (x := 0) (pc2 := 23) rfl ic_0 rfl (
      jr_leaf rfl)) (fun _ =>
      r_aload (pc2 := 13) rfl rfl rfl (
      r_getA (pc2 := 16) rfl rfl (sh_T hs rfl rfl) (sh_A hs rfl rfl) (
      r_callVP (pc2 := 19) (args := [.ref 22]) (st2 := []) rfl rfl rfl rfl rfl rfl (rc_of (sh_T hs rfl rfl)) (rf_cv_proved hs d g ) fun v4 => (
      r_goto (t := 23) rfl (
      jr_leaf rfl)))))) (fun v2 c h => match c, h with | _, rfl => (
      r_istore (L2 := [some (.ref 0), some (gv v2), none]) (pc2 := 24) rfl rfl rfl (
      r_aload (pc2 := 25) rfl rfl rfl (
      r_getA (pc2 := 28) rfl rfl (sh_T hs rfl rfl) (sh_A hs rfl rfl) (
      r_aload (pc2 := 29) rfl rfl rfl (
      r_getA (pc2 := 32) rfl rfl (sh_T hs rfl rfl) (sh_A hs rfl rfl) (
      r_aload (pc2 := 33) rfl rfl rfl (
      r_getA (pc2 := 36) rfl rfl (sh_T hs rfl rfl) (sh_A hs rfl rfl) (
      r_callVP (pc2 := 39) (args := [.ref 22]) (st2 := [.ref 1, .ref 40]) rfl rfl rfl rfl rfl rfl (rc_of (sh_T hs rfl rfl)) (rf_cv_standing hs (d + 5) g ) fun v5 => (
      r_iload (pc2 := 40) rfl rfl rfl (
      r_callVI (pc2 := 43) (args := [.ref 40, .ref 1, gv v5, gv v2]) (st2 := []) rfl rfl rfl rfl rfl rfl (rc_of (sh_T hs rfl rfl)) (rf_cq_readTape hs d g v5 v2 ) fun v6 g7 => (
      r_istore (L2 := [some (.ref 0), some (gv v2), some (gv v6)]) (pc2 := 44) rfl rfl rfl (
      r_aload (pc2 := 45) rfl rfl rfl (
      r_getA (pc2 := 48) rfl rfl (sh_T hs rfl rfl) (sh_A hs rfl rfl) (
      r_ic (x := 0) (pc2 := 49) rfl ic_0 rfl (
      r_putI (pc2 := 52) rfl rfl (sh_T hs rfl rfl) fun g8 => (
      r_iload (pc2 := 53) rfl rfl rfl (
      jr_g fun h9 => r_ifge (pc2 := 56) (t := 69) rfl h9 rfl (fun _ =>
      r_aload (pc2 := 57) rfl rfl rfl (
      r_getA (pc2 := 60) rfl rfl (sh_T hs rfl rfl) (sh_A hs rfl rfl) (
      r_getI (pc2 := 63) rfl rfl (sh_T hs rfl rfl) (
      r_callSP (pc2 := 66) (args := [gv (gm_I g8 40 10)]) (st2 := []) rfl rfl rfl rfl rfl rfl (rf_jd_bitCount hs (d + 6) g8 (gm_I g8 40 10) ) fun v10 => (
      r_goto (t := 73) rfl (
      r_iret rfl rfl)))))) (fun _ =>
      r_ic (x := -10) (pc2 := 71) rfl ic_m10 rfl (
      r_iload (pc2 := 72) rfl rfl rfl (
      r_isub (pc2 := 73) rfl rfl (
      r_iret rfl rfl))))))))))))))))))))))))))))
theorem rl_cw_asked_l24 {s : gm_S} {n m : Nat} (hs : gm_sh s n m) (d : Nat)  (g : gm_T) (c5 : Int)  : ∀ (fuel : Nat) (v6 : Int) (v7 : Int), jr (fun (q : Int) (c : Option jm_R) => ∃ (j9 : Option Value), jm_lg j9 = false ∧ c = jm_sup cd_154 (jm_cl jm_CD km_n (d + 1)) (41, [some (.ref 0), some (gv c5), some (gv q), j9], [], gm_h s g)) (cw_asked_l24 g c5 fuel v6 v7) (jm_sup cd_154 (jm_cl jm_CD km_n (d + 1)) (24, [some (.ref 0), some (gv c5), some (gv v6), some (gv v7)], [], gm_h s g)) := by
  intro fuel
  induction fuel with
  | zero => intros; exact jr_none
  | succ fuel ih =>
    intro v6 v7  
    unfold cw_asked_l24
    exact (
      r_iload (pc2 := 25) rfl rfl rfl (
      r_iload (pc2 := 26) rfl rfl rfl (
      jr_g fun h10 => r_cge (pc2 := 29) (t := 41) rfl h10.1 h10.2 rfl (fun _ =>
      r_iload (pc2 := 30) rfl rfl rfl (
      r_iload (pc2 := 31) rfl rfl rfl (
      r_ic (x := 1) (pc2 := 32) rfl ic_1 rfl (
      r_isub (pc2 := 33) rfl rfl (
      r_iand (pc2 := 34) rfl rfl (
      r_istoreL (L3 := fun v11 => [some (.ref 0), some (gv c5), some (gv v11), some (gv v7)]) (pc2 := 35) rfl rfl (fun _ => rfl) fun v11 => (
      r_iinc (kk := 1) (L2 := [some (.ref 0), some (gv c5), some (gv v11), some (gv (v7 + 1))]) (pc2 := 38) rfl ic_1 rfl rfl rfl (
      r_goto (t := 24) rfl (
      ih v11 (v7 + 1)))))))))) (fun _ =>
      jr_leaf ⟨_, rfl, rfl⟩))))
theorem rf_cw_asked {s : gm_S} {n m : Nat} (hs : gm_sh s n m) (d : Nat)  (g : gm_T) (a1 : Int)  : jr (pI s g) (cw_asked g a1) (jm_cl jm_CD km_n (d + 2) 154 [.ref 0, gv a1] (gm_h s g)) := by
  unfold cw_asked
  exact (r_ent (cd := cd_154) (n := 4) (L0 := [some (.ref 0), some (gv a1), none, none]) rfl rfl rfl rfl (
      r_aload (pc2 := 1) rfl rfl rfl (
      r_getA (pc2 := 4) rfl rfl (sh_T hs rfl rfl) (sh_A hs rfl rfl) (
      r_getI (pc2 := 7) rfl rfl (sh_T hs rfl rfl) (
      r_istoreL (L3 := fun v1 => [some (.ref 0), some (gv a1), some (gv v1), none]) (pc2 := 8) rfl rfl (fun _ => rfl) fun v1 => (
      r_iload (pc2 := 9) rfl rfl rfl (
      jr_g fun h2 => r_iflt (pc2 := 12) (t := 20) rfl h2 rfl (fun _ =>
      r_ic (x := -1) (pc2 := 21) rfl ic_m1 rfl (
      r_iret rfl rfl)) (fun _ =>
      r_iload (pc2 := 13) rfl rfl rfl (
      r_iload (pc2 := 14) rfl rfl rfl (
      r_callSP (pc2 := 17) (args := [gv v1]) (st2 := [gv a1]) rfl rfl rfl rfl rfl rfl (rf_jd_bitCount hs d g v1 ) fun v3 => (
      jr_g fun h4 => r_clt (pc2 := 20) (t := 22) rfl h2 h4 rfl (fun _ =>
      r_ic (x := 0) (pc2 := 23) rfl ic_0 rfl (
      r_istore (L2 := [some (.ref 0), some (gv a1), some (gv v1), some (gv 0)]) (pc2 := 24) rfl rfl rfl (
      r_b1 (rl_cw_asked_l24 hs d  g a1  fz v1 0  ) (fun v13 c h => match c, h with | _, ⟨j14, hj14, rfl⟩ => (
      r_iload (pc2 := 42) rfl rfl rfl (
      r_callSP (pc2 := 45) (args := [gv v13]) (st2 := []) rfl rfl rfl rfl rfl rfl (rf_jd_numberOfTrailingZeros hs d g v13 ) fun v15 => (
      r_iret rfl rfl))))))) (fun _ =>
      r_ic (x := -1) (pc2 := 21) rfl ic_m1 rfl (
      r_iret rfl rfl)))))))))))))
theorem rf_cw_isDay {s : gm_S} {n m : Nat} (hs : gm_sh s n m) (d : Nat)  (g : gm_T) (a0 : Int)  : jr (pI s g) (cw_isDay g a0) (jm_cl jm_CD km_n (d + 1) 167 [gv a0] (gm_h s g)) := by
  unfold cw_isDay
  exact (r_ent (cd := cd_167) (n := 1) (L0 := [some (gv a0)]) rfl rfl rfl rfl (
      r_iload (pc2 := 1) rfl rfl rfl (
      jr_g fun h1 => r_iflt (pc2 := 4) (t := 15) rfl h1 rfl (fun _ =>
      r_ic (x := 0) (pc2 := 16) rfl ic_0 rfl (
      r_zret rfl (by decide) rfl)) (fun _ =>
      r_iload (pc2 := 5) rfl rfl rfl (
      r_ic (x := 999) (pc2 := 8) rfl ic_999 rfl (
      r_cgt (pc2 := 11) (t := 15) rfl h1 (rgk rfl) rfl (fun _ =>
      r_ic (x := 1) (pc2 := 12) rfl ic_1 rfl (
      r_goto (t := 16) rfl (
      r_zret rfl (by decide) rfl))) (fun _ =>
      r_ic (x := 0) (pc2 := 16) rfl ic_0 rfl (
      r_zret rfl (by decide) rfl))))))))
theorem rf_cw_enter {s : gm_S} {n m : Nat} (hs : gm_sh s n m) (d : Nat)  (g : gm_T) (a1 : Int) (a2 : Int) (a3 : Int)  : jr (eI s) (cw_enter g a1 a2 a3) (jm_cl jm_CD km_n (d + 3) 155 [.ref 0, gv a1, gv a2, gv a3] (gm_h s g)) := by
  unfold cw_enter
  exact (r_ent (cd := cd_155) (n := 4) (L0 := [some (.ref 0), some (gv a1), some (gv a2), some (gv a3)]) rfl rfl rfl rfl (
      r_aload (pc2 := 1) rfl rfl rfl (
      r_iload (pc2 := 2) rfl rfl rfl (
      r_callVP (pc2 := 5) (args := [.ref 0, gv a1]) (st2 := []) rfl rfl rfl rfl rfl rfl (rc_of (sh_T hs rfl rfl)) (rf_cw_isBit hs (d + 1) g a1 ) fun v1 => (
      jr_g fun h2 => r_ifeq (pc2 := 8) (t := 19) rfl h2 rfl (fun _ =>
      r_ic (x := -1) (pc2 := 20) rfl ic_m1 rfl (
      r_iret rfl rfl)) (fun _ =>
      r_iload (pc2 := 9) rfl rfl rfl (
      r_ic (x := -1) (pc2 := 10) rfl ic_m1 rfl (
      jr_g fun h3 => r_clt (pc2 := 13) (t := 19) rfl h3 (rgk rfl) rfl (fun _ =>
      r_ic (x := -1) (pc2 := 20) rfl ic_m1 rfl (
      r_iret rfl rfl)) (fun _ =>
      r_iload (pc2 := 14) rfl rfl rfl (
      r_ic (x := 10) (pc2 := 16) rfl ic_10 rfl (
      r_clt (pc2 := 19) (t := 21) rfl h3 (rgk rfl) rfl (fun _ =>
      r_iload (pc2 := 22) rfl rfl rfl (
      r_callSP (pc2 := 25) (args := [gv a3]) (st2 := []) rfl rfl rfl rfl rfl rfl (rf_cw_isDay hs (d + 1) g a3 ) fun v4 => (
      jr_g fun h5 => r_ifne (pc2 := 28) (t := 31) rfl h5 rfl (fun _ =>
      r_ic (x := -2) (pc2 := 30) rfl ic_m2 rfl (
      r_iret rfl rfl)) (fun _ =>
      r_aload (pc2 := 32) rfl rfl rfl (
      r_getA (pc2 := 35) rfl rfl (sh_T hs rfl rfl) (sh_A hs rfl rfl) (
      r_callVP (pc2 := 38) (args := [.ref 32]) (st2 := []) rfl rfl rfl rfl rfl rfl (rc_of (sh_T hs rfl rfl)) (rf_cx_isFull hs (d + 1) g ) fun v6 => (
      jr_g fun h7 => r_ifeq (pc2 := 41) (t := 46) rfl h7 rfl (fun _ =>
      r_aload (pc2 := 47) rfl rfl rfl (
      r_getA (pc2 := 50) rfl rfl (sh_T hs rfl rfl) (sh_A hs rfl rfl) (
      r_iload (pc2 := 51) rfl rfl rfl (
      r_iload (pc2 := 52) rfl rfl rfl (
      r_iload (pc2 := 53) rfl rfl rfl (
      r_callVI (pc2 := 56) (args := [.ref 32, gv a1, gv a2, gv a3]) (st2 := []) rfl rfl rfl rfl rfl rfl (rc_of (sh_T hs rfl rfl)) (rf_cx_addEntry hs d g a1 a2 a3 ) fun v8 g9 => (
      r_iret rfl rfl))))))) (fun _ =>
      r_ic (x := -4) (pc2 := 43) rfl ic_m4 rfl (
      r_goto (t := 56) rfl (
      r_iret rfl rfl)))))))))) (fun _ =>
      r_ic (x := -1) (pc2 := 20) rfl ic_m1 rfl (
      r_iret rfl rfl)))))))))))))
theorem rf_cw_box {s : gm_S} {n m : Nat} (hs : gm_sh s n m) (d : Nat)  (g : gm_T) (a1 : Int) (a2 : Int) (a3 : Int)  : jr (pI s g) (cw_box g a1 a2 a3) (jm_cl jm_CD km_n (d + 2) 156 [.ref 0, gv a1, gv a2, gv a3] (gm_h s g)) := by
  unfold cw_box
  exact (r_ent (cd := cd_156) (n := 5) (L0 := [some (.ref 0), some (gv a1), some (gv a2), some (gv a3), none]) rfl rfl rfl rfl (
      r_aload (pc2 := 1) rfl rfl rfl (
      r_iload (pc2 := 2) rfl rfl rfl (
      r_callVP (pc2 := 5) (args := [.ref 0, gv a1]) (st2 := []) rfl rfl rfl rfl rfl rfl (rc_of (sh_T hs rfl rfl)) (rf_cw_isBit hs d g a1 ) fun v1 => (
      jr_g fun h2 => r_ifeq (pc2 := 8) (t := 23) rfl h2 rfl (fun _ =>
      r_ic (x := -1) (pc2 := 24) rfl ic_m1 rfl (
      r_iret rfl rfl)) (fun _ =>
      r_iload (pc2 := 9) rfl rfl rfl (
      jr_g fun h3 => r_iflt (pc2 := 12) (t := 23) rfl h3 rfl (fun _ =>
      r_ic (x := -1) (pc2 := 24) rfl ic_m1 rfl (
      r_iret rfl rfl)) (fun _ =>
      r_iload (pc2 := 13) rfl rfl rfl (
      r_aload (pc2 := 14) rfl rfl rfl (
      r_getA (pc2 := 17) rfl rfl (sh_T hs rfl rfl) (sh_A hs rfl rfl) (
      r_getI (pc2 := 20) rfl rfl (sh_T hs rfl rfl) (
      jr_g fun h4 => r_cle (pc2 := 23) (t := 25) rfl h3 h4 rfl (fun _ =>
      r_iload (pc2 := 26) rfl rfl rfl (
      r_callSP (pc2 := 29) (args := [gv a2]) (st2 := []) rfl rfl rfl rfl rfl rfl (rf_cw_isDay hs d g a2 ) fun v5 => (
      jr_g fun h6 => r_ifne (pc2 := 32) (t := 35) rfl h6 rfl (fun _ =>
      r_ic (x := -2) (pc2 := 34) rfl ic_m2 rfl (
      r_iret rfl rfl)) (fun _ =>
      r_aload (pc2 := 36) rfl rfl rfl (
      r_getA (pc2 := 39) rfl rfl (sh_T hs rfl rfl) (sh_A hs rfl rfl) (
      r_iload (pc2 := 40) rfl rfl rfl (
      r_iload (pc2 := 41) rfl rfl rfl (
      r_iload (pc2 := 42) rfl rfl rfl (
      r_callVP (pc2 := 45) (args := [.ref 32, gv a1, gv a2, gv a3]) (st2 := []) rfl rfl rfl rfl rfl rfl (rc_of (sh_T hs rfl rfl)) (rf_cx_boxOf hs d g a1 a2 a3 ) fun v7 => (
      r_istore (L2 := [some (.ref 0), some (gv a1), some (gv a2), some (gv a3), some (gv v7)]) (pc2 := 47) rfl rfl rfl (
      r_iload (pc2 := 49) rfl rfl rfl (
      jr_g fun h8 => r_ifge (pc2 := 52) (t := 57) rfl h8 rfl (fun _ =>
      r_ic (x := -5) (pc2 := 54) rfl ic_m5 rfl (
      r_goto (t := 59) rfl (
      r_iret rfl rfl))) (fun _ =>
      r_iload (pc2 := 59) rfl rfl rfl (
      r_iret rfl rfl)))))))))))))) (fun _ =>
      r_ic (x := -1) (pc2 := 24) rfl ic_m1 rfl (
      r_iret rfl rfl))))))))))))))
theorem rf_cw_isHand {s : gm_S} {n m : Nat} (hs : gm_sh s n m) (d : Nat)  (g : gm_T) (a0 : Int)  : jr (pI s g) (cw_isHand g a0) (jm_cl jm_CD km_n (d + 1) 168 [gv a0] (gm_h s g)) := by
  unfold cw_isHand
  exact (r_ent (cd := cd_168) (n := 1) (L0 := [some (gv a0)]) rfl rfl rfl rfl (
      r_iload (pc2 := 1) rfl rfl rfl (
      jr_g fun h1 => r_iflt (pc2 := 4) (t := 14) rfl h1 rfl (fun _ =>
      r_ic (x := 0) (pc2 := 15) rfl ic_0 rfl (
      r_zret rfl (by decide) rfl)) (fun _ =>
      r_iload (pc2 := 5) rfl rfl rfl (
      r_ic (x := 6) (pc2 := 7) rfl ic_6 rfl (
      r_cge (pc2 := 10) (t := 14) rfl h1 (rgk rfl) rfl (fun _ =>
      r_ic (x := 1) (pc2 := 11) rfl ic_1 rfl (
      r_goto (t := 15) rfl (
      r_zret rfl (by decide) rfl))) (fun _ =>
      r_ic (x := 0) (pc2 := 15) rfl ic_0 rfl (
      r_zret rfl (by decide) rfl))))))))
theorem rf_cw_skill {s : gm_S} {n m : Nat} (hs : gm_sh s n m) (d : Nat)  (g : gm_T) (a1 : Int) (a2 : Int) (a3 : Int)  : jr (eI s) (cw_skill g a1 a2 a3) (jm_cl jm_CD km_n (d + 2) 157 [.ref 0, gv a1, gv a2, gv a3] (gm_h s g)) := by
  unfold cw_skill
  exact (r_ent (cd := cd_157) (n := 5) (L0 := [some (.ref 0), some (gv a1), some (gv a2), some (gv a3), none]) rfl rfl rfl rfl (
      r_iload (pc2 := 1) rfl rfl rfl (
      r_callSP (pc2 := 4) (args := [gv a1]) (st2 := []) rfl rfl rfl rfl rfl rfl (rf_cw_isHand hs d g a1 ) fun v1 => (
      jr_g fun h2 => r_ifeq (pc2 := 7) (t := 14) rfl h2 rfl (fun _ =>
      r_ic (x := -1) (pc2 := 15) rfl ic_m1 rfl (
      r_iret rfl rfl)) (fun _ =>
      r_iload (pc2 := 8) rfl rfl rfl (
      r_callSP (pc2 := 11) (args := [gv a2]) (st2 := []) rfl rfl rfl rfl rfl rfl (rf_cw_isDigit hs d g a2 ) fun v3 => (
      jr_g fun h4 => r_ifne (pc2 := 14) (t := 16) rfl h4 rfl (fun _ =>
      r_ic (x := -1) (pc2 := 15) rfl ic_m1 rfl (
      r_iret rfl rfl)) (fun _ =>
      r_iload (pc2 := 17) rfl rfl rfl (
      r_callSP (pc2 := 20) (args := [gv a3]) (st2 := []) rfl rfl rfl rfl rfl rfl (rf_cw_isDigit hs d g a3 ) fun v5 => (
      jr_g fun h6 => r_ifne (pc2 := 23) (t := 26) rfl h6 rfl (fun _ =>
      r_ic (x := -2) (pc2 := 25) rfl ic_m2 rfl (
      r_iret rfl rfl)) (fun _ =>
      r_aload (pc2 := 27) rfl rfl rfl (
      r_getA (pc2 := 30) rfl rfl (sh_T hs rfl rfl) (sh_A hs rfl rfl) (
      r_getA (pc2 := 33) rfl rfl (sh_T hs rfl rfl) (sh_A hs rfl rfl) (
      r_ic (x := 10) (pc2 := 35) rfl ic_10 rfl (
      r_iload (pc2 := 36) rfl rfl rfl (
      r_imul (pc2 := 37) rfl rfl (
      r_iload (pc2 := 38) rfl rfl rfl (
      r_iadd (pc2 := 39) rfl rfl (
      jr_g fun h7 => r_iald (len := 60) (pc2 := 40) rfl rfl (sh_T hs rfl rfl) (sh_L hs rfl rfl) rfl h7 (
      r_istoreL (L3 := fun v8 => [some (.ref 0), some (gv a1), some (gv a2), some (gv a3), some (gv v8)]) (pc2 := 42) rfl rfl (fun _ => rfl) fun v8 => (
      r_aload (pc2 := 43) rfl rfl rfl (
      r_getA (pc2 := 46) rfl rfl (sh_T hs rfl rfl) (sh_A hs rfl rfl) (
      r_getA (pc2 := 49) rfl rfl (sh_T hs rfl rfl) (sh_A hs rfl rfl) (
      r_ic (x := 10) (pc2 := 51) rfl ic_10 rfl (
      r_iload (pc2 := 52) rfl rfl rfl (
      r_imul (pc2 := 53) rfl rfl (
      r_iload (pc2 := 54) rfl rfl rfl (
      r_iadd (pc2 := 55) rfl rfl (
      r_iload (pc2 := 56) rfl rfl rfl (
      r_iast (len := 60) (pc2 := 57) rfl rfl (sh_T hs rfl rfl) (sh_L hs rfl rfl) rfl h7 fun g9 => (
      r_iload (pc2 := 59) rfl rfl rfl (
      r_iret rfl rfl))))))))))))))))))))))))))))))))
theorem rf_cw_share {s : gm_S} {n m : Nat} (hs : gm_sh s n m) (d : Nat)  (g : gm_T) (a1 : Int)  : jr (eI s) (cw_share n g a1) (jm_cl jm_CD km_n (d + 5) 158 [.ref 0, gv a1] (gm_h s g)) := by
  unfold cw_share
  exact (r_ent (cd := cd_158) (n := 3) (L0 := [some (.ref 0), some (gv a1), none]) rfl rfl rfl rfl (
      r_iload (pc2 := 1) rfl rfl rfl (
      r_ic (x := -1) (pc2 := 2) rfl ic_m1 rfl (
      jr_g fun h1 => r_ceq (pc2 := 5) (t := 15) rfl h1 (rgk rfl) rfl (fun _ =>
      r_aload (pc2 := 16) rfl rfl rfl (
      r_getA (pc2 := 19) rfl rfl (sh_T hs rfl rfl) (sh_A hs rfl rfl) (
      r_aload (pc2 := 20) rfl rfl rfl (
      r_getA (pc2 := 23) rfl rfl (sh_T hs rfl rfl) (sh_A hs rfl rfl) (
      r_callVI (pc2 := 26) (args := [.ref 32, .ref 10]) (st2 := []) rfl rfl rfl rfl rfl rfl (rc_of (sh_T hs rfl rfl)) (rf_cx_shareOut hs d g ) fun v2 g3 => (
      r_istore (L2 := [some (.ref 0), some (gv a1), some (gv v2)]) (pc2 := 27) rfl rfl rfl (
      r_iload (pc2 := 28) rfl rfl rfl (
      r_ic (x := -1) (pc2 := 29) rfl ic_m1 rfl (
      r_cne (pc2 := 32) (t := 34) rfl h1 (rgk rfl) rfl (fun _ =>
      r_iload (pc2 := 33) rfl rfl rfl (
      r_iret rfl rfl)) (fun _ =>
      r_aload (pc2 := 35) rfl rfl rfl (
      r_getA (pc2 := 38) rfl rfl (sh_T hs rfl rfl) (sh_A hs rfl rfl) (
      r_getA (pc2 := 41) rfl rfl (sh_T hs rfl rfl) (sh_A hs rfl rfl) (
      r_iload (pc2 := 42) rfl rfl rfl (
      jr_g fun h4 => r_iald (len := 6) (pc2 := 43) rfl rfl (sh_T hs rfl rfl) (sh_L hs rfl rfl) rfl h4 (
      jr_g fun h5 => r_ifge (pc2 := 46) (t := 51) rfl h5 rfl (fun _ =>
      r_ic (x := -5) (pc2 := 48) rfl ic_m5 rfl (
      r_goto (t := 60) rfl (
      r_iret rfl rfl))) (fun _ =>
      r_aload (pc2 := 52) rfl rfl rfl (
      r_getA (pc2 := 55) rfl rfl (sh_T hs rfl rfl) (sh_A hs rfl rfl) (
      r_getA (pc2 := 58) rfl rfl (sh_T hs rfl rfl) (sh_A hs rfl rfl) (
      r_iload (pc2 := 59) rfl rfl rfl (
      r_iald (len := 6) (pc2 := 60) rfl rfl (sh_T hs rfl rfl) (sh_L hs rfl rfl) rfl h4 (
      r_iret rfl rfl))))))))))))))))))))) (fun _ =>
      r_iload (pc2 := 6) rfl rfl rfl (
      r_callSP (pc2 := 9) (args := [gv a1]) (st2 := []) rfl rfl rfl rfl rfl rfl (rf_cw_isHand hs (d + 3) g a1 ) fun v6 => (
      jr_g fun h7 => r_ifne (pc2 := 12) (t := 15) rfl h7 rfl (fun _ =>
      r_ic (x := -100000) (pc2 := 14) rfl ic_m100000 rfl (
      r_iret rfl rfl)) (fun _ =>
      r_aload (pc2 := 16) rfl rfl rfl (
      r_getA (pc2 := 19) rfl rfl (sh_T hs rfl rfl) (sh_A hs rfl rfl) (
      r_aload (pc2 := 20) rfl rfl rfl (
      r_getA (pc2 := 23) rfl rfl (sh_T hs rfl rfl) (sh_A hs rfl rfl) (
      r_callVI (pc2 := 26) (args := [.ref 32, .ref 10]) (st2 := []) rfl rfl rfl rfl rfl rfl (rc_of (sh_T hs rfl rfl)) (rf_cx_shareOut hs d g ) fun v8 g9 => (
      r_istore (L2 := [some (.ref 0), some (gv a1), some (gv v8)]) (pc2 := 27) rfl rfl rfl (
      r_iload (pc2 := 28) rfl rfl rfl (
      r_ic (x := -1) (pc2 := 29) rfl ic_m1 rfl (
      r_cne (pc2 := 32) (t := 34) rfl h1 (rgk rfl) rfl (fun _ =>
      r_iload (pc2 := 33) rfl rfl rfl (
      r_iret rfl rfl)) (fun _ =>
      r_aload (pc2 := 35) rfl rfl rfl (
      r_getA (pc2 := 38) rfl rfl (sh_T hs rfl rfl) (sh_A hs rfl rfl) (
      r_getA (pc2 := 41) rfl rfl (sh_T hs rfl rfl) (sh_A hs rfl rfl) (
      r_iload (pc2 := 42) rfl rfl rfl (
      jr_g fun h10 => r_iald (len := 6) (pc2 := 43) rfl rfl (sh_T hs rfl rfl) (sh_L hs rfl rfl) rfl h10 (
      jr_g fun h11 => r_ifge (pc2 := 46) (t := 51) rfl h11 rfl (fun _ =>
      r_ic (x := -5) (pc2 := 48) rfl ic_m5 rfl (
      r_goto (t := 60) rfl (
      r_iret rfl rfl))) (fun _ =>
      r_aload (pc2 := 52) rfl rfl rfl (
      r_getA (pc2 := 55) rfl rfl (sh_T hs rfl rfl) (sh_A hs rfl rfl) (
      r_getA (pc2 := 58) rfl rfl (sh_T hs rfl rfl) (sh_A hs rfl rfl) (
      r_iload (pc2 := 59) rfl rfl rfl (
      r_iald (len := 6) (pc2 := 60) rfl rfl (sh_T hs rfl rfl) (sh_L hs rfl rfl) rfl h10 (
      r_iret rfl rfl))))))))))))))))))))))))))))
theorem rf_cw_count {s : gm_S} {n m : Nat} (hs : gm_sh s n m) (d : Nat)  (g : gm_T) (a1 : Int)  : jr (pI s g) (cw_count n g a1) (jm_cl jm_CD km_n (d + 8) 159 [.ref 0, gv a1] (gm_h s g)) := by
  unfold cw_count
  exact (r_ent (cd := cd_159) (n := 2) (L0 := [some (.ref 0), some (gv a1)]) rfl rfl rfl rfl (
      r_iload (pc2 := 1) rfl rfl rfl (
      jr_g fun h1 => (jr_ite (fun h2 => r_sw (pc2 := 52) rfl (sw_yes ic_0 h2) (
      r_aload (pc2 := 53) rfl rfl rfl (
      r_getA (pc2 := 56) rfl rfl (sh_T hs rfl rfl) (sh_A hs rfl rfl) (
      r_getI (pc2 := 59) rfl rfl (sh_T hs rfl rfl) (
      r_iret rfl rfl))))) (fun h2 =>
      jr_ite (fun h3 => r_sw (pc2 := 60) rfl (sw_no ic_0 h1 (rgk rfl) h2 (sw_yes ic_1 h3)) (
      r_aload (pc2 := 61) rfl rfl rfl (
      r_getA (pc2 := 64) rfl rfl (sh_T hs rfl rfl) (sh_A hs rfl rfl) (
      r_getJ (pc2 := 67) rfl rfl (sh_T hs rfl rfl) (
      r_callSP (pc2 := 70) (args := [.long (gm_J g 14 5)]) (st2 := []) rfl rfl rfl rfl rfl rfl (rf_je_bitCount hs (d + 6) g (gm_J g 14 5) ) fun v17 => (
      r_iret rfl rfl)))))) (fun h3 =>
      jr_ite (fun h4 => r_sw (pc2 := 71) rfl (sw_no ic_0 h1 (rgk rfl) h2 (sw_no ic_1 h1 (rgk rfl) h3 (sw_yes ic_2 h4))) (
      r_aload (pc2 := 72) rfl rfl rfl (
      r_getA (pc2 := 75) rfl rfl (sh_T hs rfl rfl) (sh_A hs rfl rfl) (
      r_aload (pc2 := 76) rfl rfl rfl (
      r_getA (pc2 := 79) rfl rfl (sh_T hs rfl rfl) (sh_A hs rfl rfl) (
      r_getI (pc2 := 82) rfl rfl (sh_T hs rfl rfl) (
      r_callVP (pc2 := 85) (args := [.ref 14, gv (gm_I g 10 1)]) (st2 := []) rfl rfl rfl rfl rfl rfl (rc_of (sh_T hs rfl rfl)) (rf_cj_countGroups hs (d + 5) g (gm_I g 10 1) ) fun v16 => (
      r_iret rfl rfl)))))))) (fun h4 =>
      jr_ite (fun h5 => r_sw (pc2 := 86) rfl (sw_no ic_0 h1 (rgk rfl) h2 (sw_no ic_1 h1 (rgk rfl) h3 (sw_no ic_2 h1 (rgk rfl) h4 (sw_yes ic_3 h5)))) (
      r_aload (pc2 := 87) rfl rfl rfl (
      r_getA (pc2 := 90) rfl rfl (sh_T hs rfl rfl) (sh_A hs rfl rfl) (
      r_callVP (pc2 := 93) (args := [.ref 22]) (st2 := []) rfl rfl rfl rfl rfl rfl (rc_of (sh_T hs rfl rfl)) (rf_cv_standing hs (d + 5) g ) fun v14 => (
      r_callSP (pc2 := 96) (args := [gv v14]) (st2 := []) rfl rfl rfl rfl rfl rfl (rf_jd_bitCount hs (d + 6) g v14 ) fun v15 => (
      r_iret rfl rfl)))))) (fun h5 =>
      jr_ite (fun h6 => r_sw (pc2 := 97) rfl (sw_no ic_0 h1 (rgk rfl) h2 (sw_no ic_1 h1 (rgk rfl) h3 (sw_no ic_2 h1 (rgk rfl) h4 (sw_no ic_3 h1 (rgk rfl) h5 (sw_yes ic_4 h6))))) (
      r_aload (pc2 := 98) rfl rfl rfl (
      r_getA (pc2 := 101) rfl rfl (sh_T hs rfl rfl) (sh_A hs rfl rfl) (
      r_getI (pc2 := 104) rfl rfl (sh_T hs rfl rfl) (
      r_callSP (pc2 := 107) (args := [gv (gm_I g 22 3)]) (st2 := []) rfl rfl rfl rfl rfl rfl (rf_jd_bitCount hs (d + 6) g (gm_I g 22 3) ) fun v13 => (
      r_iret rfl rfl)))))) (fun h6 =>
      jr_ite (fun h7 => r_sw (pc2 := 108) rfl (sw_no ic_0 h1 (rgk rfl) h2 (sw_no ic_1 h1 (rgk rfl) h3 (sw_no ic_2 h1 (rgk rfl) h4 (sw_no ic_3 h1 (rgk rfl) h5 (sw_no ic_4 h1 (rgk rfl) h6 (sw_yes ic_5 h7)))))) (
      r_aload (pc2 := 109) rfl rfl rfl (
      r_getA (pc2 := 112) rfl rfl (sh_T hs rfl rfl) (sh_A hs rfl rfl) (
      r_callVP (pc2 := 115) (args := [.ref 22]) (st2 := []) rfl rfl rfl rfl rfl rfl (rc_of (sh_T hs rfl rfl)) (rf_cv_proved hs d g ) fun v11 => (
      r_callSP (pc2 := 118) (args := [gv v11]) (st2 := []) rfl rfl rfl rfl rfl rfl (rf_jd_bitCount hs (d + 6) g v11 ) fun v12 => (
      r_iret rfl rfl)))))) (fun h7 =>
      jr_ite (fun h8 => r_sw (pc2 := 119) rfl (sw_no ic_0 h1 (rgk rfl) h2 (sw_no ic_1 h1 (rgk rfl) h3 (sw_no ic_2 h1 (rgk rfl) h4 (sw_no ic_3 h1 (rgk rfl) h5 (sw_no ic_4 h1 (rgk rfl) h6 (sw_no ic_5 h1 (rgk rfl) h7 (sw_yes ic_6 h8))))))) (
      r_aload (pc2 := 120) rfl rfl rfl (
      r_getA (pc2 := 123) rfl rfl (sh_T hs rfl rfl) (sh_A hs rfl rfl) (
      r_getI (pc2 := 126) rfl rfl (sh_T hs rfl rfl) (
      r_iret rfl rfl))))) (fun h8 =>
      jr_ite (fun h9 => r_sw (pc2 := 127) rfl (sw_no ic_0 h1 (rgk rfl) h2 (sw_no ic_1 h1 (rgk rfl) h3 (sw_no ic_2 h1 (rgk rfl) h4 (sw_no ic_3 h1 (rgk rfl) h5 (sw_no ic_4 h1 (rgk rfl) h6 (sw_no ic_5 h1 (rgk rfl) h7 (sw_no ic_6 h1 (rgk rfl) h8 (sw_yes ic_7 h9)))))))) (
      r_aload (pc2 := 128) rfl rfl rfl (
      r_getA (pc2 := 131) rfl rfl (sh_T hs rfl rfl) (sh_A hs rfl rfl) (
      r_getI (pc2 := 134) rfl rfl (sh_T hs rfl rfl) (
      r_iret rfl rfl))))) (fun h9 =>
      jr_ite (fun h10 => r_sw (pc2 := 135) rfl (sw_no ic_0 h1 (rgk rfl) h2 (sw_no ic_1 h1 (rgk rfl) h3 (sw_no ic_2 h1 (rgk rfl) h4 (sw_no ic_3 h1 (rgk rfl) h5 (sw_no ic_4 h1 (rgk rfl) h6 (sw_no ic_5 h1 (rgk rfl) h7 (sw_no ic_6 h1 (rgk rfl) h8 (sw_no ic_7 h1 (rgk rfl) h9 (sw_yes ic_8 h10))))))))) (
      r_aload (pc2 := 136) rfl rfl rfl (
      r_getA (pc2 := 139) rfl rfl (sh_T hs rfl rfl) (sh_A hs rfl rfl) (
      r_getI (pc2 := 142) rfl rfl (sh_T hs rfl rfl) (
      r_iret rfl rfl))))) (fun h10 =>
      r_sw (pc2 := 143) rfl (sw_no ic_0 h1 (rgk rfl) h2 (sw_no ic_1 h1 (rgk rfl) h3 (sw_no ic_2 h1 (rgk rfl) h4 (sw_no ic_3 h1 (rgk rfl) h5 (sw_no ic_4 h1 (rgk rfl) h6 (sw_no ic_5 h1 (rgk rfl) h7 (sw_no ic_6 h1 (rgk rfl) h8 (sw_no ic_7 h1 (rgk rfl) h9 (sw_no ic_8 h1 (rgk rfl) h10 rfl))))))))) (
      r_ic (x := -1) (pc2 := 144) rfl ic_m1 rfl (
      r_iret rfl rfl)))))))))))))))
