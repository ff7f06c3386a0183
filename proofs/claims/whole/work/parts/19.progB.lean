def nm (x : Int) : Int := (Int32.ofInt x).toInt
section
variable {α : Type} {e : α → Option jm_R → Prop} {A : Option α} {cd : Nat → jm_O} {call : jm_C} {pc pc2 : Nat} {L : jm_Lo} {st : List Value} {h : jm_H}
theorem r_iaddN {x y : Int} (hc : cd pc = op_ibin (fun x y => x + y)) (hp : pc + 1 = pc2) (k : jr e A (jm_sup cd call (pc2, L, gv (nm (x + y)) :: st, h))) : jr e A (jm_sup cd call (pc, L, gv y :: gv x :: st, h)) := r_iadd hc hp (by
  unfold nm gv at k
  rw [Int32.ofInt_toInt] at k
  exact k)
theorem r_isubN {x y : Int} (hc : cd pc = op_ibin (fun x y => x - y)) (hp : pc + 1 = pc2) (k : jr e A (jm_sup cd call (pc2, L, gv (nm (x - y)) :: st, h))) : jr e A (jm_sup cd call (pc, L, gv y :: gv x :: st, h)) := r_isub hc hp (by
  unfold nm gv at k
  rw [Int32.ofInt_toInt] at k
  exact k)
theorem r_imulN {x y : Int} (hc : cd pc = op_ibin (fun x y => x * y)) (hp : pc + 1 = pc2) (k : jr e A (jm_sup cd call (pc2, L, gv (nm (x * y)) :: st, h))) : jr e A (jm_sup cd call (pc, L, gv y :: gv x :: st, h)) := r_imul hc hp (by
  unfold nm gv at k
  rw [Int32.ofInt_toInt] at k
  exact k)
theorem r_inegN {x : Int} (hc : cd pc = op_iun (fun x => -x)) (hp : pc + 1 = pc2) (k : jr e A (jm_sup cd call (pc2, L, gv (nm (-x)) :: st, h))) : jr e A (jm_sup cd call (pc, L, gv x :: st, h)) := r_ineg hc hp (by
  unfold nm gv at k
  rw [Int32.ofInt_toInt] at k
  exact k)
end
theorem ic_m20 : (-20 : Int32) = Int32.ofInt (-20) := by decide +kernel
theorem ic_m6 : (-6 : Int32) = Int32.ofInt (-6) := by decide +kernel
theorem ic_19 : (19 : Int32) = Int32.ofInt (19) := by decide +kernel
theorem ic_1023 : (1023 : Int32) = Int32.ofInt (1023) := by decide +kernel
theorem ic_1600 : (1600 : Int32) = Int32.ofInt (1600) := by decide +kernel
theorem ic_6144 : (6144 : Int32) = Int32.ofInt (6144) := by decide +kernel
noncomputable def md_in (g : gm_T) (a0 : Int) (a1 : Int) (a2 : Int) : Option (Int) :=
    jg (rg a0 ∧ rg a1)
    (if a0 < a1 then
    (some 0)
    else
    (jg (rg a2)
    (if a0 ≤ a2 then
    (some 1)
    else
    (some 0))))
noncomputable def md_isBit (g : gm_T) (a1 : Int) : Option (Int) :=
    jb1 (md_in g a1 0 ((gm_I g 44 3) - 1)) fun (v1 : Int) =>
    jg (v1 = 0 ∨ v1 = 1) (some v1)
noncomputable def md_isEdge (g : gm_T) (a1 : Int) (a2 : Int) : Option (Int) :=
    jb1 (md_isBit g a1) fun (v1 : Int) =>
    jg (rg v1)
    (if v1 = 0 then
    (some 0)
    else
    (jg (0 ≤ a1 ∧ a1 < 30)
    (jb1 (md_in g a2 0 ((gm_I g 46 a1.toNat) - 1)) fun (v4 : Int) =>
    jg (rg v4)
    (if v4 = 0 then
    (some 0)
    else
    (some 1)))))
noncomputable def md_feed_l33 (c5 : Int64) : Nat → Int → gm_T → Option (gm_T)
  | 0, _, _ => none
  | fuel + 1, v7, g8 =>
    jg (rg v7)
    (if v7 < 0 then
    (some g8)
    else
    (jg (0 ≤ (gm_I g8 44 2) ∧ (gm_I g8 44 2) < 240)
    (jl (gm_wI g8 45 ((gm_I g8 44 2)).toNat (lI ((lSr c5 (8 * v7)) &&& 255))) fun (g12 : gm_T) =>
    jl (gm_wI g12 44 2 ((gm_I g12 44 2) + 1)) fun (g14 : gm_T) =>
    md_feed_l33 c5 fuel (v7 + (-1)) g14)))
noncomputable def md_feed (g : gm_T) (a1 : Int64) (a3 : Int) : Option (Int × gm_T) :=
    jb1 (md_in g a3 1 8) fun (v1 : Int) =>
    jg (rg v1)
    (if v1 = 0 then
    (some ((-2), g))
    else
    (jg (rg ((gm_I g 44 2) + a3))
    (if ((gm_I g 44 2) + a3) ≤ 240 then
    (jl ((a3 - 1)) fun (v4 : Int) =>
    jb1 (md_feed_l33 a1 fz v4 g) fun (g18 : gm_T) =>
    some ((gm_I g18 44 2), g18))
    else
    (some ((-4), g)))))
noncomputable def md_byteAt (g : gm_T)  : Option (Int) :=
    jg (rg (gm_I g 44 40) ∧ rg (gm_I g 44 2))
    (if (gm_I g 44 40) < (gm_I g 44 2) then
    (jg (0 ≤ (gm_I g 44 40) ∧ (gm_I g 44 40) < 240)
    (some (gm_I g 45 ((gm_I g 44 40)).toNat)))
    else
    (some (-1)))
noncomputable def md_isDigit (g : gm_T)  : Option (Int) :=
    jb1 (md_byteAt g) fun (v1 : Int) =>
    jb1 (md_in g v1 48 57) fun (v2 : Int) =>
    jg (v2 = 0 ∨ v2 = 1) (some v2)
noncomputable def md_must (g : gm_T) (a1 : Int) : Option (gm_T) :=
    jb1 (
    jg (rg (gm_I g 44 41))
    (if (gm_I g 44 41) = 0 then
    (jb1 (md_byteAt g) fun (v3 : Int) =>
    jg (rg v3 ∧ rg a1)
    (if v3 = a1 then
    (some 0)
    else
    (some 1)))
    else
    (some 1))) fun (v1 : Int) =>
    jg (v1 = 0 ∨ v1 = 1)
    (jl (gm_wI g 44 41 v1) fun (g5 : gm_T) =>
    jg (rg (gm_I g5 44 41))
    (if (gm_I g5 44 41) = 0 then
    (jl (gm_wI g5 44 40 ((gm_I g5 44 40) + 1)) fun (g7 : gm_T) =>
    some g7)
    else
    (jl (gm_wI g5 44 40 ((gm_I g5 44 40) + 0)) fun (g8 : gm_T) =>
    some g8)))
noncomputable def md_digit (g : gm_T)  : Option (Int × gm_T) :=
    jb1 (
    jg (rg (gm_I g 44 41))
    (if (gm_I g 44 41) = 0 then
    (jb1 (md_isDigit g) fun (v3 : Int) =>
    jg (rg v3)
    (if v3 = 0 then
    (some 1)
    else
    (some 0)))
    else
    (some 1))) fun (v1 : Int) =>
    jg (v1 = 0 ∨ v1 = 1)
    (jl (gm_wI g 44 41 v1) fun (g5 : gm_T) =>
    jb1 (
    jg (rg (gm_I g5 44 41))
    (if (gm_I g5 44 41) = 0 then
    (jb1 (md_byteAt g5) fun (v8 : Int) =>
    some (v8 - 48))
    else
    (some 0))) fun (v6 : Int) =>
    jg (rg (gm_I g5 44 41))
    (if (gm_I g5 44 41) = 0 then
    (jl (gm_wI g5 44 40 ((gm_I g5 44 40) + 1)) fun (g10 : gm_T) =>
    some (v6, g10))
    else
    (jl (gm_wI g5 44 40 ((gm_I g5 44 40) + 0)) fun (g11 : gm_T) =>
    some (v6, g11))))
noncomputable def md_place (g : gm_T)  : Option (Int × gm_T) :=
    jb1 (
    jg (rg (gm_I g 44 41))
    (if (gm_I g 44 41) = 0 then
    (jb1 (md_byteAt g) fun (v3 : Int) =>
    jg (rg v3)
    (if v3 = 45 then
    (some 1)
    else
    (some 0)))
    else
    (some 0))) fun (v1 : Int) =>
    jb1 (
    jg (rg v1)
    (if v1 = 0 then
    (some 0)
    else
    (some 1))) fun (v5 : Int) =>
    jl (gm_wI g 44 40 ((gm_I g 44 40) + v5)) fun (g7 : gm_T) =>
    jb1 (
    jg (rg (gm_I g7 44 41))
    (if (gm_I g7 44 41) = 0 then
    (jg (rg v1)
    (if v1 = 0 then
    (some 0)
    else
    (jb1 (md_byteAt g7) fun (v11 : Int) =>
    jg (rg v11)
    (if v11 = 48 then
    (some 1)
    else
    (some 0)))))
    else
    (some 1))) fun (v8 : Int) =>
    jg (v8 = 0 ∨ v8 = 1)
    (jl (gm_wI g7 44 41 v8) fun (g13 : gm_T) =>
    jb2 (md_digit g13) fun (v14 : Int) (g15 : gm_T) =>
    jb2 (
    jg (rg (gm_I g15 44 41))
    (if (gm_I g15 44 41) = 0 then
    (jg (rg v14)
    (if v14 ≤ 0 then
    (some (v14, g15))
    else
    (jb1 (md_isDigit g15) fun (v21 : Int) =>
    jg (rg v21)
    (if v21 = 0 then
    (some (v14, g15))
    else
    (jb1 (md_byteAt g15) fun (v23 : Int) =>
    jl ((((10 * v14) + v23) - 48)) fun (v24 : Int) =>
    jb1 (
    jg (rg v24)
    (if v24 ≤ 20 then
    (some 0)
    else
    (some 1))) fun (v25 : Int) =>
    jg (v25 = 0 ∨ v25 = 1)
    (jl (gm_wI g15 44 41 v25) fun (g27 : gm_T) =>
    jg (rg (gm_I g27 44 41))
    (if (gm_I g27 44 41) = 0 then
    (jl (gm_wI g27 44 40 ((gm_I g27 44 40) + 1)) fun (g29 : gm_T) =>
    some (v24, g29))
    else
    (jl (gm_wI g27 44 40 ((gm_I g27 44 40) + 0)) fun (g30 : gm_T) =>
    some (v24, g30)))))))))
    else
    (some (v14, g15)))) fun (v16 : Int) (g18 : gm_T) =>
    jg (rg v1)
    (if v1 = 0 then
    (some (v16, g18))
    else
    (some ((-v16), g18))))
noncomputable def md_readsCorner (g : gm_T)  : Option (gm_T) :=
    jg (0 ≤ (gm_I g 44 3) ∧ (gm_I g 44 3) < 30)
    (jl (((8 * (gm_I g 44 3)) + (gm_I g 46 ((gm_I g 44 3)).toNat))) fun (v2 : Int) =>
    jb2 (md_place g) fun (v3 : Int) (g4 : gm_T) =>
    jg (0 ≤ v2 ∧ v2 < 240)
    (jl (gm_wI g4 47 v2.toNat v3) fun (g5 : gm_T) =>
    jb1 (md_must g5 44) fun (g7 : gm_T) =>
    jb2 (md_place g7) fun (v8 : Int) (g9 : gm_T) =>
    jl (gm_wI g9 48 v2.toNat v8) fun (g10 : gm_T) =>
    jb1 (md_must g10 58) fun (g11 : gm_T) =>
    jb2 (md_digit g11) fun (v12 : Int) (g13 : gm_T) =>
    jl (gm_wI g13 49 v2.toNat v12) fun (g14 : gm_T) =>
    jg (0 ≤ (gm_I g14 44 3) ∧ (gm_I g14 44 3) < 30)
    (jl (gm_wI g14 46 ((gm_I g14 44 3)).toNat ((gm_I g14 46 ((gm_I g14 44 3)).toNat) + 1)) fun (g16 : gm_T) =>
    some g16)))
noncomputable def md_readsSpot (g : gm_T)  : Option (gm_T) :=
    jg (0 ≤ (gm_I g 44 3) ∧ (gm_I g 44 3) < 30)
    (jl (((5 * (gm_I g 44 3)) + (gm_I g 50 ((gm_I g 44 3)).toNat))) fun (v2 : Int) =>
    jb1 (md_must g 124) fun (g3 : gm_T) =>
    jb2 (md_place g3) fun (v4 : Int) (g5 : gm_T) =>
    jg (0 ≤ v2 ∧ v2 < 150)
    (jl (gm_wI g5 51 v2.toNat v4) fun (g6 : gm_T) =>
    jb1 (md_must g6 44) fun (g8 : gm_T) =>
    jb2 (md_place g8) fun (v9 : Int) (g10 : gm_T) =>
    jl (gm_wI g10 52 v2.toNat v9) fun (g11 : gm_T) =>
    jb1 (md_must g11 61) fun (g12 : gm_T) =>
    jb2 (md_digit g12) fun (v13 : Int) (g14 : gm_T) =>
    jl (gm_wI g14 53 v2.toNat v13) fun (g15 : gm_T) =>
    jg (0 ≤ (gm_I g15 44 3) ∧ (gm_I g15 44 3) < 30)
    (jl (gm_wI g15 50 ((gm_I g15 44 3)).toNat ((gm_I g15 50 ((gm_I g15 44 3)).toNat) + 1)) fun (g17 : gm_T) =>
    some g17)))
noncomputable def md_readsBit_l34  : Nat → gm_T → Option (gm_T)
  | 0, _ => none
  | fuel + 1, g8 =>
    jg (rg (gm_I g8 44 41))
    (if (gm_I g8 44 41) = 0 then
    (jg (0 ≤ (gm_I g8 44 3) ∧ (gm_I g8 44 3) < 30)
    (jg (rg (gm_I g8 46 ((gm_I g8 44 3)).toNat))
    (if (gm_I g8 46 ((gm_I g8 44 3)).toNat) < 8 then
    (if (gm_I g8 46 ((gm_I g8 44 3)).toNat) < 3 then
    (jb1 (md_must g8 59) fun (g13 : gm_T) =>
    jg (rg (gm_I g13 44 41))
    (if (gm_I g13 44 41) = 0 then
    (jb1 (md_readsCorner g13) fun (g15 : gm_T) =>
    md_readsBit_l34  fuel g15)
    else
    (md_readsBit_l34  fuel g13)))
    else
    (jb1 (md_byteAt g8) fun (v16 : Int) =>
    jg (rg v16)
    (if v16 = 59 then
    (jb1 (md_must g8 59) fun (g18 : gm_T) =>
    jg (rg (gm_I g18 44 41))
    (if (gm_I g18 44 41) = 0 then
    (jb1 (md_readsCorner g18) fun (g20 : gm_T) =>
    md_readsBit_l34  fuel g20)
    else
    (md_readsBit_l34  fuel g18)))
    else
    (some g8))))
    else
    (some g8))))
    else
    (some g8))
noncomputable def md_readsBit_l97  : Nat → gm_T → Option (gm_T)
  | 0, _ => none
  | fuel + 1, g22 =>
    jg (rg (gm_I g22 44 41))
    (if (gm_I g22 44 41) = 0 then
    (jg (0 ≤ (gm_I g22 44 3) ∧ (gm_I g22 44 3) < 30)
    (jg (rg (gm_I g22 50 ((gm_I g22 44 3)).toNat))
    (if (gm_I g22 50 ((gm_I g22 44 3)).toNat) < 5 then
    (jb1 (md_byteAt g22) fun (v27 : Int) =>
    jg (rg v27)
    (if v27 = 124 then
    (jb1 (md_readsSpot g22) fun (g29 : gm_T) =>
    md_readsBit_l97  fuel g29)
    else
    (some g22)))
    else
    (some g22))))
    else
    (some g22))
noncomputable def md_readsBit (g : gm_T)  : Option (gm_T) :=
    jl (gm_wI g 44 40 0) fun (g1 : gm_T) =>
    jl (gm_wI g1 44 41 0) fun (g2 : gm_T) =>
    jg (0 ≤ (gm_I g2 44 3) ∧ (gm_I g2 44 3) < 30)
    (jl (gm_wI g2 46 ((gm_I g2 44 3)).toNat 0) fun (g3 : gm_T) =>
    jg (0 ≤ (gm_I g3 44 3) ∧ (gm_I g3 44 3) < 30)
    (jl (gm_wI g3 50 ((gm_I g3 44 3)).toNat 0) fun (g5 : gm_T) =>
    jb1 (md_readsCorner g5) fun (g7 : gm_T) =>
    jb1 (md_readsBit_l34  fz g7) fun (g21 : gm_T) =>
    jb1 (md_readsBit_l97  fz g21) fun (g30 : gm_T) =>
    jg (rg (gm_I g30 44 41))
    (if (gm_I g30 44 41) = 0 then
    (jg (rg (gm_I g30 44 40) ∧ rg (gm_I g30 44 2))
    (if (gm_I g30 44 40) = (gm_I g30 44 2) then
    (jl (gm_wI g30 44 41 0) fun (g33 : gm_T) =>
    some g33)
    else
    (jl (gm_wI g30 44 41 1) fun (g34 : gm_T) =>
    some g34)))
    else
    (jl (gm_wI g30 44 41 1) fun (g35 : gm_T) =>
    some g35))))
noncomputable def md_cross (g : gm_T) (a0 : Int) (a1 : Int) (a2 : Int) (a3 : Int) : Option (Int) :=
    some ((a0 * a3) - (a1 * a2))
noncomputable def md_next (g : gm_T) (a1 : Int) (a2 : Int) : Option (Int) :=
    jg (0 ≤ a1 ∧ a1 < 30)
    (jg ((0 ≤ (a2 + 1) ∧ (a2 + 1) ≤ 2147483647) ∧ (0 < (gm_I g 46 a1.toNat) ∧ (gm_I g 46 a1.toNat) ≤ 2147483647))
    (some ((8 * a1) + ((a2 + 1) % (gm_I g 46 a1.toNat)))))
noncomputable def md_wayX (g : gm_T) (a1 : Int) (a2 : Int) : Option (Int) :=
    jb1 (md_next g a1 a2) fun (v1 : Int) =>
    jg (0 ≤ v1 ∧ v1 < 240)
    (jg (0 ≤ ((8 * a1) + a2) ∧ ((8 * a1) + a2) < 240)
    (some ((gm_I g 47 v1.toNat) - (gm_I g 47 (((8 * a1) + a2)).toNat))))
noncomputable def md_wayY (g : gm_T) (a1 : Int) (a2 : Int) : Option (Int) :=
    jb1 (md_next g a1 a2) fun (v1 : Int) =>
    jg (0 ≤ v1 ∧ v1 < 240)
    (jg (0 ≤ ((8 * a1) + a2) ∧ ((8 * a1) + a2) < 240)
    (some ((gm_I g 48 v1.toNat) - (gm_I g 48 (((8 * a1) + a2)).toNat))))
noncomputable def md_sign (g : gm_T) (a0 : Int) : Option (Int) :=
    jg (rg a0)
    (if a0 ≤ 0 then
    (if a0 < 0 then
    (some (-1))
    else
    (some 0))
    else
    (some 1))
noncomputable def md_side (g : gm_T) (a1 : Int) (a2 : Int) (a3 : Int) (a4 : Int) : Option (Int) :=
    jb1 (md_wayX g a1 a2) fun (v1 : Int) =>
    jb1 (md_wayY g a1 a2) fun (v2 : Int) =>
    jg (0 ≤ ((8 * a1) + a2) ∧ ((8 * a1) + a2) < 240)
    (jb1 (md_cross g v1 v2 (a3 - (gm_I g 47 (((8 * a1) + a2)).toNat)) (a4 - (gm_I g 48 (((8 * a1) + a2)).toNat))) fun (v4 : Int) =>
    jb1 (md_sign g v4) fun (v5 : Int) =>
    some v5)
noncomputable def md_isOn (g : gm_T) (a1 : Int) (a2 : Int) (a3 : Int) (a4 : Int) : Option (Int) :=
    jl (((8 * a1) + a2)) fun (v1 : Int) =>
    jb1 (md_next g a1 a2) fun (v2 : Int) =>
    jg (0 ≤ v1 ∧ v1 < 240)
    (jg (0 ≤ v2 ∧ v2 < 240)
    (jg (rg (gm_I g 47 v1.toNat) ∧ rg (gm_I g 47 v2.toNat))
    (jb1 (md_in g a3 (zmin (gm_I g 47 v1.toNat) (gm_I g 47 v2.toNat)) (zmax (gm_I g 47 v1.toNat) (gm_I g 47 v2.toNat))) fun (v6 : Int) =>
    jb1 (md_side g a1 a2 a3 a4) fun (v7 : Int) =>
    jg (rg v7)
    (if v7 = 0 then
    (jg (rg v6)
    (if v6 = 0 then
    (some 0)
    else
    (jg (rg (gm_I g 48 v1.toNat) ∧ rg (gm_I g 48 v2.toNat))
    (jb1 (md_in g a4 (zmin (gm_I g 48 v1.toNat) (gm_I g 48 v2.toNat)) (zmax (gm_I g 48 v1.toNat) (gm_I g 48 v2.toNat))) fun (v11 : Int) =>
    jg (rg v11)
    (if v11 = 0 then
    (some 0)
    else
    (some 1))))))
    else
    (some 0)))))
noncomputable def md_meet (g : gm_T) (a1 : Int) (a2 : Int) (a3 : Int) : Option (Int) :=
    jl (((8 * a1) + a2)) fun (v1 : Int) =>
    jb1 (md_next g a1 a2) fun (v2 : Int) =>
    jl (((8 * a1) + a3)) fun (v3 : Int) =>
    jb1 (md_next g a1 a3) fun (v4 : Int) =>
    jg (0 ≤ v3 ∧ v3 < 240)
    (jb1 (md_isOn g a1 a2 (gm_I g 47 v3.toNat) (gm_I g 48 v3.toNat)) fun (v6 : Int) =>
    jg (rg v6)
    (if v6 = 0 then
    (jg (0 ≤ v4 ∧ v4 < 240)
    (jb1 (md_isOn g a1 a2 (gm_I g 47 v4.toNat) (gm_I g 48 v4.toNat)) fun (v9 : Int) =>
    jg (rg v9)
    (if v9 = 0 then
    (jg (0 ≤ v1 ∧ v1 < 240)
    (jb1 (md_isOn g a1 a3 (gm_I g 47 v1.toNat) (gm_I g 48 v1.toNat)) fun (v12 : Int) =>
    jg (rg v12)
    (if v12 = 0 then
    (jg (0 ≤ v2 ∧ v2 < 240)
    (jb1 (md_isOn g a1 a3 (gm_I g 47 v2.toNat) (gm_I g 48 v2.toNat)) fun (v15 : Int) =>
    jg (rg v15)
    (if v15 = 0 then
    (jb1 (md_side g a1 a2 (gm_I g 47 v3.toNat) (gm_I g 48 v3.toNat)) fun (v17 : Int) =>
    jb1 (md_side g a1 a2 (gm_I g 47 v4.toNat) (gm_I g 48 v4.toNat)) fun (v18 : Int) =>
    jg (rg (v17 * v18))
    (if (v17 * v18) < 0 then
    (jb1 (md_side g a1 a3 (gm_I g 47 v1.toNat) (gm_I g 48 v1.toNat)) fun (v20 : Int) =>
    jb1 (md_side g a1 a3 (gm_I g 47 v2.toNat) (gm_I g 48 v2.toNat)) fun (v21 : Int) =>
    jg (rg (v20 * v21))
    (if (v20 * v21) < 0 then
    (some 1)
    else
    (some 0)))
    else
    (some 0)))
    else
    (some 1))))
    else
    (some 1))))
    else
    (some 1))))
    else
    (some 1)))
noncomputable def md_folds (g : gm_T) (a1 : Int) (a2 : Int) (a3 : Int) : Option (Int) :=
    jb1 (md_wayX g a1 a2) fun (v1 : Int) =>
    jb1 (md_wayX g a1 a3) fun (v2 : Int) =>
    jb1 (md_wayY g a1 a2) fun (v3 : Int) =>
    jb1 (md_wayY g a1 a3) fun (v4 : Int) =>
    jl (((v1 * v2) + (v3 * v4))) fun (v5 : Int) =>
    jb1 (md_wayX g a1 a2) fun (v6 : Int) =>
    jb1 (md_wayY g a1 a2) fun (v7 : Int) =>
    jb1 (md_wayX g a1 a3) fun (v8 : Int) =>
    jb1 (md_wayY g a1 a3) fun (v9 : Int) =>
    jb1 (md_cross g v6 v7 v8 v9) fun (v10 : Int) =>
    jg (rg v10)
    (if v10 = 0 then
    (jg (rg v5)
    (if v5 < 0 then
    (some 1)
    else
    (some 0)))
    else
    (some 0))
noncomputable def md_areaOf_l4 (g : gm_T) (c1 : Int) : Nat → Int → Int → Option (Int)
  | 0, _, _ => none
  | fuel + 1, v2, v3 =>
    jg (0 ≤ c1 ∧ c1 < 30)
    (jg (rg v3 ∧ rg (gm_I g 46 c1.toNat))
    (if v3 < (gm_I g 46 c1.toNat) then
    (jl (((8 * c1) + v3)) fun (v12 : Int) =>
    jb1 (md_next g c1 v3) fun (v13 : Int) =>
    jg (0 ≤ v12 ∧ v12 < 240)
    (jg (0 ≤ v13 ∧ v13 < 240)
    (jb1 (md_cross g (gm_I g 47 v12.toNat) (gm_I g 48 v12.toNat) (gm_I g 47 v13.toNat) (gm_I g 48 v13.toNat)) fun (v16 : Int) =>
    jl ((v2 + v16)) fun (v17 : Int) =>
    md_areaOf_l4 g c1 fuel v17 (v3 + 1))))
    else
    (some v2)))
noncomputable def md_areaOf (g : gm_T) (a1 : Int) : Option (Int) :=
    jb1 (md_areaOf_l4 g a1 fz 0 0) fun (v19 : Int) =>
    some v19
noncomputable def md_isRing_l9 (g : gm_T) (c3 : Int) (c4 : Int) : Nat → Int → Option ((Unit) ⊕ (Int))
  | 0, _ => none
  | fuel + 1, v5 =>
    jg (rg v5 ∧ rg c4)
    (if v5 < c4 then
    (jb1 (md_wayX g c3 v5) fun (v8 : Int) =>
    jg (rg v8)
    (if v8 = 0 then
    (jb1 (md_wayY g c3 v5) fun (v10 : Int) =>
    jg (rg v10)
    (if v10 = 0 then
    (some (.inr 0))
    else
    (md_isRing_l9 g c3 c4 fuel (v5 + 1))))
    else
    (md_isRing_l9 g c3 c4 fuel (v5 + 1))))
    else
    (some (.inl ())))
noncomputable def md_isRing_l68 (g : gm_T) (c25 : Int) (c26 : Int) (c27 : Int) : Nat → Int → Option ((Unit) ⊕ (Int))
  | 0, _ => none
  | fuel + 1, v28 =>
    jg (rg v28 ∧ rg c26)
    (if v28 < c26 then
    (jg (rg c27)
    (if c27 = 0 then
    (jg (rg (c26 - 1))
    (if v28 = (c26 - 1) then
    (md_isRing_l68 g c25 c26 c27 fuel (v28 + 1))
    else
    (jb1 (md_meet g c25 c27 v28) fun (v34 : Int) =>
    jg (rg v34)
    (if v34 = 0 then
    (md_isRing_l68 g c25 c26 c27 fuel (v28 + 1))
    else
    (some (.inr 0))))))
    else
    (jb1 (md_meet g c25 c27 v28) fun (v37 : Int) =>
    jg (rg v37)
    (if v37 = 0 then
    (md_isRing_l68 g c25 c26 c27 fuel (v28 + 1))
    else
    (some (.inr 0))))))
    else
    (some (.inl ())))
noncomputable def md_isRing_l42 (g : gm_T) (c15 : Int) (c16 : Int) : Nat → Int → Option ((Unit) ⊕ (Int))
  | 0, _ => none
  | fuel + 1, v17 =>
    jg (rg v17 ∧ rg c16)
    (if v17 < c16 then
    (jg ((0 ≤ (v17 + 1) ∧ (v17 + 1) ≤ 2147483647) ∧ (0 < c16 ∧ c16 ≤ 2147483647))
    (jb1 (md_folds g c15 v17 ((v17 + 1) % c16)) fun (v22 : Int) =>
    jg (rg v22)
    (if v22 = 0 then
    (jl ((v17 + 2)) fun (v24 : Int) =>
    jc1 (ρ := Int) (md_isRing_l68 g c15 c16 v17 fz v24) (fun r => some (.inr r)) fun _u =>
    md_isRing_l42 g c15 c16 fuel (v17 + 1))
    else
    (some (.inr 0)))))
    else
    (some (.inl ())))
noncomputable def md_isRing (g : gm_T) (a1 : Int) : Option (Int) :=
    jg (0 ≤ a1 ∧ a1 < 30)
    (jl ((gm_I g 46 a1.toNat)) fun (v2 : Int) =>
    jc1 (ρ := Int) (md_isRing_l9 g a1 v2 fz 0) some fun _u =>
    jc1 (ρ := Int) (md_isRing_l42 g a1 v2 fz 0) some fun _u =>
    jb1 (md_areaOf g a1) fun (v44 : Int) =>
    jg (rg v44)
    (if v44 ≤ 0 then
    (some 0)
    else
    (some 1)))
noncomputable def md_isWithin_l20 (g : gm_T) (c3 : Int) (c6 : Int) (c7 : Int) : Nat → Int → Int → Option (Int)
  | 0, _, _ => none
  | fuel + 1, v8, v9 =>
    jg (0 ≤ c3 ∧ c3 < 30)
    (jg (rg v9 ∧ rg (gm_I g 46 c3.toNat))
    (if v9 < (gm_I g 46 c3.toNat) then
    (jg (0 ≤ ((8 * c3) + v9) ∧ ((8 * c3) + v9) < 240)
    (jl ((2 * (gm_I g 47 (((8 * c3) + v9)).toNat))) fun (v20 : Int) =>
    jl ((2 * (gm_I g 48 (((8 * c3) + v9)).toNat))) fun (v21 : Int) =>
    jb1 (md_next g c3 v9) fun (v22 : Int) =>
    jg (0 ≤ v22 ∧ v22 < 240)
    (jl ((2 * (gm_I g 47 v22.toNat))) fun (v24 : Int) =>
    jb1 (md_next g c3 v9) fun (v25 : Int) =>
    jg (0 ≤ v25 ∧ v25 < 240)
    (jl ((2 * (gm_I g 48 v25.toNat))) fun (v27 : Int) =>
    jb1 (md_cross g (v24 - v20) (v27 - v21) (c6 - v20) (c7 - v21)) fun (v28 : Int) =>
    jg (rg v28)
    (if v28 = 0 then
    (jg (rg v20 ∧ rg v24)
    (jb1 (md_in g c6 (zmin v20 v24) (zmax v20 v24)) fun (v31 : Int) =>
    jg (rg v31)
    (if v31 = 0 then
    (jb1 (
    jg (rg v21 ∧ rg c7)
    (if v21 ≤ c7 then
    (jg (rg v27)
    (if v27 ≤ c7 then
    (some 0)
    else
    (some 1)))
    else
    (some 0))) fun (v33 : Int) =>
    jb1 (
    jg (rg v27 ∧ rg c7)
    (if v27 ≤ c7 then
    (jg (rg v21)
    (if v21 ≤ c7 then
    (some 0)
    else
    (some 1)))
    else
    (some 0))) fun (v36 : Int) =>
    jg (rg v33)
    (if v33 = 0 then
    (jg (rg v36)
    (if v36 = 0 then
    (md_isWithin_l20 g c3 c6 c7 fuel v8 (v9 + 1))
    else
    (if v28 < 0 then
    (jg (rg v8)
    (if v8 = 0 then
    (md_isWithin_l20 g c3 c6 c7 fuel 1 (v9 + 1))
    else
    (md_isWithin_l20 g c3 c6 c7 fuel 0 (v9 + 1))))
    else
    (md_isWithin_l20 g c3 c6 c7 fuel v8 (v9 + 1)))))
    else
    (if v28 ≤ 0 then
    (jg (rg v36)
    (if v36 = 0 then
    (md_isWithin_l20 g c3 c6 c7 fuel v8 (v9 + 1))
    else
    (if v28 < 0 then
    (jg (rg v8)
    (if v8 = 0 then
    (md_isWithin_l20 g c3 c6 c7 fuel 1 (v9 + 1))
    else
    (md_isWithin_l20 g c3 c6 c7 fuel 0 (v9 + 1))))
    else
    (md_isWithin_l20 g c3 c6 c7 fuel v8 (v9 + 1)))))
    else
    (jg (rg v8)
    (if v8 = 0 then
    (md_isWithin_l20 g c3 c6 c7 fuel 1 (v9 + 1))
    else
    (md_isWithin_l20 g c3 c6 c7 fuel 0 (v9 + 1)))))))
    else
    (jg (rg v21 ∧ rg v27)
    (jb1 (md_in g c7 (zmin v21 v27) (zmax v21 v27)) fun (v56 : Int) =>
    jg (rg v56)
    (if v56 = 0 then
    (jb1 (
    jg (rg c7)
    (if v21 ≤ c7 then
    (if v27 ≤ c7 then
    (some 0)
    else
    (some 1))
    else
    (some 0))) fun (v58 : Int) =>
    jb1 (
    jg (rg c7)
    (if v27 ≤ c7 then
    (if v21 ≤ c7 then
    (some 0)
    else
    (some 1))
    else
    (some 0))) fun (v60 : Int) =>
    jg (rg v58)
    (if v58 = 0 then
    (jg (rg v60)
    (if v60 = 0 then
    (md_isWithin_l20 g c3 c6 c7 fuel v8 (v9 + 1))
    else
    (if v28 < 0 then
    (jg (rg v8)
    (if v8 = 0 then
    (md_isWithin_l20 g c3 c6 c7 fuel 1 (v9 + 1))
    else
    (md_isWithin_l20 g c3 c6 c7 fuel 0 (v9 + 1))))
    else
    (md_isWithin_l20 g c3 c6 c7 fuel v8 (v9 + 1)))))
    else
    (if v28 ≤ 0 then
    (jg (rg v60)
    (if v60 = 0 then
    (md_isWithin_l20 g c3 c6 c7 fuel v8 (v9 + 1))
    else
    (if v28 < 0 then
    (jg (rg v8)
    (if v8 = 0 then
    (md_isWithin_l20 g c3 c6 c7 fuel 1 (v9 + 1))
    else
    (md_isWithin_l20 g c3 c6 c7 fuel 0 (v9 + 1))))
    else
    (md_isWithin_l20 g c3 c6 c7 fuel v8 (v9 + 1)))))
    else
    (jg (rg v8)
    (if v8 = 0 then
    (md_isWithin_l20 g c3 c6 c7 fuel 1 (v9 + 1))
    else
    (md_isWithin_l20 g c3 c6 c7 fuel 0 (v9 + 1)))))))
    else
    (some 0)))))))
    else
    (jb1 (
    jg (rg v21 ∧ rg c7)
    (if v21 ≤ c7 then
    (jg (rg v27)
    (if v27 ≤ c7 then
    (some 0)
    else
    (some 1)))
    else
    (some 0))) fun (v78 : Int) =>
    jb1 (
    jg (rg v27 ∧ rg c7)
    (if v27 ≤ c7 then
    (jg (rg v21)
    (if v21 ≤ c7 then
    (some 0)
    else
    (some 1)))
    else
    (some 0))) fun (v81 : Int) =>
    jg (rg v78)
    (if v78 = 0 then
    (jg (rg v81)
    (if v81 = 0 then
    (md_isWithin_l20 g c3 c6 c7 fuel v8 (v9 + 1))
    else
    (if v28 < 0 then
    (jg (rg v8)
    (if v8 = 0 then
    (md_isWithin_l20 g c3 c6 c7 fuel 1 (v9 + 1))
    else
    (md_isWithin_l20 g c3 c6 c7 fuel 0 (v9 + 1))))
    else
    (md_isWithin_l20 g c3 c6 c7 fuel v8 (v9 + 1)))))
    else
    (if v28 ≤ 0 then
    (jg (rg v81)
    (if v81 = 0 then
    (md_isWithin_l20 g c3 c6 c7 fuel v8 (v9 + 1))
    else
    (if v28 < 0 then
    (jg (rg v8)
    (if v8 = 0 then
    (md_isWithin_l20 g c3 c6 c7 fuel 1 (v9 + 1))
    else
    (md_isWithin_l20 g c3 c6 c7 fuel 0 (v9 + 1))))
    else
    (md_isWithin_l20 g c3 c6 c7 fuel v8 (v9 + 1)))))
    else
    (jg (rg v8)
    (if v8 = 0 then
    (md_isWithin_l20 g c3 c6 c7 fuel 1 (v9 + 1))
    else
    (md_isWithin_l20 g c3 c6 c7 fuel 0 (v9 + 1))))))))))))
    else
    (jg (v8 = 0 ∨ v8 = 1) (some v8))))
noncomputable def md_isWithin (g : gm_T) (a1 : Int) (a2 : Int) (a3 : Int) : Option (Int) :=
    jl (((2 * a2) + 1)) fun (v1 : Int) =>
    jl (((2 * a3) + 1)) fun (v2 : Int) =>
    md_isWithin_l20 g a1 v1 v2 fz 0 0
noncomputable def md_isGrid (g : gm_T) (a0 : Int) (a1 : Int) : Option (Int) :=
    jb1 (md_in g a0 (-20) 19) fun (v1 : Int) =>
    jg (rg v1)
    (if v1 = 0 then
    (some 0)
    else
    (jb1 (md_in g a1 (-20) 19) fun (v3 : Int) =>
    jg (rg v3)
    (if v3 = 0 then
    (some 0)
    else
    (some 1))))
noncomputable def md_gridOf (g : gm_T) (a0 : Int) (a1 : Int) (a2 : Int) : Option (Int) :=
    some ((((1600 * a0) + (40 * (a2 + 20))) + a1) + 20)
noncomputable def md_hasCell (g : gm_T) (a1 : Int) (a2 : Int) (a3 : Int) : Option (Int) :=
    jb1 (md_isGrid g a2 a3) fun (v1 : Int) =>
    jg (rg v1)
    (if v1 = 0 then
    (some 0)
    else
    (jb1 (md_gridOf g a1 a2 a3) fun (v3 : Int) =>
    jg (0 ≤ v3 ∧ v3 < 48000)
    (jg (rg (gm_I g 61 v3.toNat))
    (if (gm_I g 61 v3.toNat) = 0 then
    (some 0)
    else
    (some 1)))))
noncomputable def md_lays_l19 (c13 : Int) (c14 : Int) : Nat → Int → gm_T → Option (gm_T)
  | 0, _, _ => none
  | fuel + 1, v15, g17 =>
    jg (rg v15)
    (if v15 < 20 then
    (jb1 (md_isWithin g17 c13 v15 c14) fun (v22 : Int) =>
    jb1 (md_gridOf g17 c13 v15 c14) fun (v23 : Int) =>
    jg (0 ≤ v23 ∧ v23 < 48000)
    (jg (v22 = 0 ∨ v22 = 1)
    (jl (gm_wI g17 61 v23.toNat v22) fun (g24 : gm_T) =>
    jg (rg v22)
    (if v22 = 0 then
    (md_lays_l19 c13 c14 fuel (v15 + 1) g24)
    else
    (jg (0 ≤ c13 ∧ c13 < 30)
    (jg (0 ≤ ((1600 * c13) + (gm_I g24 57 c13.toNat)) ∧ ((1600 * c13) + (gm_I g24 57 c13.toNat)) < 48000)
    (jl (gm_wI g24 59 (((1600 * c13) + (gm_I g24 57 c13.toNat))).toNat v15) fun (g29 : gm_T) =>
    jg (0 ≤ ((1600 * c13) + (gm_I g29 57 c13.toNat)) ∧ ((1600 * c13) + (gm_I g29 57 c13.toNat)) < 48000)
    (jl (gm_wI g29 60 (((1600 * c13) + (gm_I g29 57 c13.toNat))).toNat c14) fun (g31 : gm_T) =>
    jl (gm_wI g31 57 c13.toNat ((gm_I g31 57 c13.toNat) + 1)) fun (g33 : gm_T) =>
    md_lays_l19 c13 c14 fuel (v15 + 1) g33))))))))
    else
    (some g17))
noncomputable def md_lays_l10 (c3 : Int) : Nat → Int → gm_T → Option (gm_T)
  | 0, _, _ => none
  | fuel + 1, v4, g7 =>
    jg (rg v4)
    (if v4 < 20 then
    (jb1 (md_lays_l19 c3 v4 fz (-20) g7) fun (g37 : gm_T) =>
    md_lays_l10 c3 fuel (v4 + 1) g37)
    else
    (some g7))
noncomputable def md_lays (g : gm_T) (a1 : Int) : Option (gm_T) :=
    jg (0 ≤ a1 ∧ a1 < 30)
    (jl (gm_wI g 57 a1.toNat 0) fun (g1 : gm_T) =>
    jb1 (md_lays_l10 a1 fz (-20) g1) fun (g42 : gm_T) =>
    jb1 (md_areaOf g42 a1) fun (v43 : Int) =>
    jl (gm_wI g42 58 a1.toNat v43) fun (g44 : gm_T) =>
    some g44)
noncomputable def md_areSpots_l25 (g : gm_T) (c9 : Int) (c10 : Int) : Nat → Int → Int → Option (Int)
  | 0, _, _ => none
  | fuel + 1, v11, v12 =>
    jg (rg v12 ∧ rg c10)
    (if v12 < c10 then
    (jg (rg v11)
    (if v11 = 0 then
    (jg (0 ≤ c10 ∧ c10 < 150)
    (jg (0 ≤ v12 ∧ v12 < 150)
    (jg (rg (gm_I g 51 c10.toNat) ∧ rg (gm_I g 51 v12.toNat))
    (if (gm_I g 51 c10.toNat) = (gm_I g 51 v12.toNat) then
    (jg (rg (gm_I g 52 c10.toNat) ∧ rg (gm_I g 52 v12.toNat))
    (if (gm_I g 52 c10.toNat) = (gm_I g 52 v12.toNat) then
    (md_areSpots_l25 g c9 c10 fuel 1 (v12 + 1))
    else
    (md_areSpots_l25 g c9 c10 fuel 0 (v12 + 1))))
    else
    (md_areSpots_l25 g c9 c10 fuel 0 (v12 + 1))))))
    else
    (md_areSpots_l25 g c9 c10 fuel 1 (v12 + 1))))
    else
    (some v11))
noncomputable def md_areSpots_l4 (g : gm_T) (c2 : Int) : Nat → Int → Option (Int)
  | 0, _ => none
  | fuel + 1, v3 =>
    jg (0 ≤ c2 ∧ c2 < 30)
    (jg (rg v3 ∧ rg ((5 * c2) + (gm_I g 50 c2.toNat)))
    (if v3 < ((5 * c2) + (gm_I g 50 c2.toNat)) then
    (jl ((5 * c2)) fun (v8 : Int) =>
    jb1 (md_areSpots_l25 g c2 v3 fz 0 v8) fun (v25 : Int) =>
    jg (rg v25)
    (if v25 = 0 then
    (jg (0 ≤ v3 ∧ v3 < 150)
    (jb1 (md_hasCell g c2 (gm_I g 51 v3.toNat) (gm_I g 52 v3.toNat)) fun (v29 : Int) =>
    jg (rg v29)
    (if v29 = 0 then
    (some 0)
    else
    (md_areSpots_l4 g c2 fuel (v3 + 1)))))
    else
    (some 0)))
    else
    (some 1)))
noncomputable def md_areSpots (g : gm_T) (a1 : Int) : Option (Int) :=
    jl ((5 * a1)) fun (v1 : Int) =>
    md_areSpots_l4 g a1 fz v1
noncomputable def md_turnedX (g : gm_T) (a0 : Int) (a1 : Int) (a2 : Int) : Option (Int) :=
    jg (rg a0)
    (if a0 = 0 then
    (some a1)
    else
    (if a0 = 1 then
    (some (nm (-a2)))
    else
    (if a0 = 2 then
    (some (nm (-a1)))
    else
    (some a2))))
noncomputable def md_turnedY (g : gm_T) (a0 : Int) (a1 : Int) (a2 : Int) : Option (Int) :=
    jg (rg a0)
    (if a0 = 0 then
    (some a2)
    else
    (if a0 = 1 then
    (some a1)
    else
    (if a0 = 2 then
    (some (nm (-a2)))
    else
    (some (nm (-a1))))))
noncomputable def md_entry (g : gm_T) (a1 : Int) (a2 : Int) (a3 : Int) (a4 : Int) : Option (Int) :=
    some (((240 * ((8 * a1) + a2)) + (8 * a3)) + a4)
noncomputable def md_fitX (g : gm_T) (a1 : Int) (a2 : Int) (a3 : Int) (a4 : Int) : Option (Int) :=
    jl (((8 * a3) + a4)) fun (v1 : Int) =>
    jb1 (md_next g a1 a2) fun (v2 : Int) =>
    jg (0 ≤ v2 ∧ v2 < 240)
    (jb1 (md_entry g a1 a2 a3 a4) fun (v4 : Int) =>
    jg (0 ≤ v4 ∧ v4 < 57600)
    (jg (0 ≤ v1 ∧ v1 < 240)
    (jb1 (md_turnedX g (gm_I g 63 v4.toNat) (gm_I g 47 v1.toNat) (gm_I g 48 v1.toNat)) fun (v7 : Int) =>
    some ((gm_I g 47 v2.toNat) - v7))))
noncomputable def md_fitY (g : gm_T) (a1 : Int) (a2 : Int) (a3 : Int) (a4 : Int) : Option (Int) :=
    jl (((8 * a3) + a4)) fun (v1 : Int) =>
    jb1 (md_next g a1 a2) fun (v2 : Int) =>
    jg (0 ≤ v2 ∧ v2 < 240)
    (jb1 (md_entry g a1 a2 a3 a4) fun (v4 : Int) =>
    jg (0 ≤ v4 ∧ v4 < 57600)
    (jg (0 ≤ v1 ∧ v1 < 240)
    (jb1 (md_turnedY g (gm_I g 63 v4.toNat) (gm_I g 47 v1.toNat) (gm_I g 48 v1.toNat)) fun (v7 : Int) =>
    some ((gm_I g 48 v2.toNat) - v7))))
noncomputable def md_cellTurnedX (g : gm_T) (a0 : Int) (a1 : Int) (a2 : Int) : Option (Int) :=
    jb1 (md_turnedX g a0 a1 a2) fun (v1 : Int) =>
    jg (rg a0)
    (if a0 = 1 then
    (some (nm (v1 - 1)))
    else
    (if a0 = 2 then
    (some (nm (v1 - 1)))
    else
    (some (nm (v1 - 0)))))
noncomputable def md_cellTurnedY (g : gm_T) (a0 : Int) (a1 : Int) (a2 : Int) : Option (Int) :=
    jb1 (md_turnedY g a0 a1 a2) fun (v1 : Int) =>
    jg (rg a0)
    (if a0 = 2 then
    (some (nm (v1 - 1)))
    else
    (if a0 = 3 then
    (some (nm (v1 - 1)))
    else
    (some (nm (v1 - 0)))))
noncomputable def md_overlaps_l10 (g : gm_T) (c2 : Int) (c3 : Int) (c4 : Int) (c5 : Int) (c6 : Int) : Nat → Int → Int → Option (Int)
  | 0, _, _ => none
  | fuel + 1, v7, v8 =>
    jg (0 ≤ c3 ∧ c3 < 30)
    (jg (rg v8 ∧ rg ((1600 * c3) + (gm_I g 57 c3.toNat)))
    (if v8 < ((1600 * c3) + (gm_I g 57 c3.toNat)) then
    (jg (0 ≤ v8 ∧ v8 < 48000)
    (jb1 (md_cellTurnedX g c4 (gm_I g 59 v8.toNat) (gm_I g 60 v8.toNat)) fun (v14 : Int) =>
    jb1 (md_cellTurnedY g c4 (gm_I g 59 v8.toNat) (gm_I g 60 v8.toNat)) fun (v15 : Int) =>
    jb1 (md_hasCell g c2 (v14 + c5) (v15 + c6)) fun (v16 : Int) =>
    jg (rg v16)
    (if v16 = 0 then
    (jl ((v7 + 0)) fun (v18 : Int) =>
    md_overlaps_l10 g c2 c3 c4 c5 c6 fuel v18 (v8 + 1))
    else
    (jl ((v7 + 1)) fun (v20 : Int) =>
    md_overlaps_l10 g c2 c3 c4 c5 c6 fuel v20 (v8 + 1)))))
    else
    (some v7)))
noncomputable def md_overlaps (g : gm_T) (a1 : Int) (a2 : Int) (a3 : Int) (a4 : Int) (a5 : Int) : Option (Int) :=
    jl ((1600 * a2)) fun (v1 : Int) =>
    jb1 (md_overlaps_l10 g a1 a2 a3 a4 a5 fz 0 v1) fun (v22 : Int) =>
    some v22
noncomputable def md_compares_l57 (c35 : Int) (c36 : Int) (c37 : Int) (c38 : Int) (c39 : Int) : Nat → Int → gm_T → Option (gm_T)
  | 0, _, _ => none
  | fuel + 1, v40, g42 =>
    jg (rg v40)
    (if v40 < 4 then
    (jg (0 ≤ c35 ∧ c35 < 30)
    (jg (0 ≤ c36 ∧ c36 < 30)
    (jg (rg (gm_I g42 56 c35.toNat) ∧ rg (gm_I g42 56 c36.toNat))
    (if (gm_I g42 56 c35.toNat) = (gm_I g42 56 c36.toNat) then
    (jb1 (md_wayX g42 c36 c38) fun (v50 : Int) =>
    jb1 (md_wayY g42 c36 c38) fun (v51 : Int) =>
    jb1 (md_turnedX g42 v40 v50 v51) fun (v52 : Int) =>
    jb1 (md_wayX g42 c35 c37) fun (v53 : Int) =>
    jb1 (
    jg (rg v52 ∧ rg (-v53))
    (if v52 = (-v53) then
    (jb1 (md_wayX g42 c36 c38) fun (v56 : Int) =>
    jb1 (md_wayY g42 c36 c38) fun (v57 : Int) =>
    jb1 (md_turnedY g42 v40 v56 v57) fun (v58 : Int) =>
    jb1 (md_wayY g42 c35 c37) fun (v59 : Int) =>
    jg (rg v58 ∧ rg (-v59))
    (if v58 = (-v59) then
    (some 1)
    else
    (some 0)))
    else
    (some 0))) fun (v54 : Int) =>
    jg (rg v54)
    (if v54 = 0 then
    (jg (0 ≤ c39 ∧ c39 < 57600)
    (jl (gm_wI g42 63 c39.toNat (gm_I g42 63 c39.toNat)) fun (g63 : gm_T) =>
    md_compares_l57 c35 c36 c37 c38 c39 fuel (v40 + 1) g63))
    else
    (jg (0 ≤ c39 ∧ c39 < 57600)
    (jl (gm_wI g42 63 c39.toNat v40) fun (g65 : gm_T) =>
    md_compares_l57 c35 c36 c37 c38 c39 fuel (v40 + 1) g65))))
    else
    (some g42)))))
    else
    (some g42))
noncomputable def md_compares_l15 (c17 : Int) (c18 : Int) (c19 : Int) : Nat → Int → gm_T → Option (gm_T)
  | 0, _, _ => none
  | fuel + 1, v20, g24 =>
    jg (0 ≤ c18 ∧ c18 < 30)
    (jg (rg v20 ∧ rg (gm_I g24 46 c18.toNat))
    (if v20 < (gm_I g24 46 c18.toNat) then
    (jl ((((240 * ((8 * c17) + c19)) + (8 * c18)) + v20)) fun (v32 : Int) =>
    jg (0 ≤ v32 ∧ v32 < 57600)
    (jl (gm_wI g24 63 v32.toNat (-1)) fun (g33 : gm_T) =>
    jb1 (md_compares_l57 c17 c18 c19 v20 v32 fz 0 g33) fun (g70 : gm_T) =>
    jg (rg (gm_I g70 63 v32.toNat))
    (if (gm_I g70 63 v32.toNat) = (-1) then
    (md_compares_l15 c17 c18 c19 fuel (v20 + 1) g70)
    else
    (jb1 (md_fitX g70 c17 c19 c18 v20) fun (v73 : Int) =>
    jb1 (md_fitY g70 c17 c19 c18 v20) fun (v74 : Int) =>
    jb1 (md_overlaps g70 c17 c18 (gm_I g70 63 v32.toNat) v73 v74) fun (v75 : Int) =>
    jl (gm_wI g70 64 v32.toNat v75) fun (g76 : gm_T) =>
    md_compares_l15 c17 c18 c19 fuel (v20 + 1) g76))))
    else
    (some g24)))
noncomputable def md_compares_l2 (c1 : Int) (c2 : Int) : Nat → Int → gm_T → Option (gm_T)
  | 0, _, _ => none
  | fuel + 1, v3, g8 =>
    jg (0 ≤ c1 ∧ c1 < 30)
    (jg (rg v3 ∧ rg (gm_I g8 46 c1.toNat))
    (if v3 < (gm_I g8 46 c1.toNat) then
    (jb1 (md_compares_l15 c1 c2 v3 fz 0 g8) fun (g82 : gm_T) =>
    md_compares_l2 c1 c2 fuel (v3 + 1) g82)
    else
    (some g8)))
noncomputable def md_compares (g : gm_T) (a1 : Int) (a2 : Int) : Option (gm_T) :=
    jb1 (md_compares_l2 a1 a2 fz 0 g) fun (g89 : gm_T) =>
    some g89
noncomputable def md_bit_l167  : Nat → Int → gm_T → Option (gm_T)
  | 0, _, _ => none
  | fuel + 1, v30, g31 =>
    jg (rg v30 ∧ rg ((gm_I g31 44 3) - 1))
    (if v30 < ((gm_I g31 44 3) - 1) then
    (jb1 (md_compares g31 v30 ((gm_I g31 44 3) - 1)) fun (g35 : gm_T) =>
    jb1 (md_compares g35 ((gm_I g35 44 3) - 1) v30) fun (g36 : gm_T) =>
    md_bit_l167  fuel (v30 + 1) g36)
    else
    (some g31))
noncomputable def md_bit (g : gm_T) (a1 : Int) (a2 : Int) (a3 : Int) : Option (Int × gm_T) :=
    jb1 (md_in g a1 1 99) fun (v1 : Int) =>
    jg (rg v1)
    (if v1 = 0 then
    (some ((-2), g))
    else
    (jb1 (md_in g a2 (-1) 3) fun (v3 : Int) =>
    jg (rg v3)
    (if v3 = 0 then
    (some ((-2), g))
    else
    (jb1 (md_in g a3 0 9) fun (v5 : Int) =>
    jg (rg v5)
    (if v5 = 0 then
    (some ((-2), g))
    else
    (jg (rg (gm_I g 44 3))
    (if (gm_I g 44 3) = 30 then
    (some ((-4), g))
    else
    (jb1 (md_readsBit g) fun (g8 : gm_T) =>
    jl (gm_wI g8 44 2 0) fun (g9 : gm_T) =>
    jg (rg (gm_I g9 44 41))
    (if (gm_I g9 44 41) = 0 then
    (jb1 (md_isRing g9 (gm_I g9 44 3)) fun (v11 : Int) =>
    jg (rg v11)
    (if v11 = 0 then
    (some ((-5), g9))
    else
    (jb1 (md_lays g9 (gm_I g9 44 3)) fun (g13 : gm_T) =>
    jb1 (md_areSpots g13 (gm_I g13 44 3)) fun (v14 : Int) =>
    jg (rg v14)
    (if v14 = 0 then
    (some ((-6), g13))
    else
    (jg (0 ≤ (gm_I g13 44 3) ∧ (gm_I g13 44 3) < 30)
    (jl (gm_wI g13 54 ((gm_I g13 44 3)).toNat a1) fun (g16 : gm_T) =>
    jg (0 ≤ (gm_I g16 44 3) ∧ (gm_I g16 44 3) < 30)
    (jl (gm_wI g16 55 ((gm_I g16 44 3)).toNat a2) fun (g18 : gm_T) =>
    jg (0 ≤ (gm_I g18 44 3) ∧ (gm_I g18 44 3) < 30)
    (jl (gm_wI g18 56 ((gm_I g18 44 3)).toNat a3) fun (g20 : gm_T) =>
    jg (0 ≤ (gm_I g20 44 3) ∧ (gm_I g20 44 3) < 30)
    (jl (gm_wI g20 70 ((gm_I g20 44 3)).toNat 0) fun (g22 : gm_T) =>
    jg (0 ≤ (gm_I g22 44 3) ∧ (gm_I g22 44 3) < 30)
    (jl (gm_wI g22 71 ((gm_I g22 44 3)).toNat 0) fun (g24 : gm_T) =>
    jl (gm_wI g24 44 3 ((gm_I g24 44 3) + 1)) fun (g26 : gm_T) =>
    jb1 (md_bit_l167  fz 0 g26) fun (g42 : gm_T) =>
    some (((gm_I g42 44 3) - 1), g42)))))))))))
    else
    (some (((-10) - (gm_I g9 44 40)), g9)))))))))))
noncomputable def md_about (g : gm_T) (a1 : Int) (a2 : Int) : Option (Int) :=
    jb1 (md_isBit g a1) fun (v1 : Int) =>
    jg (rg v1)
    (if v1 = 0 then
    (some (-100000))
    else
    (jg (rg a2)
    (if a2 = 0 then
    (jg (0 ≤ a1 ∧ a1 < 30)
    (some (gm_I g 46 a1.toNat)))
    else
    (if a2 = 1 then
    (jg (0 ≤ a1 ∧ a1 < 30)
    (some (gm_I g 58 a1.toNat)))
    else
    (if a2 = 2 then
    (jg (0 ≤ a1 ∧ a1 < 30)
    (some (gm_I g 57 a1.toNat)))
    else
    (if a2 = 3 then
    (jg (0 ≤ a1 ∧ a1 < 30)
    (some (gm_I g 50 a1.toNat)))
    else
    (if a2 = 4 then
    (jg (0 ≤ a1 ∧ a1 < 30)
    (some (gm_I g 54 a1.toNat)))
    else
    (if a2 = 5 then
    (jg (0 ≤ a1 ∧ a1 < 30)
    (some (gm_I g 55 a1.toNat)))
    else
    (if a2 = 6 then
    (jg (0 ≤ a1 ∧ a1 < 30)
    (some (gm_I g 56 a1.toNat)))
    else
    (some (-100000)))))))))))
noncomputable def md_corner (g : gm_T) (a1 : Int) (a2 : Int) (a3 : Int) : Option (Int) :=
    jb1 (md_isEdge g a1 a2) fun (v1 : Int) =>
    jg (rg v1)
    (if v1 = 0 then
    (some (-100000))
    else
    (jl (((8 * a1) + a2)) fun (v3 : Int) =>
    jg (rg a3)
    (if a3 = 0 then
    (jg (0 ≤ v3 ∧ v3 < 240)
    (some (gm_I g 47 v3.toNat)))
    else
    (if a3 = 1 then
    (jg (0 ≤ v3 ∧ v3 < 240)
    (some (gm_I g 48 v3.toNat)))
    else
    (if a3 = 2 then
    (jg (0 ≤ v3 ∧ v3 < 240)
    (some (gm_I g 49 v3.toNat)))
    else
    (some (-100000)))))))
noncomputable def md_overlap (g : gm_T) (a1 : Int) (a2 : Int) (a3 : Int) (a4 : Int) (a5 : Int) : Option (Int) :=
    jb1 (md_isBit g a1) fun (v1 : Int) =>
    jg (rg v1)
    (if v1 = 0 then
    (some (-1))
    else
    (jb1 (md_isBit g a2) fun (v3 : Int) =>
    jg (rg v3)
    (if v3 = 0 then
    (some (-1))
    else
    (jg (rg a1 ∧ rg a2)
    (if a1 = a2 then
    (some (-2))
    else
    (jb1 (md_in g a3 0 3) fun (v6 : Int) =>
    jg (rg v6)
    (if v6 = 0 then
    (some (-2))
    else
    (jb1 (md_in g a4 (-500) 500) fun (v8 : Int) =>
    jg (rg v8)
    (if v8 = 0 then
    (some (-2))
    else
    (jb1 (md_in g a5 (-500) 500) fun (v10 : Int) =>
    jg (rg v10)
    (if v10 = 0 then
    (some (-2))
    else
    (jb1 (md_overlaps g a1 a2 a3 a4 a5) fun (v12 : Int) =>
    some v12))))))))))))
noncomputable def md_tolerance (g : gm_T) (a1 : Int) : Option (Int × gm_T) :=
    jb1 (md_in g a1 0 30) fun (v1 : Int) =>
    jg (rg v1)
    (if v1 = 0 then
    (some ((-2), g))
    else
    (jl ((gm_I g 44 20)) fun (v3 : Int) =>
    jl (gm_wI g 44 20 a1) fun (g4 : gm_T) =>
    some (v3, g4)))
noncomputable def md_isFit (g : gm_T) (a1 : Int) (a2 : Int) (a3 : Int) (a4 : Int) : Option (Int) :=
    jb1 (md_entry g a1 a2 a3 a4) fun (v1 : Int) =>
    jg (rg a1 ∧ rg a3)
    (if a1 = a3 then
    (some 0)
    else
    (jg (0 ≤ v1 ∧ v1 < 57600)
    (jg (rg (gm_I g 63 v1.toNat))
    (if (gm_I g 63 v1.toNat) = (-1) then
    (some 0)
    else
    (jg (rg (gm_I g 64 v1.toNat) ∧ rg (gm_I g 44 20))
    (if (gm_I g 64 v1.toNat) ≤ (gm_I g 44 20) then
    (some 1)
    else
    (some 0)))))))
noncomputable def md_scoreOf (g : gm_T) (a1 : Int) (a2 : Int) (a3 : Int) (a4 : Int) : Option (Int) :=
    jg (0 ≤ a1 ∧ a1 < 30)
    (jg (0 ≤ a3 ∧ a3 < 30)
    (jb1 (
    jg (rg (gm_I g 54 a1.toNat) ∧ rg (gm_I g 54 a3.toNat))
    (if (gm_I g 54 a1.toNat) < (gm_I g 54 a3.toNat) then
    (some ((gm_I g 54 a3.toNat) - (gm_I g 54 a1.toNat)))
    else
    (some ((gm_I g 54 a1.toNat) - (gm_I g 54 a3.toNat))))) fun (v3 : Int) =>
    jb1 (
    jg (rg (gm_I g 55 a1.toNat))
    (if (gm_I g 55 a1.toNat) = (-1) then
    (some 0)
    else
    (jg (rg (gm_I g 55 a3.toNat))
    (if (gm_I g 55 a3.toNat) = (-1) then
    (some 0)
    else
    (jb1 (md_entry g a1 a2 a3 a4) fun (v8 : Int) =>
    jg (0 ≤ v8 ∧ v8 < 57600)
    (jg (0 ≤ ((gm_I g 55 a3.toNat) + (2 * (gm_I g 63 v8.toNat))) ∧ ((gm_I g 55 a3.toNat) + (2 * (gm_I g 63 v8.toNat))) ≤ 2147483647)
    (jg (rg (((gm_I g 55 a3.toNat) + (2 * (gm_I g 63 v8.toNat))) % 4))
    (if (gm_I g 55 a1.toNat) = (((gm_I g 55 a3.toNat) + (2 * (gm_I g 63 v8.toNat))) % 4) then
    (some 1)
    else
    (some 0))))))))) fun (v5 : Int) =>
    jg (0 ≤ ((8 * a1) + a2) ∧ ((8 * a1) + a2) < 240)
    (jg (0 ≤ ((8 * a3) + a4) ∧ ((8 * a3) + a4) < 240)
    (jg (0 ≤ ((10 * (gm_I g 49 (((8 * a1) + a2)).toNat)) + (gm_I g 49 (((8 * a3) + a4)).toNat)) ∧ ((10 * (gm_I g 49 (((8 * a1) + a2)).toNat)) + (gm_I g 49 (((8 * a3) + a4)).toNat)) < 100)
    (jb1 (
    jg (rg v3)
    (if v3 < 9 then
    (some (9 - v3))
    else
    (some 0))) fun (v14 : Int) =>
    jg (rg v5)
    (if v5 = 0 then
    (some (((2 * (gm_I g 62 (((10 * (gm_I g 49 (((8 * a1) + a2)).toNat)) + (gm_I g 49 (((8 * a3) + a4)).toNat))).toNat)) + v14) + 0))
    else
    (some (((2 * (gm_I g 62 (((10 * (gm_I g 49 (((8 * a1) + a2)).toNat)) + (gm_I g 49 (((8 * a3) + a4)).toNat))).toNat)) + v14) + 5))))))))
noncomputable def md_likeness (g : gm_T) (a1 : Int) (a2 : Int) (a3 : Int) : Option (Int × gm_T) :=
    jb1 (md_in g a1 0 9) fun (v1 : Int) =>
    jg (rg v1)
    (if v1 = 0 then
    (some ((-1), g))
    else
    (jb1 (md_in g a2 0 9) fun (v3 : Int) =>
    jg (rg v3)
    (if v3 = 0 then
    (some ((-1), g))
    else
    (jb1 (md_in g a3 0 9) fun (v5 : Int) =>
    jg (rg v5)
    (if v5 = 0 then
    (some ((-2), g))
    else
    (jg (0 ≤ ((10 * a1) + a2) ∧ ((10 * a1) + a2) < 100)
    (jl ((gm_I g 62 (((10 * a1) + a2)).toNat)) fun (v8 : Int) =>
    jl (gm_wI g 62 (((10 * a1) + a2)).toNat a3) fun (g9 : gm_T) =>
    jg (0 ≤ ((10 * a2) + a1) ∧ ((10 * a2) + a1) < 100)
    (jl (gm_wI g9 62 (((10 * a2) + a1)).toNat a3) fun (g10 : gm_T) =>
    some (v8, g10)))))))))
noncomputable def md_score (g : gm_T) (a1 : Int) (a2 : Int) (a3 : Int) (a4 : Int) : Option (Int) :=
    jb1 (md_isEdge g a1 a2) fun (v1 : Int) =>
    jg (rg v1)
    (if v1 = 0 then
    (some (-1))
    else
    (jb1 (md_isEdge g a3 a4) fun (v3 : Int) =>
    jg (rg v3)
    (if v3 = 0 then
    (some (-1))
    else
    (jg (rg a1 ∧ rg a3)
    (if a1 = a3 then
    (some (-2))
    else
    (jb1 (md_isFit g a1 a2 a3 a4) fun (v6 : Int) =>
    jg (rg v6)
    (if v6 = 0 then
    (some (-3))
    else
    (jb1 (md_scoreOf g a1 a2 a3 a4) fun (v8 : Int) =>
    some v8))))))))
noncomputable def md_turned (g : gm_T) (a1 : Int) (a2 : Int) (a3 : Int) (a4 : Int) (a5 : Int) : Option (Int) :=
    jb1 (md_isEdge g a1 a2) fun (v1 : Int) =>
    jg (rg v1)
    (if v1 = 0 then
    (some (-100000))
    else
    (jb1 (md_isEdge g a3 a4) fun (v3 : Int) =>
    jg (rg v3)
    (if v3 = 0 then
    (some (-100000))
    else
    (jb1 (md_in g a5 0 2) fun (v5 : Int) =>
    jg (rg v5)
    (if v5 = 0 then
    (some (-100000))
    else
    (jb1 (md_isFit g a1 a2 a3 a4) fun (v7 : Int) =>
    jg (rg v7)
    (if v7 = 0 then
    (some (-100000))
    else
    (jg (rg a5)
    (if a5 = 0 then
    (jb1 (md_entry g a1 a2 a3 a4) fun (v10 : Int) =>
    jg (0 ≤ v10 ∧ v10 < 57600)
    (some (gm_I g 63 v10.toNat)))
    else
    (if a5 = 1 then
    (jb1 (md_fitX g a1 a2 a3 a4) fun (v12 : Int) =>
    some v12)
    else
    (jb1 (md_fitY g a1 a2 a3 a4) fun (v13 : Int) =>
    some v13)))))))))))
noncomputable def md_lists_l63 (c35 : Int) (c36 : Int) (c37 : Int) (c38 : Int) (c39 : Int) : Nat → Int → gm_T → Option (Int × gm_T)
  | 0, _, _ => none
  | fuel + 1, v40, g41 =>
    jg (rg v40)
    (if v40 ≤ 0 then
    (some (v40, g41))
    else
    (jg (0 ≤ (v40 - 1) ∧ (v40 - 1) < 240)
    (jg (rg (gm_I g41 77 ((v40 - 1)).toNat) ∧ rg c39)
    (if (gm_I g41 77 ((v40 - 1)).toNat) < c39 then
    (jg (0 ≤ v40 ∧ v40 < 240)
    (jl (gm_wI g41 77 v40.toNat (gm_I g41 77 ((v40 - 1)).toNat)) fun (g47 : gm_T) =>
    jl (gm_wI g47 76 v40.toNat (gm_I g47 76 ((v40 - 1)).toNat)) fun (g49 : gm_T) =>
    md_lists_l63 c35 c36 c37 c38 c39 fuel (v40 + (-1)) g49))
    else
    (some (v40, g41))))))
noncomputable def md_lists_l18 (c15 : Int) (c16 : Int) (c17 : Int) : Nat → Int → gm_T → Option (gm_T)
  | 0, _, _ => none
  | fuel + 1, v18, g21 =>
    jg (0 ≤ c17 ∧ c17 < 30)
    (jg (rg v18 ∧ rg (gm_I g21 46 c17.toNat))
    (if v18 < (gm_I g21 46 c17.toNat) then
    (jg (rg c15)
    (if c17 = c15 then
    (md_lists_l18 c15 c16 c17 fuel (v18 + 1) g21)
    else
    (jb1 (md_isFit g21 c15 c16 c17 v18) fun (v30 : Int) =>
    jg (rg v30)
    (if v30 = 0 then
    (md_lists_l18 c15 c16 c17 fuel (v18 + 1) g21)
    else
    (jb1 (md_scoreOf g21 c15 c16 c17 v18) fun (v33 : Int) =>
    jl ((gm_I g21 44 42)) fun (v34 : Int) =>
    jb2 (md_lists_l63 c15 c16 c17 v18 v33 fz v34 g21) fun (v51 : Int) (g52 : gm_T) =>
    jg (0 ≤ v51 ∧ v51 < 240)
    (jl (gm_wI g52 77 v51.toNat v33) fun (g53 : gm_T) =>
    jl (gm_wI g53 76 v51.toNat ((10 * c17) + v18)) fun (g55 : gm_T) =>
    jl (gm_wI g55 44 42 ((gm_I g55 44 42) + 1)) fun (g56 : gm_T) =>
    md_lists_l18 c15 c16 c17 fuel (v18 + 1) g56))))))
    else
    (some g21)))
noncomputable def md_lists_l7 (c2 : Int) (c3 : Int) : Nat → Int → gm_T → Option (gm_T)
  | 0, _, _ => none
  | fuel + 1, v4, g8 =>
    jg (rg v4 ∧ rg (gm_I g8 44 3))
    (if v4 < (gm_I g8 44 3) then
    (jb1 (md_lists_l18 c2 c3 v4 fz 0 g8) fun (g61 : gm_T) =>
    md_lists_l7 c2 c3 fuel (v4 + 1) g61)
    else
    (some g8))
noncomputable def md_lists (g : gm_T) (a1 : Int) (a2 : Int) : Option (gm_T) :=
    jl (gm_wI g 44 42 0) fun (g1 : gm_T) =>
    jb1 (md_lists_l7 a1 a2 fz 0 g1) fun (g67 : gm_T) =>
    some g67
noncomputable def md_fits (g : gm_T) (a1 : Int) (a2 : Int) : Option (Int × gm_T) :=
    jb1 (md_isEdge g a1 a2) fun (v1 : Int) =>
    jg (rg v1)
    (if v1 = 0 then
    (some ((-1), g))
    else
    (jb1 (md_lists g a1 a2) fun (g3 : gm_T) =>
    some ((gm_I g3 44 42), g3)))
noncomputable def md_fit (g : gm_T) (a1 : Int) (a2 : Int) (a3 : Int) : Option (Int × gm_T) :=
    jb1 (md_isEdge g a1 a2) fun (v1 : Int) =>
    jg (rg v1)
    (if v1 = 0 then
    (some ((-1), g))
    else
    (jb1 (md_lists g a1 a2) fun (g3 : gm_T) =>
    jb1 (md_in g3 a3 0 ((gm_I g3 44 42) - 1)) fun (v4 : Int) =>
    jg (rg v4)
    (if v4 = 0 then
    (some ((-1), g3))
    else
    (jg (0 ≤ a3 ∧ a3 < 240)
    (some ((gm_I g3 76 a3.toNat), g3))))))
noncomputable def md_other_l9 (g : gm_T) (c4 : Int) (c5 : Int) (c6 : Int) : Nat → Int → Option (Int × gm_T)
  | 0, _ => none
  | fuel + 1, v7 =>
    jg (rg v7 ∧ rg (gm_I g 44 42))
    (if v7 < (gm_I g 44 42) then
    (jg (0 ≤ v7 ∧ v7 < 240)
    (jg (rg (gm_I g 77 v7.toNat) ∧ rg c6)
    (if (gm_I g 77 v7.toNat) < c6 then
    (some ((-1), g))
    else
    (jg (rg (gm_I g 76 v7.toNat) ∧ rg ((10 * c4) + c5))
    (if (gm_I g 76 v7.toNat) = ((10 * c4) + c5) then
    (md_other_l9 g c4 c5 c6 fuel (v7 + 1))
    else
    (some ((gm_I g 76 v7.toNat), g)))))))
    else
    (some ((-1), g)))
noncomputable def md_other (g : gm_T) (a1 : Int) (a2 : Int) (a3 : Int) (a4 : Int) (a5 : Int) : Option (Int × gm_T) :=
    jb1 (md_lists g a1 a2) fun (g1 : gm_T) =>
    md_other_l9 g1 a3 a4 a5 fz 0
noncomputable def md_rivalOf (g : gm_T) (a1 : Int) (a2 : Int) (a3 : Int) (a4 : Int) : Option (Int × gm_T) :=
    jb1 (md_scoreOf g a1 a2 a3 a4) fun (v1 : Int) =>
    jb2 (md_other g a1 a2 a3 a4 v1) fun (v2 : Int) (g3 : gm_T) =>
    jb2 (
    jg (rg v2)
    (if v2 = (-1) then
    (jb2 (md_other g3 a3 a4 a1 a2 v1) fun (v7 : Int) (g8 : gm_T) =>
    some (v7, g8))
    else
    (some ((-1), g3)))) fun (v4 : Int) (g5 : gm_T) =>
    jg (rg v2)
    (if v2 = (-1) then
    (jg (rg v4)
    (if v4 = (-1) then
    (some ((-5), g5))
    else
    (some (((1000 * a3) + v4), g5))))
    else
    (some (((1000 * a1) + v2), g5)))
noncomputable def md_rival (g : gm_T) (a1 : Int) (a2 : Int) (a3 : Int) (a4 : Int) : Option (Int × gm_T) :=
    jb1 (md_isEdge g a1 a2) fun (v1 : Int) =>
    jg (rg v1)
    (if v1 = 0 then
    (some ((-1), g))
    else
    (jb1 (md_isEdge g a3 a4) fun (v3 : Int) =>
    jg (rg v3)
    (if v3 = 0 then
    (some ((-1), g))
    else
    (jg (rg a1 ∧ rg a3)
    (if a1 = a3 then
    (some ((-2), g))
    else
    (jb1 (md_isFit g a1 a2 a3 a4) fun (v6 : Int) =>
    jg (rg v6)
    (if v6 = 0 then
    (some ((-3), g))
    else
    (jb2 (md_rivalOf g a1 a2 a3 a4) fun (v8 : Int) (g9 : gm_T) =>
    some (v8, g9)))))))))
noncomputable def md_holds (g : gm_T) (a1 : Int) (a2 : Int) (a3 : Int) : Option (gm_T) :=
    jl (gm_wI g 44 49 a1) fun (g1 : gm_T) =>
    jl (gm_wI g1 44 50 a2) fun (g2 : gm_T) =>
    jl (gm_wI g2 44 51 a3) fun (g3 : gm_T) =>
    some g3
noncomputable def md_then (g : gm_T) (a1 : Int) (a2 : Int) (a3 : Int) : Option (gm_T) :=
    jb1 (md_turnedX g (gm_I g 44 49) a2 a3) fun (v1 : Int) =>
    jl (((gm_I g 44 50) + v1)) fun (v2 : Int) =>
    jb1 (md_turnedY g (gm_I g 44 49) a2 a3) fun (v3 : Int) =>
    jl (((gm_I g 44 51) + v3)) fun (v4 : Int) =>
    jg (0 ≤ ((gm_I g 44 49) + a1) ∧ ((gm_I g 44 49) + a1) ≤ 2147483647)
    (jb1 (md_holds g (((gm_I g 44 49) + a1) % 4) v2 v4) fun (g5 : gm_T) =>
    some g5)
noncomputable def md_thenBack (g : gm_T) (a1 : Int) (a2 : Int) (a3 : Int) : Option (gm_T) :=
    jg (0 ≤ (4 - a1) ∧ (4 - a1) ≤ 2147483647)
    (jl (((4 - a1) % 4)) fun (v1 : Int) =>
    jb1 (md_turnedX g v1 a2 a3) fun (v2 : Int) =>
    jb1 (md_turnedY g v1 a2 a3) fun (v3 : Int) =>
    jb1 (md_then g v1 (-v2) (-v3)) fun (g4 : gm_T) =>
    some g4)
noncomputable def md_isHeld (g : gm_T) (a1 : Int) (a2 : Int) (a3 : Int) : Option (Int) :=
    jg (rg (gm_I g 44 49) ∧ rg a1)
    (if (gm_I g 44 49) = a1 then
    (jg (rg (gm_I g 44 50) ∧ rg a2)
    (if (gm_I g 44 50) = a2 then
    (jg (rg (gm_I g 44 51) ∧ rg a3)
    (if (gm_I g 44 51) = a3 then
    (some 1)
    else
    (some 0)))
    else
    (some 0)))
    else
    (some 0))
noncomputable def md_thenJoin (g : gm_T) (a1 : Int) : Option (gm_T) :=
    jg (0 ≤ a1 ∧ a1 < 60)
    (jb1 (md_entry g (gm_I g 65 a1.toNat) (gm_I g 66 a1.toNat) (gm_I g 67 a1.toNat) (gm_I g 68 a1.toNat)) fun (v2 : Int) =>
    jg (0 ≤ v2 ∧ v2 < 57600)
    (jb1 (md_fitX g (gm_I g 65 a1.toNat) (gm_I g 66 a1.toNat) (gm_I g 67 a1.toNat) (gm_I g 68 a1.toNat)) fun (v4 : Int) =>
    jb1 (md_fitY g (gm_I g 65 a1.toNat) (gm_I g 66 a1.toNat) (gm_I g 67 a1.toNat) (gm_I g 68 a1.toNat)) fun (v5 : Int) =>
    jb1 (md_then g (gm_I g 63 v2.toNat) v4 v5) fun (g6 : gm_T) =>
    some g6))
noncomputable def md_thenJoinBack (g : gm_T) (a1 : Int) : Option (gm_T) :=
    jg (0 ≤ a1 ∧ a1 < 60)
    (jb1 (md_entry g (gm_I g 65 a1.toNat) (gm_I g 66 a1.toNat) (gm_I g 67 a1.toNat) (gm_I g 68 a1.toNat)) fun (v2 : Int) =>
    jg (0 ≤ v2 ∧ v2 < 57600)
    (jb1 (md_fitX g (gm_I g 65 a1.toNat) (gm_I g 66 a1.toNat) (gm_I g 67 a1.toNat) (gm_I g 68 a1.toNat)) fun (v4 : Int) =>
    jb1 (md_fitY g (gm_I g 65 a1.toNat) (gm_I g 66 a1.toNat) (gm_I g 67 a1.toNat) (gm_I g 68 a1.toNat)) fun (v5 : Int) =>
    jb1 (md_thenBack g (gm_I g 63 v2.toNat) v4 v5) fun (g6 : gm_T) =>
    some g6))
noncomputable def md_sets (g : gm_T) (a1 : Int) (a2 : Int) : Option (gm_T) :=
    jg (0 ≤ a1 ∧ a1 < 30)
    (jl (gm_wI g 78 a1.toNat a2) fun (g1 : gm_T) =>
    jl (gm_wI g1 79 a1.toNat (gm_I g1 44 49)) fun (g3 : gm_T) =>
    jl (gm_wI g3 80 a1.toNat (gm_I g3 44 50)) fun (g4 : gm_T) =>
    jl (gm_wI g4 81 a1.toNat (gm_I g4 44 51)) fun (g5 : gm_T) =>
    some g5)
noncomputable def md_reaches (g : gm_T) (a1 : Int) (a2 : Int) : Option (Int × gm_T) :=
    jg (0 ≤ a1 ∧ a1 < 60)
    (jl ((gm_I g 65 a1.toNat)) fun (v2 : Int) =>
    jl ((gm_I g 67 a1.toNat)) fun (v3 : Int) =>
    jg (rg (gm_I g 69 a1.toNat))
    (if (gm_I g 69 a1.toNat) = 0 then
    (some (0, g))
    else
    (jg (0 ≤ v2 ∧ v2 < 30)
    (jb1 (
    jg (rg (gm_I g 78 v2.toNat) ∧ rg a2)
    (if (gm_I g 78 v2.toNat) = a2 then
    (some 1)
    else
    (some 0))) fun (v6 : Int) =>
    jg (0 ≤ v3 ∧ v3 < 30)
    (jb1 (
    jg (rg (gm_I g 78 v3.toNat) ∧ rg a2)
    (if (gm_I g 78 v3.toNat) = a2 then
    (some 1)
    else
    (some 0))) fun (v9 : Int) =>
    jg (rg v6 ∧ rg v9)
    (if v6 = v9 then
    (some (0, g))
    else
    (jg (rg (gm_I g 78 v2.toNat) ∧ rg a2)
    (if (gm_I g 78 v2.toNat) = a2 then
    (jb1 (md_holds g (gm_I g 79 v2.toNat) (gm_I g 80 v2.toNat) (gm_I g 81 v2.toNat)) fun (g13 : gm_T) =>
    jb1 (md_thenJoin g13 a1) fun (g14 : gm_T) =>
    jb1 (md_sets g14 v3 a2) fun (g15 : gm_T) =>
    some (1, g15))
    else
    (jb1 (md_holds g (gm_I g 79 v3.toNat) (gm_I g 80 v3.toNat) (gm_I g 81 v3.toNat)) fun (g16 : gm_T) =>
    jb1 (md_thenJoinBack g16 a1) fun (g17 : gm_T) =>
    jb1 (md_sets g17 v2 a2) fun (g18 : gm_T) =>
    some (1, g18))))))))))
noncomputable def md_groups_l2  : Nat → Int → gm_T → Option (gm_T)
  | 0, _, _ => none
  | fuel + 1, v1, g2 =>
    jg (rg v1 ∧ rg (gm_I g2 44 3))
    (if v1 < (gm_I g2 44 3) then
    (jg (0 ≤ v1 ∧ v1 < 30)
    (jl (gm_wI g2 78 v1.toNat (-1)) fun (g6 : gm_T) =>
    md_groups_l2  fuel (v1 + 1) g6))
    else
    (some g2))
noncomputable def md_groups_l81 (c34 : Int) : Nat → Int → Int → gm_T → Option (Int × gm_T)
  | 0, _, _, _ => none
  | fuel + 1, v35, v36, g37 =>
    jg (rg v36 ∧ rg (gm_I g37 44 24))
    (if v36 < (gm_I g37 44 24) then
    (jb2 (md_reaches g37 v36 c34) fun (v42 : Int) (g43 : gm_T) =>
    jg (rg v42)
    (if v42 = 0 then
    (jg (rg v35)
    (if v35 = 0 then
    (md_groups_l81 c34 fuel 0 (v36 + 1) g43)
    else
    (md_groups_l81 c34 fuel 1 (v36 + 1) g43)))
    else
    (md_groups_l81 c34 fuel 1 (v36 + 1) g43)))
    else
    (some (v35, g37)))
noncomputable def md_groups_l73 (c26 : Int) : Nat → Int → gm_T → Option (gm_T)
  | 0, _, _ => none
  | fuel + 1, v27, g29 =>
    jg (rg v27)
    (if v27 = 0 then
    (some g29)
    else
    (jb2 (md_groups_l81 c26 fz 0 0 g29) fun (v49 : Int) (g51 : gm_T) =>
    md_groups_l73 c26 fuel v49 g51))
noncomputable def md_groups_l25  : Nat → Int → gm_T → Option (gm_T)
  | 0, _, _ => none
  | fuel + 1, v11, g14 =>
    jg (rg v11 ∧ rg (gm_I g14 44 3))
    (if v11 < (gm_I g14 44 3) then
    (jg (0 ≤ v11 ∧ v11 < 30)
    (jg (rg (gm_I g14 78 v11.toNat))
    (if (gm_I g14 78 v11.toNat) = (-1) then
    (jl (gm_wI g14 78 v11.toNat v11) fun (g22 : gm_T) =>
    jl (gm_wI g22 79 v11.toNat 0) fun (g23 : gm_T) =>
    jl (gm_wI g23 80 v11.toNat 0) fun (g24 : gm_T) =>
    jl (gm_wI g24 81 v11.toNat 0) fun (g25 : gm_T) =>
    jb1 (md_groups_l73 v11 fz 1 g25) fun (g54 : gm_T) =>
    md_groups_l25  fuel (v11 + 1) g54)
    else
    (md_groups_l25  fuel (v11 + 1) g14))))
    else
    (some g14))
noncomputable def md_groups (g : gm_T)  : Option (gm_T) :=
    jb1 (md_groups_l2  fz 0 g) fun (g10 : gm_T) =>
    jb1 (md_groups_l25  fz 0 g10) fun (g60 : gm_T) =>
    some g60
noncomputable def md_within (g : gm_T) (a1 : Int) (a2 : Int) : Option (gm_T) :=
    jb1 (md_holds g 0 0 0) fun (g1 : gm_T) =>
    jg (0 ≤ a1 ∧ a1 < 30)
    (jb1 (md_thenBack g1 (gm_I g1 79 a1.toNat) (gm_I g1 80 a1.toNat) (gm_I g1 81 a1.toNat)) fun (g3 : gm_T) =>
    jg (0 ≤ a2 ∧ a2 < 30)
    (jb1 (md_then g3 (gm_I g3 79 a2.toNat) (gm_I g3 80 a2.toNat) (gm_I g3 81 a2.toNat)) fun (g5 : gm_T) =>
    some g5))
noncomputable def md_thenWithin (g : gm_T) (a1 : Int) (a2 : Int) : Option (gm_T) :=
    jg (0 ≤ a1 ∧ a1 < 30)
    (jb1 (md_thenBack g (gm_I g 79 a1.toNat) (gm_I g 80 a1.toNat) (gm_I g 81 a1.toNat)) fun (g2 : gm_T) =>
    jg (0 ≤ a2 ∧ a2 < 30)
    (jb1 (md_then g2 (gm_I g2 79 a2.toNat) (gm_I g2 80 a2.toNat) (gm_I g2 81 a2.toNat)) fun (g4 : gm_T) =>
    some g4))
noncomputable def md_leads (g : gm_T) (a1 : Int) (a2 : Int) : Option (Int) :=
    jg (0 ≤ a1 ∧ a1 < 60)
    (jg (rg (gm_I g 69 a1.toNat))
    (if (gm_I g 69 a1.toNat) = 0 then
    (some 0)
    else
    (jg (rg a2)
    (if a2 = 0 then
    (some 1)
    else
    (jg (rg (gm_I g 82 a1.toNat))
    (if (gm_I g 82 a1.toNat) = 0 then
    (some 0)
    else
    (some 1)))))))
noncomputable def md_reckons_l2 (c1 : Int) (c2 : Int) : Nat → Int → gm_T → Option (gm_T)
  | 0, _, _ => none
  | fuel + 1, v3, g4 =>
    jg (rg v3 ∧ rg (gm_I g4 44 3))
    (if v3 < (gm_I g4 44 3) then
    (jg (rg c1)
    (if v3 = c1 then
    (jg (0 ≤ v3 ∧ v3 < 30)
    (jl (gm_wI g4 83 v3.toNat 0) fun (g9 : gm_T) =>
    md_reckons_l2 c1 c2 fuel (v3 + 1) g9))
    else
    (jg (0 ≤ v3 ∧ v3 < 30)
    (jl (gm_wI g4 83 v3.toNat (-1)) fun (g12 : gm_T) =>
    md_reckons_l2 c1 c2 fuel (v3 + 1) g12))))
    else
    (some g4))
noncomputable def md_reckons_l45 (c31 : Int) (c32 : Int) : Nat → Int → gm_T → Option (gm_T)
  | 0, _, _ => none
  | fuel + 1, v33, g36 =>
    jg (rg v33 ∧ rg (gm_I g36 44 24))
    (if v33 < (gm_I g36 44 24) then
    (jg (0 ≤ v33 ∧ v33 < 60)
    (jl ((gm_I g36 65 v33.toNat)) fun (v43 : Int) =>
    jl ((gm_I g36 67 v33.toNat)) fun (v44 : Int) =>
    jb1 (md_leads g36 v33 c31) fun (v45 : Int) =>
    jg (rg v45)
    (if v45 = 0 then
    (jb1 (md_leads g36 v33 c31) fun (v47 : Int) =>
    jg (rg v47)
    (if v47 = 0 then
    (md_reckons_l45 c31 c32 fuel (v33 + 1) g36)
    else
    (jg (0 ≤ v44 ∧ v44 < 30)
    (jg (rg (gm_I g36 83 v44.toNat) ∧ rg c32)
    (if (gm_I g36 83 v44.toNat) = c32 then
    (jg (0 ≤ v43 ∧ v43 < 30)
    (jg (rg (gm_I g36 83 v43.toNat))
    (if (gm_I g36 83 v43.toNat) = (-1) then
    (jl (gm_wI g36 83 v43.toNat (c32 + 1)) fun (g54 : gm_T) =>
    md_reckons_l45 c31 c32 fuel (v33 + 1) g54)
    else
    (md_reckons_l45 c31 c32 fuel (v33 + 1) g36))))
    else
    (md_reckons_l45 c31 c32 fuel (v33 + 1) g36))))))
    else
    (jg (0 ≤ v43 ∧ v43 < 30)
    (jg (rg (gm_I g36 83 v43.toNat) ∧ rg c32)
    (if (gm_I g36 83 v43.toNat) = c32 then
    (jg (0 ≤ v44 ∧ v44 < 30)
    (jg (rg (gm_I g36 83 v44.toNat))
    (if (gm_I g36 83 v44.toNat) = (-1) then
    (jl (gm_wI g36 83 v44.toNat (c32 + 1)) fun (g62 : gm_T) =>
    md_reckons_l45 c31 c32 fuel (v33 + 1) g62)
    else
    (jb1 (md_leads g36 v33 c31) fun (v64 : Int) =>
    jg (rg v64)
    (if v64 = 0 then
    (md_reckons_l45 c31 c32 fuel (v33 + 1) g36)
    else
    (if (gm_I g36 83 v44.toNat) = c32 then
    (if (gm_I g36 83 v43.toNat) = (-1) then
    (jl (gm_wI g36 83 v43.toNat (c32 + 1)) fun (g67 : gm_T) =>
    md_reckons_l45 c31 c32 fuel (v33 + 1) g67)
    else
    (md_reckons_l45 c31 c32 fuel (v33 + 1) g36))
    else
    (md_reckons_l45 c31 c32 fuel (v33 + 1) g36)))))))
    else
    (jb1 (md_leads g36 v33 c31) fun (v71 : Int) =>
    jg (rg v71)
    (if v71 = 0 then
    (md_reckons_l45 c31 c32 fuel (v33 + 1) g36)
    else
    (jg (0 ≤ v44 ∧ v44 < 30)
    (jg (rg (gm_I g36 83 v44.toNat))
    (if (gm_I g36 83 v44.toNat) = c32 then
    (if (gm_I g36 83 v43.toNat) = (-1) then
    (jl (gm_wI g36 83 v43.toNat (c32 + 1)) fun (g76 : gm_T) =>
    md_reckons_l45 c31 c32 fuel (v33 + 1) g76)
    else
    (md_reckons_l45 c31 c32 fuel (v33 + 1) g36))
    else
    (md_reckons_l45 c31 c32 fuel (v33 + 1) g36))))))))))))
    else
    (some g36))
noncomputable def md_reckons_l34 (c18 : Int) : Nat → Int → gm_T → Option (gm_T)
  | 0, _, _ => none
  | fuel + 1, v19, g23 =>
    jg (rg v19 ∧ rg (gm_I g23 44 3))
    (if v19 < (gm_I g23 44 3) then
    (jb1 (md_reckons_l45 c18 v19 fz 0 g23) fun (g84 : gm_T) =>
    md_reckons_l34 c18 fuel (v19 + 1) g84)
    else
    (some g23))
noncomputable def md_reckons (g : gm_T) (a1 : Int) (a2 : Int) : Option (gm_T) :=
    jb1 (md_reckons_l2 a1 a2 fz 0 g) fun (g16 : gm_T) =>
    jb1 (md_reckons_l34 a2 fz 0 g16) fun (g91 : gm_T) =>
    some g91
noncomputable def md_goes_l18 (g : gm_T) (c13 : Int) (c14 : Int) (c15 : Int) : Nat → Int → Option (Int)
  | 0, _ => none
  | fuel + 1, v16 =>
    jb1 (md_leads g v16 c14) fun (v18 : Int) =>
    jg (rg v18)
    (if v18 = 0 then
    (md_goes_l18 g c13 c14 c15 fuel (v16 + 1))
    else
    (jg (0 ≤ v16 ∧ v16 < 60)
    (jg (rg (gm_I g 65 v16.toNat) ∧ rg c15)
    (if (gm_I g 65 v16.toNat) = c15 then
    (jg (0 ≤ (gm_I g 67 v16.toNat) ∧ (gm_I g 67 v16.toNat) < 30)
    (jg (0 ≤ c15 ∧ c15 < 30)
    (jg (rg (gm_I g 83 ((gm_I g 67 v16.toNat)).toNat) ∧ rg ((gm_I g 83 c15.toNat) - 1))
    (if (gm_I g 83 ((gm_I g 67 v16.toNat)).toNat) = ((gm_I g 83 c15.toNat) - 1) then
    (some v16)
    else
    (if (gm_I g 67 v16.toNat) = c15 then
    (jg (0 ≤ (gm_I g 65 v16.toNat) ∧ (gm_I g 65 v16.toNat) < 30)
    (jg (rg (gm_I g 83 ((gm_I g 65 v16.toNat)).toNat))
    (if (gm_I g 83 ((gm_I g 65 v16.toNat)).toNat) = ((gm_I g 83 c15.toNat) - 1) then
    (some v16)
    else
    (md_goes_l18 g c13 c14 c15 fuel (v16 + 1)))))
    else
    (md_goes_l18 g c13 c14 c15 fuel (v16 + 1)))))))
    else
    (jg (rg (gm_I g 67 v16.toNat))
    (if (gm_I g 67 v16.toNat) = c15 then
    (jg (0 ≤ (gm_I g 65 v16.toNat) ∧ (gm_I g 65 v16.toNat) < 30)
    (jg (0 ≤ c15 ∧ c15 < 30)
    (jg (rg (gm_I g 83 ((gm_I g 65 v16.toNat)).toNat) ∧ rg ((gm_I g 83 c15.toNat) - 1))
    (if (gm_I g 83 ((gm_I g 65 v16.toNat)).toNat) = ((gm_I g 83 c15.toNat) - 1) then
    (some v16)
    else
    (md_goes_l18 g c13 c14 c15 fuel (v16 + 1))))))
    else
    (md_goes_l18 g c13 c14 c15 fuel (v16 + 1))))))))
noncomputable def md_goes_l9 (c3 : Int) (c4 : Int) : Nat → Int → gm_T → Option (gm_T)
  | 0, _, _ => none
  | fuel + 1, v5, g7 =>
    jg (rg v5 ∧ rg c3)
    (if v5 = c3 then
    (some g7)
    else
    (jb1 (md_goes_l18 g7 c3 c4 v5 fz 0) fun (v37 : Int) =>
    jg (0 ≤ (gm_I g7 44 55) ∧ (gm_I g7 44 55) < 60)
    (jl (gm_wI g7 84 ((gm_I g7 44 55)).toNat v37) fun (g38 : gm_T) =>
    jl (gm_wI g38 44 55 ((gm_I g38 44 55) + 1)) fun (g40 : gm_T) =>
    jg (0 ≤ v37 ∧ v37 < 60)
    (jg (rg (gm_I g40 65 v37.toNat))
    (if (gm_I g40 65 v37.toNat) = v5 then
    (jl ((gm_I g40 67 v37.toNat)) fun (v43 : Int) =>
    md_goes_l9 c3 c4 fuel v43 g40)
    else
    (jl ((gm_I g40 65 v37.toNat)) fun (v44 : Int) =>
    md_goes_l9 c3 c4 fuel v44 g40))))))
noncomputable def md_goes (g : gm_T) (a1 : Int) (a2 : Int) (a3 : Int) : Option (gm_T) :=
    jb1 (md_reckons g a2 a3) fun (g1 : gm_T) =>
    jb1 (md_goes_l9 a2 a3 fz a1 g1) fun (g48 : gm_T) =>
    some g48
noncomputable def md_holder_l12 (g : gm_T) (c2 : Int) : Nat → Int → Int → Int → Option (Int × Int)
  | 0, _, _, _ => none
  | fuel + 1, v3, v4, v5 =>
    jg (rg v5)
    (if v5 < 0 then
    (some (v3, v4))
    else
    (jg (0 ≤ v5 ∧ v5 < 30)
    (jb1 (
    jg (rg (gm_I g 78 v5.toNat) ∧ rg c2)
    (if (gm_I g 78 v5.toNat) = c2 then
    (jg (rg (gm_I g 70 v5.toNat))
    (if (gm_I g 70 v5.toNat) = 0 then
    (some v3)
    else
    (some v5)))
    else
    (some v3))) fun (v11 : Int) =>
    jg (rg (gm_I g 78 v5.toNat) ∧ rg c2)
    (if (gm_I g 78 v5.toNat) = c2 then
    (jg (rg (gm_I g 71 v5.toNat))
    (if (gm_I g 71 v5.toNat) = 0 then
    (md_holder_l12 g c2 fuel v11 v4 (v5 + (-1)))
    else
    (md_holder_l12 g c2 fuel v11 v5 (v5 + (-1)))))
    else
    (md_holder_l12 g c2 fuel v11 v4 (v5 + (-1)))))))
noncomputable def md_holder (g : gm_T) (a1 : Int) : Option (Int) :=
    jl (((gm_I g 44 3) - 1)) fun (v1 : Int) =>
    jb2 (md_holder_l12 g a1 fz (-1) (-1) v1) fun (v19 : Int) (v20 : Int) =>
    jg (rg v19)
    (if v19 = (-1) then
    (some v20)
    else
    (some v19))
noncomputable def md_hasWordIn_l5 (g : gm_T) (c1 : Int) (c2 : Int) : Nat → Int → Int → Option (Int)
  | 0, _, _ => none
  | fuel + 1, v3, v4 =>
    jg (rg v4 ∧ rg (gm_I g 44 3))
    (if v4 < (gm_I g 44 3) then
    (jg (rg v3)
    (if v3 = 0 then
    (jg (0 ≤ v4 ∧ v4 < 30)
    (jg (rg (gm_I g 78 v4.toNat) ∧ rg c1)
    (if (gm_I g 78 v4.toNat) = c1 then
    (jg (rg c2)
    (if v4 = c2 then
    (md_hasWordIn_l5 g c1 c2 fuel 0 (v4 + 1))
    else
    (jg (rg (gm_I g 70 v4.toNat))
    (if (gm_I g 70 v4.toNat) = 0 then
    (md_hasWordIn_l5 g c1 c2 fuel 0 (v4 + 1))
    else
    (md_hasWordIn_l5 g c1 c2 fuel 1 (v4 + 1))))))
    else
    (md_hasWordIn_l5 g c1 c2 fuel 0 (v4 + 1)))))
    else
    (md_hasWordIn_l5 g c1 c2 fuel 1 (v4 + 1))))
    else
    (some v3))
noncomputable def md_hasWordIn (g : gm_T) (a1 : Int) (a2 : Int) : Option (Int) :=
    jb1 (md_hasWordIn_l5 g a1 a2 fz 0 0) fun (v18 : Int) =>
    jg (v18 = 0 ∨ v18 = 1) (some v18)
noncomputable def md_onWall (g : gm_T) (a1 : Int) : Option (Int × gm_T) :=
    jg (0 ≤ a1 ∧ a1 < 30)
    (jb1 (md_holder g (gm_I g 78 a1.toNat)) fun (v2 : Int) =>
    jg (rg v2)
    (if v2 = (-1) then
    (some (0, g))
    else
    (jg (0 ≤ v2 ∧ v2 < 30)
    (jb1 (md_holds g (gm_I g 72 v2.toNat) (gm_I g 73 v2.toNat) (gm_I g 74 v2.toNat)) fun (g5 : gm_T) =>
    jb1 (md_thenWithin g5 v2 a1) fun (g6 : gm_T) =>
    some (1, g6)))))
noncomputable def md_walls_l2  : Nat → Int → gm_T → Option (gm_T)
  | 0, _, _ => none
  | fuel + 1, v1, g3 =>
    jg (rg v1 ∧ rg (gm_I g3 44 3))
    (if v1 < (gm_I g3 44 3) then
    (jb2 (md_onWall g3 v1) fun (v8 : Int) (g9 : gm_T) =>
    jb1 (
    jg (rg v8)
    (if v8 = 0 then
    (some (-1))
    else
    (some (gm_I g9 44 49)))) fun (v10 : Int) =>
    jg (0 ≤ v1 ∧ v1 < 30)
    (jl (gm_wI g9 85 v1.toNat v10) fun (g12 : gm_T) =>
    jl (gm_wI g12 86 v1.toNat (gm_I g12 44 50)) fun (g14 : gm_T) =>
    jl (gm_wI g14 87 v1.toNat (gm_I g14 44 51)) fun (g15 : gm_T) =>
    md_walls_l2  fuel (v1 + 1) g15))
    else
    (some g3))
noncomputable def md_walls (g : gm_T)  : Option (gm_T) :=
    jb1 (md_walls_l2  fz 0 g) fun (g19 : gm_T) =>
    some g19
noncomputable def md_places_l3 (c1 : Int) (c2 : Int) (c3 : Int) (c4 : Int) : Nat → Int → gm_T → Option (gm_T)
  | 0, _, _ => none
  | fuel + 1, v5, g6 =>
    jg (rg v5 ∧ rg (gm_I g6 44 3))
    (if v5 < (gm_I g6 44 3) then
    (jg (0 ≤ v5 ∧ v5 < 30)
    (jg (0 ≤ c1 ∧ c1 < 30)
    (jg (rg (gm_I g6 78 v5.toNat) ∧ rg (gm_I g6 78 c1.toNat))
    (if (gm_I g6 78 v5.toNat) = (gm_I g6 78 c1.toNat) then
    (jb1 (md_holds g6 c2 c3 c4) fun (g13 : gm_T) =>
    jb1 (md_thenWithin g13 c1 v5) fun (g14 : gm_T) =>
    jl (gm_wI g14 85 v5.toNat (gm_I g14 44 49)) fun (g15 : gm_T) =>
    jl (gm_wI g15 86 v5.toNat (gm_I g15 44 50)) fun (g16 : gm_T) =>
    jl (gm_wI g16 87 v5.toNat (gm_I g16 44 51)) fun (g17 : gm_T) =>
    md_places_l3 c1 c2 c3 c4 fuel (v5 + 1) g17)
    else
    (md_places_l3 c1 c2 c3 c4 fuel (v5 + 1) g6)))))
    else
    (some g6))
noncomputable def md_places (g : gm_T) (a1 : Int) (a2 : Int) (a3 : Int) (a4 : Int) : Option (gm_T) :=
    jb1 (md_places_l3 a1 a2 a3 a4 fz 0 g) fun (g21 : gm_T) =>
    some g21
noncomputable def md_overlapThere (g : gm_T) (a1 : Int) (a2 : Int) : Option (Int × gm_T) :=
    jb1 (md_holds g 0 0 0) fun (g1 : gm_T) =>
    jg (0 ≤ a1 ∧ a1 < 30)
    (jb1 (md_thenBack g1 (gm_I g1 85 a1.toNat) (gm_I g1 86 a1.toNat) (gm_I g1 87 a1.toNat)) fun (g3 : gm_T) =>
    jg (0 ≤ a2 ∧ a2 < 30)
    (jb1 (md_then g3 (gm_I g3 85 a2.toNat) (gm_I g3 86 a2.toNat) (gm_I g3 87 a2.toNat)) fun (g5 : gm_T) =>
    jb1 (md_overlaps g5 a1 a2 (gm_I g5 44 49) (gm_I g5 44 50) (gm_I g5 44 51)) fun (v6 : Int) =>
    some (v6, g5)))
noncomputable def md_clashesBy_l26 (c5 : Int) : Nat → Int → gm_T → Option (gm_T)
  | 0, _, _ => none
  | fuel + 1, v8, g9 =>
    jg (rg v8 ∧ rg (gm_I g9 44 55))
    (if v8 < (gm_I g9 44 55) then
    (jg (0 ≤ v8 ∧ v8 < 60)
    (jl (gm_wI g9 75 v8.toNat (gm_I g9 84 v8.toNat)) fun (g14 : gm_T) =>
    md_clashesBy_l26 c5 fuel (v8 + 1) g14))
    else
    (some g9))
noncomputable def md_clashesBy (g : gm_T) (a1 : Int) (a2 : Int) (a3 : Int) : Option (Int × gm_T) :=
    jl (gm_wI g 44 35 a1) fun (g1 : gm_T) =>
    jl (gm_wI g1 44 37 a2) fun (g2 : gm_T) =>
    jl (gm_wI g2 44 38 a3) fun (g3 : gm_T) =>
    jl (gm_wI g3 44 36 (gm_I g3 44 55)) fun (g4 : gm_T) =>
    jb1 (md_clashesBy_l26 a1 fz 0 g4) fun (g19 : gm_T) =>
    some (((-10) - a1), g19)
noncomputable def md_hits_l18 (c8 : Int) (c9 : Int) (c10 : Int) : Nat → Int → gm_T → Option ((gm_T) ⊕ (Int × gm_T))
  | 0, _, _ => none
  | fuel + 1, v11, g12 =>
    jg (rg v11 ∧ rg (gm_I g12 44 3))
    (if v11 < (gm_I g12 44 3) then
    (jg (0 ≤ c10 ∧ c10 < 30)
    (jg (rg (gm_I g12 78 c10.toNat) ∧ rg c8)
    (if (gm_I g12 78 c10.toNat) = c8 then
    (jg (0 ≤ v11 ∧ v11 < 30)
    (jg (rg (gm_I g12 78 v11.toNat))
    (if (gm_I g12 78 v11.toNat) = c8 then
    (md_hits_l18 c8 c9 c10 fuel (v11 + 1) g12)
    else
    (jg (rg c9)
    (if (gm_I g12 78 v11.toNat) = c9 then
    (md_hits_l18 c8 c9 c10 fuel (v11 + 1) g12)
    else
    (jg (rg (gm_I g12 85 v11.toNat))
    (if (gm_I g12 85 v11.toNat) = (-1) then
    (md_hits_l18 c8 c9 c10 fuel (v11 + 1) g12)
    else
    (jb2 (md_overlapThere g12 c10 v11) fun (v25 : Int) (g26 : gm_T) =>
    jg (rg v25 ∧ rg (gm_I g26 44 20))
    (if v25 ≤ (gm_I g26 44 20) then
    (md_hits_l18 c8 c9 c10 fuel (v11 + 1) g26)
    else
    (jb2 (md_clashesBy g26 5 c10 v11) fun (v29 : Int) (g30 : gm_T) =>
    some (.inr (v29, g30))))))))))))
    else
    (some (.inl g12)))))
    else
    (some (.inl g12)))
noncomputable def md_hits_l7 (c2 : Int) (c3 : Int) : Nat → Int → gm_T → Option (Int × gm_T)
  | 0, _, _ => none
  | fuel + 1, v4, g6 =>
    jg (rg v4 ∧ rg (gm_I g6 44 3))
    (if v4 < (gm_I g6 44 3) then
    (jc1 (ρ := Int × gm_T) (md_hits_l18 c2 c3 v4 fz 0 g6) some fun (g32 : gm_T) =>
    md_hits_l7 c2 c3 fuel (v4 + 1) g32)
    else
    (some (0, g6)))
noncomputable def md_hits (g : gm_T) (a1 : Int) (a2 : Int) : Option (Int × gm_T) :=
    jl (gm_wI g 44 55 0) fun (g1 : gm_T) =>
    md_hits_l7 a1 a2 fz 0 g1
noncomputable def md_isTaken_l5 (g : gm_T) (c1 : Int) (c2 : Int) : Nat → Int → Int → Option (Int)
  | 0, _, _ => none
  | fuel + 1, v3, v4 =>
    jg (rg v4 ∧ rg (gm_I g 44 24))
    (if v4 < (gm_I g 44 24) then
    (jg (rg v3)
    (if v3 = 0 then
    (jg (0 ≤ v4 ∧ v4 < 60)
    (jg (rg (gm_I g 69 v4.toNat))
    (if (gm_I g 69 v4.toNat) = 0 then
    (md_isTaken_l5 g c1 c2 fuel 0 (v4 + 1))
    else
    (jg (rg (gm_I g 65 v4.toNat) ∧ rg c1)
    (if (gm_I g 65 v4.toNat) = c1 then
    (jg (rg (gm_I g 66 v4.toNat) ∧ rg c2)
    (if (gm_I g 66 v4.toNat) = c2 then
    (md_isTaken_l5 g c1 c2 fuel 1 (v4 + 1))
    else
    (jg (rg (gm_I g 67 v4.toNat))
    (if (gm_I g 67 v4.toNat) = c1 then
    (jg (rg (gm_I g 68 v4.toNat))
    (if (gm_I g 68 v4.toNat) = c2 then
    (md_isTaken_l5 g c1 c2 fuel 1 (v4 + 1))
    else
    (md_isTaken_l5 g c1 c2 fuel 0 (v4 + 1))))
    else
    (md_isTaken_l5 g c1 c2 fuel 0 (v4 + 1))))))
    else
    (jg (rg (gm_I g 67 v4.toNat))
    (if (gm_I g 67 v4.toNat) = c1 then
    (jg (rg (gm_I g 68 v4.toNat) ∧ rg c2)
    (if (gm_I g 68 v4.toNat) = c2 then
    (md_isTaken_l5 g c1 c2 fuel 1 (v4 + 1))
    else
    (md_isTaken_l5 g c1 c2 fuel 0 (v4 + 1))))
    else
    (md_isTaken_l5 g c1 c2 fuel 0 (v4 + 1)))))))))
    else
    (md_isTaken_l5 g c1 c2 fuel 1 (v4 + 1))))
    else
    (some v3))
noncomputable def md_isTaken (g : gm_T) (a1 : Int) (a2 : Int) : Option (Int) :=
    jb1 (md_isTaken_l5 g a1 a2 fz 0 0) fun (v26 : Int) =>
    jg (v26 = 0 ∨ v26 = 1) (some v26)
noncomputable def md_overlapping_l13 (c7 : Int) (c8 : Int) (c9 : Int) : Nat → Int → gm_T → Option ((gm_T) ⊕ (Int × gm_T))
  | 0, _, _ => none
  | fuel + 1, v10, g11 =>
    jg (rg v10 ∧ rg (gm_I g11 44 3))
    (if v10 < (gm_I g11 44 3) then
    (jg (0 ≤ c9 ∧ c9 < 30)
    (jg (0 ≤ c7 ∧ c7 < 30)
    (jg (rg (gm_I g11 78 c9.toNat) ∧ rg (gm_I g11 78 c7.toNat))
    (if (gm_I g11 78 c9.toNat) = (gm_I g11 78 c7.toNat) then
    (jg (0 ≤ v10 ∧ v10 < 30)
    (jg (0 ≤ c8 ∧ c8 < 30)
    (jg (rg (gm_I g11 78 v10.toNat) ∧ rg (gm_I g11 78 c8.toNat))
    (if (gm_I g11 78 v10.toNat) = (gm_I g11 78 c8.toNat) then
    (jb1 (md_within g11 c9 c7) fun (g21 : gm_T) =>
    jb1 (md_thenJoin g21 (gm_I g21 44 24)) fun (g22 : gm_T) =>
    jb1 (md_thenWithin g22 c8 v10) fun (g23 : gm_T) =>
    jb1 (md_overlaps g23 c9 v10 (gm_I g23 44 49) (gm_I g23 44 50) (gm_I g23 44 51)) fun (v24 : Int) =>
    jg (rg v24 ∧ rg (gm_I g23 44 20))
    (if v24 ≤ (gm_I g23 44 20) then
    (md_overlapping_l13 c7 c8 c9 fuel (v10 + 1) g23)
    else
    (jl (gm_wI g23 44 55 0) fun (g27 : gm_T) =>
    jb1 (md_goes g27 c9 c7 0) fun (g28 : gm_T) =>
    jb1 (md_goes g28 c8 v10 0) fun (g29 : gm_T) =>
    jb2 (md_clashesBy g29 2 c9 v10) fun (v30 : Int) (g31 : gm_T) =>
    some (.inr (v30, g31)))))
    else
    (md_overlapping_l13 c7 c8 c9 fuel (v10 + 1) g11)))))
    else
    (some (.inl g11))))))
    else
    (some (.inl g11)))
noncomputable def md_overlapping_l2 (c1 : Int) (c2 : Int) : Nat → Int → gm_T → Option (Int × gm_T)
  | 0, _, _ => none
  | fuel + 1, v3, g5 =>
    jg (rg v3 ∧ rg (gm_I g5 44 3))
    (if v3 < (gm_I g5 44 3) then
    (jc1 (ρ := Int × gm_T) (md_overlapping_l13 c1 c2 v3 fz 0 g5) some fun (g34 : gm_T) =>
    md_overlapping_l2 c1 c2 fuel (v3 + 1) g34)
    else
    (some (0, g5)))
noncomputable def md_overlapping (g : gm_T) (a1 : Int) (a2 : Int) : Option (Int × gm_T) :=
    md_overlapping_l2 a1 a2 fz 0 g
noncomputable def md_against (g : gm_T) (a1 : Int) (a2 : Int) : Option (Int × gm_T) :=
    jg (0 ≤ a1 ∧ a1 < 30)
    (jb1 (md_holder g (gm_I g 78 a1.toNat)) fun (v2 : Int) =>
    jg (0 ≤ a2 ∧ a2 < 30)
    (jb1 (md_holder g (gm_I g 78 a2.toNat)) fun (v4 : Int) =>
    jg (rg v2)
    (if v2 = (-1) then
    (jg (rg v4)
    (if v4 = (-1) then
    (some (0, g))
    else
    (jb1 (md_walls g) fun (g7 : gm_T) =>
    if v2 = (-1) then
    (if v2 = (-1) then
    (jb1 (md_holds g7 (gm_I g7 85 a2.toNat) (gm_I g7 86 a2.toNat) (gm_I g7 87 a2.toNat)) fun (g8 : gm_T) =>
    jb1 (md_thenJoinBack g8 (gm_I g8 44 24)) fun (g9 : gm_T) =>
    jb1 (md_places g9 a1 (gm_I g9 44 49) (gm_I g9 44 50) (gm_I g9 44 51)) fun (g10 : gm_T) =>
    jb2 (md_hits g10 (gm_I g10 78 a1.toNat) (gm_I g10 78 a2.toNat)) fun (v11 : Int) (g12 : gm_T) =>
    some (v11, g12))
    else
    (jb1 (md_holds g7 (gm_I g7 85 a1.toNat) (gm_I g7 86 a1.toNat) (gm_I g7 87 a1.toNat)) fun (g13 : gm_T) =>
    jb1 (md_thenJoin g13 (gm_I g13 44 24)) fun (g14 : gm_T) =>
    jb1 (md_places g14 a2 (gm_I g14 44 49) (gm_I g14 44 50) (gm_I g14 44 51)) fun (g15 : gm_T) =>
    jb2 (md_hits g15 (gm_I g15 78 a2.toNat) (gm_I g15 78 a1.toNat)) fun (v16 : Int) (g17 : gm_T) =>
    some (v16, g17)))
    else
    (if v4 = (-1) then
    (if v2 = (-1) then
    (jb1 (md_holds g7 (gm_I g7 85 a2.toNat) (gm_I g7 86 a2.toNat) (gm_I g7 87 a2.toNat)) fun (g18 : gm_T) =>
    jb1 (md_thenJoinBack g18 (gm_I g18 44 24)) fun (g19 : gm_T) =>
    jb1 (md_places g19 a1 (gm_I g19 44 49) (gm_I g19 44 50) (gm_I g19 44 51)) fun (g20 : gm_T) =>
    jb2 (md_hits g20 (gm_I g20 78 a1.toNat) (gm_I g20 78 a2.toNat)) fun (v21 : Int) (g22 : gm_T) =>
    some (v21, g22))
    else
    (jb1 (md_holds g7 (gm_I g7 85 a1.toNat) (gm_I g7 86 a1.toNat) (gm_I g7 87 a1.toNat)) fun (g23 : gm_T) =>
    jb1 (md_thenJoin g23 (gm_I g23 44 24)) fun (g24 : gm_T) =>
    jb1 (md_places g24 a2 (gm_I g24 44 49) (gm_I g24 44 50) (gm_I g24 44 51)) fun (g25 : gm_T) =>
    jb2 (md_hits g25 (gm_I g25 78 a2.toNat) (gm_I g25 78 a1.toNat)) fun (v26 : Int) (g27 : gm_T) =>
    some (v26, g27)))
    else
    (jb1 (md_holds g7 (gm_I g7 85 a1.toNat) (gm_I g7 86 a1.toNat) (gm_I g7 87 a1.toNat)) fun (g28 : gm_T) =>
    jb1 (md_thenJoin g28 (gm_I g28 44 24)) fun (g29 : gm_T) =>
    jb1 (md_isHeld g29 (gm_I g29 85 a2.toNat) (gm_I g29 86 a2.toNat) (gm_I g29 87 a2.toNat)) fun (v30 : Int) =>
    jg (rg v30)
    (if v30 = 0 then
    (jl (gm_wI g29 44 55 0) fun (g32 : gm_T) =>
    jb1 (md_goes g32 v2 a1 0) fun (g33 : gm_T) =>
    jb1 (md_goes g33 a2 v4 0) fun (g34 : gm_T) =>
    jb2 (md_clashesBy g34 3 v2 v4) fun (v35 : Int) (g36 : gm_T) =>
    some (v35, g36))
    else
    (some (0, g29))))))))
    else
    (jb1 (md_walls g) fun (g37 : gm_T) =>
    if v2 = (-1) then
    (if v2 = (-1) then
    (jb1 (md_holds g37 (gm_I g37 85 a2.toNat) (gm_I g37 86 a2.toNat) (gm_I g37 87 a2.toNat)) fun (g38 : gm_T) =>
    jb1 (md_thenJoinBack g38 (gm_I g38 44 24)) fun (g39 : gm_T) =>
    jb1 (md_places g39 a1 (gm_I g39 44 49) (gm_I g39 44 50) (gm_I g39 44 51)) fun (g40 : gm_T) =>
    jb2 (md_hits g40 (gm_I g40 78 a1.toNat) (gm_I g40 78 a2.toNat)) fun (v41 : Int) (g42 : gm_T) =>
    some (v41, g42))
    else
    (jb1 (md_holds g37 (gm_I g37 85 a1.toNat) (gm_I g37 86 a1.toNat) (gm_I g37 87 a1.toNat)) fun (g43 : gm_T) =>
    jb1 (md_thenJoin g43 (gm_I g43 44 24)) fun (g44 : gm_T) =>
    jb1 (md_places g44 a2 (gm_I g44 44 49) (gm_I g44 44 50) (gm_I g44 44 51)) fun (g45 : gm_T) =>
    jb2 (md_hits g45 (gm_I g45 78 a2.toNat) (gm_I g45 78 a1.toNat)) fun (v46 : Int) (g47 : gm_T) =>
    some (v46, g47)))
    else
    (jg (rg v4)
    (if v4 = (-1) then
    (if v2 = (-1) then
    (jb1 (md_holds g37 (gm_I g37 85 a2.toNat) (gm_I g37 86 a2.toNat) (gm_I g37 87 a2.toNat)) fun (g49 : gm_T) =>
    jb1 (md_thenJoinBack g49 (gm_I g49 44 24)) fun (g50 : gm_T) =>
    jb1 (md_places g50 a1 (gm_I g50 44 49) (gm_I g50 44 50) (gm_I g50 44 51)) fun (g51 : gm_T) =>
    jb2 (md_hits g51 (gm_I g51 78 a1.toNat) (gm_I g51 78 a2.toNat)) fun (v52 : Int) (g53 : gm_T) =>
    some (v52, g53))
    else
    (jb1 (md_holds g37 (gm_I g37 85 a1.toNat) (gm_I g37 86 a1.toNat) (gm_I g37 87 a1.toNat)) fun (g54 : gm_T) =>
    jb1 (md_thenJoin g54 (gm_I g54 44 24)) fun (g55 : gm_T) =>
    jb1 (md_places g55 a2 (gm_I g55 44 49) (gm_I g55 44 50) (gm_I g55 44 51)) fun (g56 : gm_T) =>
    jb2 (md_hits g56 (gm_I g56 78 a2.toNat) (gm_I g56 78 a1.toNat)) fun (v57 : Int) (g58 : gm_T) =>
    some (v57, g58)))
    else
    (jb1 (md_holds g37 (gm_I g37 85 a1.toNat) (gm_I g37 86 a1.toNat) (gm_I g37 87 a1.toNat)) fun (g59 : gm_T) =>
    jb1 (md_thenJoin g59 (gm_I g59 44 24)) fun (g60 : gm_T) =>
    jb1 (md_isHeld g60 (gm_I g60 85 a2.toNat) (gm_I g60 86 a2.toNat) (gm_I g60 87 a2.toNat)) fun (v61 : Int) =>
    jg (rg v61)
    (if v61 = 0 then
    (jl (gm_wI g60 44 55 0) fun (g63 : gm_T) =>
    jb1 (md_goes g63 v2 a1 0) fun (g64 : gm_T) =>
    jb1 (md_goes g64 a2 v4 0) fun (g65 : gm_T) =>
    jb2 (md_clashesBy g65 3 v2 v4) fun (v66 : Int) (g67 : gm_T) =>
    some (v66, g67))
    else
    (some (0, g60))))))))))
noncomputable def md_clashOf (g : gm_T) (a1 : Int) (a2 : Int) : Option (Int × gm_T) :=
    jb1 (md_groups g) fun (g1 : gm_T) =>
    jg (0 ≤ a1 ∧ a1 < 30)
    (jg (0 ≤ a2 ∧ a2 < 30)
    (jg (rg (gm_I g1 78 a1.toNat) ∧ rg (gm_I g1 78 a2.toNat))
    (if (gm_I g1 78 a1.toNat) = (gm_I g1 78 a2.toNat) then
    (jb1 (md_within g1 a1 a2) fun (g5 : gm_T) =>
    jl ((gm_I g5 44 24)) fun (v6 : Int) =>
    jg (0 ≤ v6 ∧ v6 < 60)
    (jb1 (md_entry g5 a1 (gm_I g5 66 v6.toNat) a2 (gm_I g5 68 v6.toNat)) fun (v8 : Int) =>
    jg (0 ≤ v8 ∧ v8 < 57600)
    (jb1 (md_fitX g5 a1 (gm_I g5 66 v6.toNat) a2 (gm_I g5 68 v6.toNat)) fun (v10 : Int) =>
    jb1 (md_fitY g5 a1 (gm_I g5 66 v6.toNat) a2 (gm_I g5 68 v6.toNat)) fun (v11 : Int) =>
    jb1 (md_isHeld g5 (gm_I g5 63 v8.toNat) v10 v11) fun (v12 : Int) =>
    jg (rg v12)
    (if v12 = 0 then
    (jl (gm_wI g5 44 55 0) fun (g14 : gm_T) =>
    jb1 (md_goes g14 a1 a2 0) fun (g15 : gm_T) =>
    jb2 (md_clashesBy g15 1 a1 a2) fun (v16 : Int) (g17 : gm_T) =>
    some (v16, g17))
    else
    (some (0, g5))))))
    else
    (jb2 (md_overlapping g1 a1 a2) fun (v18 : Int) (g19 : gm_T) =>
    jg (rg v18)
    (if v18 = 0 then
    (jb2 (md_against g19 a1 a2) fun (v21 : Int) (g22 : gm_T) =>
    some (v21, g22))
    else
    (some (v18, g19)))))))
noncomputable def md_join (g : gm_T) (a1 : Int) (a2 : Int) (a3 : Int) (a4 : Int) : Option (Int × gm_T) :=
    jb1 (md_isEdge g a1 a2) fun (v1 : Int) =>
    jg (rg v1)
    (if v1 = 0 then
    (some ((-1), g))
    else
    (jb1 (md_isEdge g a3 a4) fun (v3 : Int) =>
    jg (rg v3)
    (if v3 = 0 then
    (some ((-1), g))
    else
    (jg (rg a1 ∧ rg a3)
    (if a1 = a3 then
    (some ((-2), g))
    else
    (jb1 (md_isFit g a1 a2 a3 a4) fun (v6 : Int) =>
    jg (rg v6)
    (if v6 = 0 then
    (some ((-3), g))
    else
    (jb1 (md_isTaken g a1 a2) fun (v8 : Int) =>
    jg (rg v8)
    (if v8 = 0 then
    (jb1 (md_isTaken g a3 a4) fun (v10 : Int) =>
    jg (rg v10)
    (if v10 = 0 then
    (jg (rg (gm_I g 44 24))
    (if (gm_I g 44 24) = 60 then
    (some ((-4), g))
    else
    (jg (0 ≤ (gm_I g 44 24) ∧ (gm_I g 44 24) < 60)
    (jl (gm_wI g 65 ((gm_I g 44 24)).toNat a1) fun (g13 : gm_T) =>
    jg (0 ≤ (gm_I g13 44 24) ∧ (gm_I g13 44 24) < 60)
    (jl (gm_wI g13 66 ((gm_I g13 44 24)).toNat a2) fun (g15 : gm_T) =>
    jg (0 ≤ (gm_I g15 44 24) ∧ (gm_I g15 44 24) < 60)
    (jl (gm_wI g15 67 ((gm_I g15 44 24)).toNat a3) fun (g17 : gm_T) =>
    jg (0 ≤ (gm_I g17 44 24) ∧ (gm_I g17 44 24) < 60)
    (jl (gm_wI g17 68 ((gm_I g17 44 24)).toNat a4) fun (g19 : gm_T) =>
    jg (0 ≤ (gm_I g19 44 24) ∧ (gm_I g19 44 24) < 60)
    (jl (gm_wI g19 69 ((gm_I g19 44 24)).toNat 0) fun (g21 : gm_T) =>
    jb2 (md_clashOf g21 a1 a3) fun (v23 : Int) (g24 : gm_T) =>
    jg (rg v23)
    (if v23 = 0 then
    (jg (0 ≤ (gm_I g24 44 24) ∧ (gm_I g24 44 24) < 60)
    (jl (gm_wI g24 69 ((gm_I g24 44 24)).toNat 1) fun (g26 : gm_T) =>
    jl (gm_wI g26 44 24 ((gm_I g26 44 24) + 1)) fun (g28 : gm_T) =>
    some (((gm_I g28 44 24) - 1), g28)))
    else
    (some (v23, g24)))))))))))
    else
    (some ((-3), g))))
    else
    (some ((-3), g)))))))))))
noncomputable def md_isJoin (g : gm_T) (a1 : Int) : Option (Int) :=
    jb1 (md_in g a1 0 ((gm_I g 44 24) - 1)) fun (v1 : Int) =>
    jg (rg v1)
    (if v1 = 0 then
    (some 0)
    else
    (jg (0 ≤ a1 ∧ a1 < 60)
    (jg (rg (gm_I g 69 a1.toNat))
    (if (gm_I g 69 a1.toNat) = 0 then
    (some 0)
    else
    (some 1)))))
noncomputable def md_sizeOf_l4 (g : gm_T) (c1 : Int) : Nat → Int → Int → Option (Int)
  | 0, _, _ => none
  | fuel + 1, v2, v3 =>
    jg (rg v3 ∧ rg (gm_I g 44 3))
    (if v3 < (gm_I g 44 3) then
    (jg (0 ≤ v3 ∧ v3 < 30)
    (jg (rg (gm_I g 78 v3.toNat) ∧ rg c1)
    (if (gm_I g 78 v3.toNat) = c1 then
    (jl ((v2 + 1)) fun (v9 : Int) =>
    md_sizeOf_l4 g c1 fuel v9 (v3 + 1))
    else
    (jl ((v2 + 0)) fun (v11 : Int) =>
    md_sizeOf_l4 g c1 fuel v11 (v3 + 1)))))
    else
    (some v2))
noncomputable def md_sizeOf (g : gm_T) (a1 : Int) : Option (Int) :=
    jb1 (md_sizeOf_l4 g a1 fz 0 0) fun (v13 : Int) =>
    some v13
noncomputable def md_undo (g : gm_T) (a1 : Int) : Option (Int × gm_T) :=
    jb1 (md_isJoin g a1) fun (v1 : Int) =>
    jg (rg v1)
    (if v1 = 0 then
    (some ((-1), g))
    else
    (jg (0 ≤ a1 ∧ a1 < 60)
    (jl (gm_wI g 69 a1.toNat 0) fun (g3 : gm_T) =>
    jb1 (md_groups g3) fun (g5 : gm_T) =>
    jg (0 ≤ (gm_I g5 65 a1.toNat) ∧ (gm_I g5 65 a1.toNat) < 30)
    (jl ((gm_I g5 78 ((gm_I g5 65 a1.toNat)).toNat)) fun (v7 : Int) =>
    jg (0 ≤ (gm_I g5 67 a1.toNat) ∧ (gm_I g5 67 a1.toNat) < 30)
    (jl ((gm_I g5 78 ((gm_I g5 67 a1.toNat)).toNat)) fun (v9 : Int) =>
    jb1 (md_sizeOf g5 v7) fun (v10 : Int) =>
    jg (rg v7 ∧ rg v9)
    (if v7 = v9 then
    (some ((v10 + 0), g5))
    else
    (jb1 (md_sizeOf g5 v9) fun (v12 : Int) =>
    some ((v10 + v12), g5))))))))
noncomputable def md_isBestNow (g : gm_T) (a1 : Int) : Option (Int × gm_T) :=
    jg (0 ≤ a1 ∧ a1 < 60)
    (jb1 (md_isFit g (gm_I g 65 a1.toNat) (gm_I g 66 a1.toNat) (gm_I g 67 a1.toNat) (gm_I g 68 a1.toNat)) fun (v2 : Int) =>
    jg (rg v2)
    (if v2 = 0 then
    (some (0, g))
    else
    (jb2 (md_rivalOf g (gm_I g 65 a1.toNat) (gm_I g 66 a1.toNat) (gm_I g 67 a1.toNat) (gm_I g 68 a1.toNat)) fun (v4 : Int) (g5 : gm_T) =>
    jg (rg v4)
    (if v4 = (-5) then
    (some (1, g5))
    else
    (some (0, g5))))))
noncomputable def md_joined (g : gm_T) (a1 : Int) (a2 : Int) : Option (Int × gm_T) :=
    jb1 (md_isJoin g a1) fun (v1 : Int) =>
    jg (rg v1)
    (if v1 = 0 then
    (some ((-1), g))
    else
    (jg (rg a2)
    (if a2 = 0 then
    (jg (0 ≤ a1 ∧ a1 < 60)
    (some ((gm_I g 65 a1.toNat), g)))
    else
    (if a2 = 1 then
    (jg (0 ≤ a1 ∧ a1 < 60)
    (some ((gm_I g 66 a1.toNat), g)))
    else
    (if a2 = 2 then
    (jg (0 ≤ a1 ∧ a1 < 60)
    (some ((gm_I g 67 a1.toNat), g)))
    else
    (if a2 = 3 then
    (jg (0 ≤ a1 ∧ a1 < 60)
    (some ((gm_I g 68 a1.toNat), g)))
    else
    (if a2 = 4 then
    (jb2 (md_isBestNow g a1) fun (v9 : Int) (g10 : gm_T) =>
    jg (rg v9)
    (if v9 = 0 then
    (some (0, g10))
    else
    (some (1, g10))))
    else
    (some ((-1), g)))))))))
noncomputable def md_joinsIn_l4 (g : gm_T) (c1 : Int) : Nat → Int → Int → Option (Int)
  | 0, _, _ => none
  | fuel + 1, v2, v3 =>
    jg (rg v3 ∧ rg (gm_I g 44 24))
    (if v3 < (gm_I g 44 24) then
    (jg (0 ≤ v3 ∧ v3 < 60)
    (jg (rg (gm_I g 69 v3.toNat))
    (if (gm_I g 69 v3.toNat) = 0 then
    (jl ((v2 + 0)) fun (v9 : Int) =>
    md_joinsIn_l4 g c1 fuel v9 (v3 + 1))
    else
    (jg (0 ≤ (gm_I g 65 v3.toNat) ∧ (gm_I g 65 v3.toNat) < 30)
    (jg (rg (gm_I g 78 ((gm_I g 65 v3.toNat)).toNat) ∧ rg c1)
    (if (gm_I g 78 ((gm_I g 65 v3.toNat)).toNat) = c1 then
    (jl ((v2 + 1)) fun (v13 : Int) =>
    md_joinsIn_l4 g c1 fuel v13 (v3 + 1))
    else
    (jl ((v2 + 0)) fun (v15 : Int) =>
    md_joinsIn_l4 g c1 fuel v15 (v3 + 1))))))))
    else
    (some v2))
noncomputable def md_joinsIn (g : gm_T) (a1 : Int) : Option (Int) :=
    jb1 (md_joinsIn_l4 g a1 fz 0 0) fun (v17 : Int) =>
    some v17
noncomputable def md_group (g : gm_T) (a1 : Int) (a2 : Int) : Option (Int × gm_T) :=
    jb1 (md_isBit g a1) fun (v1 : Int) =>
    jg (rg v1)
    (if v1 = 0 then
    (some ((-1), g))
    else
    (jb1 (md_groups g) fun (g3 : gm_T) =>
    jg (rg a2)
    (if a2 = 0 then
    (jg (0 ≤ a1 ∧ a1 < 30)
    (some ((gm_I g3 78 a1.toNat), g3)))
    else
    (if a2 = 1 then
    (jg (0 ≤ a1 ∧ a1 < 30)
    (jb1 (md_sizeOf g3 (gm_I g3 78 a1.toNat)) fun (v7 : Int) =>
    some (v7, g3)))
    else
    (if a2 = 2 then
    (jg (0 ≤ a1 ∧ a1 < 30)
    (jb1 (md_joinsIn g3 (gm_I g3 78 a1.toNat)) fun (v9 : Int) =>
    some (v9, g3)))
    else
    (some ((-1), g3)))))))
noncomputable def md_clash (g : gm_T) (a1 : Int) : Option (Int) :=
    jg (rg (gm_I g 44 35))
    (if (gm_I g 44 35) = 0 then
    (some (-1))
    else
    (jg (rg a1)
    (if a1 = 0 then
    (some (gm_I g 44 35))
    else
    (if a1 = 1 then
    (some (gm_I g 44 36))
    else
    (if a1 = 2 then
    (some (gm_I g 44 37))
    else
    (if a1 = 3 then
    (some (gm_I g 44 38))
    else
    (jb1 (md_in g (nm (a1 - 10)) 0 (nm ((gm_I g 44 36) - 1))) fun (v3 : Int) =>
    jg (rg v3)
    (if v3 = 0 then
    (some (-1))
    else
    (jg (0 ≤ (nm (a1 - 10)) ∧ (nm (a1 - 10)) < 60)
    (some (gm_I g 75 ((nm (a1 - 10))).toNat)))))))))))
noncomputable def md_isPlace (g : gm_T) (a0 : Int) (a1 : Int) (a2 : Int) : Option (Int) :=
    jb1 (md_in g a0 0 3) fun (v1 : Int) =>
    jg (rg v1)
    (if v1 = 0 then
    (some 0)
    else
    (jb1 (md_in g a1 (-500) 500) fun (v3 : Int) =>
    jg (rg v3)
    (if v3 = 0 then
    (some 0)
    else
    (jb1 (md_in g a2 (-500) 500) fun (v5 : Int) =>
    jg (rg v5)
    (if v5 = 0 then
    (some 0)
    else
    (some 1))))))
noncomputable def md_stays (g : gm_T) (a1 : Int) (a2 : Int) (a3 : Int) (a4 : Int) : Option (gm_T) :=
    jg (0 ≤ a1 ∧ a1 < 30)
    (jl (gm_wI g 72 a1.toNat a2) fun (g1 : gm_T) =>
    jl (gm_wI g1 73 a1.toNat a3) fun (g3 : gm_T) =>
    jl (gm_wI g3 74 a1.toNat a4) fun (g4 : gm_T) =>
    some g4)
noncomputable def md_putsNone_l2 (c1 : Int) : Nat → Int → gm_T → Option (gm_T)
  | 0, _, _ => none
  | fuel + 1, v2, g3 =>
    jg (rg v2 ∧ rg (gm_I g3 44 3))
    (if v2 < (gm_I g3 44 3) then
    (jg (0 ≤ v2 ∧ v2 < 30)
    (jg (rg (gm_I g3 71 v2.toNat))
    (if (gm_I g3 71 v2.toNat) = 0 then
    (jl (gm_wI g3 71 v2.toNat 0) fun (g9 : gm_T) =>
    md_putsNone_l2 c1 fuel (v2 + 1) g9)
    else
    (jg (rg (gm_I g3 78 v2.toNat) ∧ rg c1)
    (if (gm_I g3 78 v2.toNat) = c1 then
    (jl (gm_wI g3 71 v2.toNat 0) fun (g12 : gm_T) =>
    md_putsNone_l2 c1 fuel (v2 + 1) g12)
    else
    (jl (gm_wI g3 71 v2.toNat 1) fun (g14 : gm_T) =>
    md_putsNone_l2 c1 fuel (v2 + 1) g14))))))
    else
    (some g3))
noncomputable def md_putsNone (g : gm_T) (a1 : Int) : Option (gm_T) :=
    jb1 (md_putsNone_l2 a1 fz 0 g) fun (g17 : gm_T) =>
    some g17
noncomputable def md_againstPlace_l3 (c1 : Int) (c2 : Int) (c3 : Int) (c4 : Int) : Nat → Int → gm_T → Option ((gm_T) ⊕ (Int × gm_T))
  | 0, _, _ => none
  | fuel + 1, v5, g6 =>
    jg (rg v5 ∧ rg (gm_I g6 44 3))
    (if v5 < (gm_I g6 44 3) then
    (jg (rg c1)
    (if v5 = c1 then
    (md_againstPlace_l3 c1 c2 c3 c4 fuel (v5 + 1) g6)
    else
    (jg (0 ≤ v5 ∧ v5 < 30)
    (jg (0 ≤ c1 ∧ c1 < 30)
    (jg (rg (gm_I g6 78 v5.toNat) ∧ rg (gm_I g6 78 c1.toNat))
    (if (gm_I g6 78 v5.toNat) = (gm_I g6 78 c1.toNat) then
    (jg (rg (gm_I g6 70 v5.toNat))
    (if (gm_I g6 70 v5.toNat) = 0 then
    (md_againstPlace_l3 c1 c2 c3 c4 fuel (v5 + 1) g6)
    else
    (jb1 (md_holds g6 c2 c3 c4) fun (g17 : gm_T) =>
    jb1 (md_thenWithin g17 c1 v5) fun (g18 : gm_T) =>
    jb1 (md_isHeld g18 (gm_I g18 72 v5.toNat) (gm_I g18 73 v5.toNat) (gm_I g18 74 v5.toNat)) fun (v19 : Int) =>
    jg (rg v19)
    (if v19 = 0 then
    (jl (gm_wI g18 44 55 0) fun (g21 : gm_T) =>
    jb1 (md_goes g21 v5 c1 0) fun (g22 : gm_T) =>
    jb2 (md_clashesBy g22 4 v5 c1) fun (v23 : Int) (g24 : gm_T) =>
    some (.inr (v23, g24)))
    else
    (md_againstPlace_l3 c1 c2 c3 c4 fuel (v5 + 1) g18)))))
    else
    (md_againstPlace_l3 c1 c2 c3 c4 fuel (v5 + 1) g6)))))))
    else
    (some (.inl g6)))
noncomputable def md_againstPlace (g : gm_T) (a1 : Int) (a2 : Int) (a3 : Int) (a4 : Int) : Option (Int × gm_T) :=
    jc1 (ρ := Int × gm_T) (md_againstPlace_l3 a1 a2 a3 a4 fz 0 g) some fun (g28 : gm_T) =>
    jb1 (md_walls g28) fun (g29 : gm_T) =>
    jb1 (md_places g29 a1 a2 a3 a4) fun (g30 : gm_T) =>
    jg (0 ≤ a1 ∧ a1 < 30)
    (jb2 (md_hits g30 (gm_I g30 78 a1.toNat) (-1)) fun (v32 : Int) (g33 : gm_T) =>
    some (v32, g33))
noncomputable def md_word (g : gm_T) (a1 : Int) (a2 : Int) (a3 : Int) (a4 : Int) : Option (Int × gm_T) :=
    jb1 (md_isBit g a1) fun (v1 : Int) =>
    jg (rg v1)
    (if v1 = 0 then
    (some ((-1), g))
    else
    (jb1 (md_isPlace g a2 a3 a4) fun (v3 : Int) =>
    jg (rg v3)
    (if v3 = 0 then
    (some ((-2), g))
    else
    (jb1 (md_groups g) fun (g5 : gm_T) =>
    jb2 (md_againstPlace g5 a1 a2 a3 a4) fun (v6 : Int) (g7 : gm_T) =>
    jg (rg v6)
    (if v6 = 0 then
    (jg (0 ≤ a1 ∧ a1 < 30)
    (jb1 (md_putsNone g7 (gm_I g7 78 a1.toNat)) fun (g10 : gm_T) =>
    jl (gm_wI g10 70 a1.toNat 1) fun (g11 : gm_T) =>
    jb1 (md_stays g11 a1 a2 a3 a4) fun (g12 : gm_T) =>
    jb1 (md_sizeOf g12 (gm_I g12 78 a1.toNat)) fun (v13 : Int) =>
    some (v13, g12)))
    else
    (some (v6, g7)))))))
noncomputable def md_unsay (g : gm_T) (a1 : Int) : Option (Int × gm_T) :=
    jb1 (md_isBit g a1) fun (v1 : Int) =>
    jg (rg v1)
    (if v1 = 0 then
    (some ((-1), g))
    else
    (jg (0 ≤ a1 ∧ a1 < 30)
    (jg (rg (gm_I g 70 a1.toNat))
    (if (gm_I g 70 a1.toNat) = 0 then
    (some ((-3), g))
    else
    (jb1 (md_groups g) fun (g5 : gm_T) =>
    jl (gm_wI g5 70 a1.toNat 0) fun (g6 : gm_T) =>
    jb1 (md_hasWordIn g6 (gm_I g6 78 a1.toNat) a1) fun (v7 : Int) =>
    jg (rg v7)
    (if v7 = 0 then
    (jb1 (md_putsNone g6 (gm_I g6 78 a1.toNat)) fun (g9 : gm_T) =>
    jl (gm_wI g9 71 a1.toNat 1) fun (g10 : gm_T) =>
    some (1, g10))
    else
    (some (1, g6))))))))
noncomputable def md_put (g : gm_T) (a1 : Int) (a2 : Int) (a3 : Int) (a4 : Int) : Option (Int × gm_T) :=
    jb1 (md_isBit g a1) fun (v1 : Int) =>
    jg (rg v1)
    (if v1 = 0 then
    (some ((-1), g))
    else
    (jb1 (md_isPlace g a2 a3 a4) fun (v3 : Int) =>
    jg (rg v3)
    (if v3 = 0 then
    (some ((-2), g))
    else
    (jb1 (md_groups g) fun (g5 : gm_T) =>
    jg (0 ≤ a1 ∧ a1 < 30)
    (jb1 (md_hasWordIn g5 (gm_I g5 78 a1.toNat) (-1)) fun (v7 : Int) =>
    jg (rg v7)
    (if v7 = 0 then
    (jb2 (md_againstPlace g5 a1 a2 a3 a4) fun (v9 : Int) (g10 : gm_T) =>
    jg (rg v9)
    (if v9 = 0 then
    (jb1 (md_putsNone g10 (gm_I g10 78 a1.toNat)) fun (g12 : gm_T) =>
    jl (gm_wI g12 71 a1.toNat 1) fun (g13 : gm_T) =>
    jb1 (md_stays g13 a1 a2 a3 a4) fun (g14 : gm_T) =>
    jb1 (md_sizeOf g14 (gm_I g14 78 a1.toNat)) fun (v15 : Int) =>
    some (v15, g14))
    else
    (some (v9, g10))))
    else
    (some ((-3), g5))))))))
noncomputable def md_lift (g : gm_T) (a1 : Int) : Option (Int × gm_T) :=
    jb1 (md_isBit g a1) fun (v1 : Int) =>
    jg (rg v1)
    (if v1 = 0 then
    (some ((-1), g))
    else
    (jb1 (md_groups g) fun (g3 : gm_T) =>
    jg (0 ≤ a1 ∧ a1 < 30)
    (jb1 (md_holder g3 (gm_I g3 78 a1.toNat)) fun (v5 : Int) =>
    jg (rg v5)
    (if v5 = (-1) then
    (some ((-3), g3))
    else
    (jb1 (md_hasWordIn g3 (gm_I g3 78 a1.toNat) (-1)) fun (v7 : Int) =>
    jg (rg v7)
    (if v7 = 0 then
    (jb1 (md_putsNone g3 (gm_I g3 78 a1.toNat)) fun (g9 : gm_T) =>
    jb1 (md_sizeOf g9 (gm_I g9 78 a1.toNat)) fun (v10 : Int) =>
    some (v10, g9))
    else
    (some ((-3), g3))))))))
noncomputable def md_placed (g : gm_T) (a1 : Int) (a2 : Int) : Option (Int × gm_T) :=
    jb1 (md_isBit g a1) fun (v1 : Int) =>
    jg (rg v1)
    (if v1 = 0 then
    (some ((-100000), g))
    else
    (jb1 (md_in g a2 0 3) fun (v3 : Int) =>
    jg (rg v3)
    (if v3 = 0 then
    (some ((-100000), g))
    else
    (jb1 (md_groups g) fun (g5 : gm_T) =>
    jb2 (md_onWall g5 a1) fun (v6 : Int) (g7 : gm_T) =>
    jg (rg v6)
    (if v6 = 0 then
    (some ((-100000), g7))
    else
    (jg (rg a2)
    (if a2 = 0 then
    (some ((gm_I g7 44 49), g7))
    else
    (if a2 = 1 then
    (some ((gm_I g7 44 50), g7))
    else
    (if a2 = 2 then
    (some ((gm_I g7 44 51), g7))
    else
    (jg (0 ≤ a1 ∧ a1 < 30)
    (jg (rg (gm_I g7 70 a1.toNat))
    (if (gm_I g7 70 a1.toNat) = 0 then
    (jb1 (md_hasWordIn g7 (gm_I g7 78 a1.toNat) (-1)) fun (v12 : Int) =>
    jg (rg v12)
    (if v12 = 0 then
    (some (0, g7))
    else
    (some (1, g7))))
    else
    (some (2, g7))))))))))))))
noncomputable def md_at_l6 (c2 : Int) (c3 : Int) : Nat → Int → gm_T → Option (Int × gm_T)
  | 0, _, _ => none
  | fuel + 1, v4, g8 =>
    jg (rg v4 ∧ rg (gm_I g8 44 3))
    (if v4 < (gm_I g8 44 3) then
    (jb2 (md_onWall g8 v4) fun (v10 : Int) (g11 : gm_T) =>
    jg (rg v10)
    (if v10 = 0 then
    (md_at_l6 c2 c3 fuel (v4 + 1) g11)
    else
    (jg (0 ≤ (nm (4 - (gm_I g11 44 49))) ∧ (nm (4 - (gm_I g11 44 49))) ≤ 2147483647)
    (jl (((nm (4 - (gm_I g11 44 49))) % 4)) fun (v14 : Int) =>
    jb1 (md_cellTurnedX g11 v14 (nm (c2 - (gm_I g11 44 50))) (nm (c3 - (gm_I g11 44 51)))) fun (v15 : Int) =>
    jb1 (md_cellTurnedY g11 v14 (nm (c2 - (gm_I g11 44 50))) (nm (c3 - (gm_I g11 44 51)))) fun (v16 : Int) =>
    jb1 (md_hasCell g11 v4 v15 v16) fun (v17 : Int) =>
    jg (rg v17)
    (if v17 = 0 then
    (md_at_l6 c2 c3 fuel (v4 + 1) g11)
    else
    (some (v4, g11)))))))
    else
    (some ((-1), g8)))
noncomputable def md_at (g : gm_T) (a1 : Int) (a2 : Int) : Option (Int × gm_T) :=
    jb1 (md_groups g) fun (g1 : gm_T) =>
    md_at_l6 a1 a2 fz 0 g1
noncomputable def md_judges_l2  : Nat → Int → gm_T → Option (gm_T)
  | 0, _, _ => none
  | fuel + 1, v1, g2 =>
    jg (rg v1 ∧ rg (gm_I g2 44 24))
    (if v1 < (gm_I g2 44 24) then
    (jg (0 ≤ v1 ∧ v1 < 60)
    (jg (rg (gm_I g2 69 v1.toNat))
    (if (gm_I g2 69 v1.toNat) = 0 then
    (jl (gm_wI g2 82 v1.toNat 0) fun (g8 : gm_T) =>
    md_judges_l2  fuel (v1 + 1) g8)
    else
    (jb2 (md_isBestNow g2 v1) fun (v10 : Int) (g11 : gm_T) =>
    jg (rg v10)
    (if v10 = 0 then
    (jl (gm_wI g11 82 v1.toNat 0) fun (g13 : gm_T) =>
    md_judges_l2  fuel (v1 + 1) g13)
    else
    (jl (gm_wI g11 82 v1.toNat 1) fun (g15 : gm_T) =>
    md_judges_l2  fuel (v1 + 1) g15))))))
    else
    (some g2))
noncomputable def md_judges (g : gm_T)  : Option (gm_T) :=
    jb1 (md_judges_l2  fz 0 g) fun (g18 : gm_T) =>
    some g18
noncomputable def md_provedFrom_l10 (g : gm_T)  : Nat → Int → Int → Option (Int)
  | 0, _, _ => none
  | fuel + 1, v3, v4 =>
    jg (rg v4 ∧ rg (gm_I g 44 3))
    (if v4 < (gm_I g 44 3) then
    (jg (0 ≤ v4 ∧ v4 < 30)
    (jg (rg (gm_I g 70 v4.toNat))
    (if (gm_I g 70 v4.toNat) = 0 then
    (md_provedFrom_l10 g fuel v3 (v4 + 1))
    else
    (jg (rg (gm_I g 83 v4.toNat))
    (if (gm_I g 83 v4.toNat) = (-1) then
    (md_provedFrom_l10 g fuel v3 (v4 + 1))
    else
    (jg (rg v3)
    (if v3 = (-1) then
    (md_provedFrom_l10 g fuel v4 (v4 + 1))
    else
    (jg (0 ≤ v3 ∧ v3 < 30)
    (jg (rg (gm_I g 83 v3.toNat))
    (if (gm_I g 83 v4.toNat) < (gm_I g 83 v3.toNat) then
    (md_provedFrom_l10 g fuel v4 (v4 + 1))
    else
    (md_provedFrom_l10 g fuel v3 (v4 + 1))))))))))))
    else
    (some v3))
noncomputable def md_provedFrom (g : gm_T) (a1 : Int) : Option (Int × gm_T) :=
    jb1 (md_reckons g a1 1) fun (g1 : gm_T) =>
    jb1 (md_provedFrom_l10 g1 fz (-1) 0) fun (v20 : Int) =>
    some (v20, g1)
noncomputable def md_proof (g : gm_T) (a1 : Int) : Option (Int × gm_T) :=
    jb1 (md_isBit g a1) fun (v1 : Int) =>
    jg (rg v1)
    (if v1 = 0 then
    (some ((-1), g))
    else
    (jb1 (md_judges g) fun (g3 : gm_T) =>
    jb2 (md_provedFrom g3 a1) fun (v4 : Int) (g5 : gm_T) =>
    jg (rg v4)
    (if v4 = (-1) then
    (some ((-3), g5))
    else
    (jg (0 ≤ v4 ∧ v4 < 30)
    (some ((gm_I g5 83 v4.toNat), g5))))))
noncomputable def md_reason (g : gm_T) (a1 : Int) (a2 : Int) : Option (Int × gm_T) :=
    jb1 (md_isBit g a1) fun (v1 : Int) =>
    jg (rg v1)
    (if v1 = 0 then
    (some ((-1), g))
    else
    (jb1 (md_judges g) fun (g3 : gm_T) =>
    jb2 (md_provedFrom g3 a1) fun (v4 : Int) (g5 : gm_T) =>
    jg (rg v4)
    (if v4 = (-1) then
    (some ((-1), g5))
    else
    (jl (gm_wI g5 44 55 0) fun (g7 : gm_T) =>
    jb1 (md_goes g7 v4 a1 1) fun (g8 : gm_T) =>
    jb1 (md_in g8 a2 0 ((gm_I g8 44 55) - 1)) fun (v9 : Int) =>
    jg (rg v9)
    (if v9 = 0 then
    (some ((-1), g8))
    else
    (jg (0 ≤ a2 ∧ a2 < 60)
    (some ((gm_I g8 84 a2.toNat), g8))))))))
noncomputable def md_readsRows_l28  : Nat → Int → gm_T → Option (Int × gm_T)
  | 0, _, _ => none
  | fuel + 1, v13, g14 =>
    jb1 (md_isDigit g14) fun (v17 : Int) =>
    jg (rg v17)
    (if v17 = 0 then
    (jb1 (md_byteAt g14) fun (v19 : Int) =>
    jg (rg v19)
    (if v19 = 46 then
    (jb1 (
    jg (rg (gm_I g14 44 67))
    (if (gm_I g14 44 67) = 0 then
    (some 16)
    else
    (some (gm_I g14 44 66)))) fun (v21 : Int) =>
    jg (rg v13 ∧ rg v21)
    (if v13 < v21 then
    (jb1 (md_byteAt g14) fun (v24 : Int) =>
    jb1 (
    jg (rg v24)
    (if v24 = 46 then
    (some (-1))
    else
    (jb1 (md_byteAt g14) fun (v27 : Int) =>
    some (v27 - 48)))) fun (v25 : Int) =>
    jg (0 ≤ ((16 * (gm_I g14 44 67)) + v13) ∧ ((16 * (gm_I g14 44 67)) + v13) < 256)
    (jl (gm_wI g14 89 (((16 * (gm_I g14 44 67)) + v13)).toNat v25) fun (g28 : gm_T) =>
    jl (gm_wI g28 44 40 ((gm_I g28 44 40) + 1)) fun (g30 : gm_T) =>
    md_readsRows_l28  fuel (v13 + 1) g30))
    else
    (some (v13, g14))))
    else
    (some (v13, g14))))
    else
    (jb1 (
    jg (rg (gm_I g14 44 67))
    (if (gm_I g14 44 67) = 0 then
    (some 16)
    else
    (some (gm_I g14 44 66)))) fun (v32 : Int) =>
    jg (rg v13 ∧ rg v32)
    (if v13 < v32 then
    (jb1 (md_byteAt g14) fun (v35 : Int) =>
    jb1 (
    jg (rg v35)
    (if v35 = 46 then
    (some (-1))
    else
    (jb1 (md_byteAt g14) fun (v38 : Int) =>
    some (v38 - 48)))) fun (v36 : Int) =>
    jg (0 ≤ ((16 * (gm_I g14 44 67)) + v13) ∧ ((16 * (gm_I g14 44 67)) + v13) < 256)
    (jl (gm_wI g14 89 (((16 * (gm_I g14 44 67)) + v13)).toNat v36) fun (g39 : gm_T) =>
    jl (gm_wI g39 44 40 ((gm_I g39 44 40) + 1)) fun (g41 : gm_T) =>
    md_readsRows_l28  fuel (v13 + 1) g41))
    else
    (some (v13, g14)))))
noncomputable def md_readsRows_l22  : Nat → Int → gm_T → Option (gm_T)
  | 0, _, _ => none
  | fuel + 1, v5, g7 =>
    jg (rg v5)
    (if v5 = 0 then
    (some g7)
    else
    (jb2 (md_readsRows_l28  fz 0 g7) fun (v44 : Int) (g45 : gm_T) =>
    jb1 (
    jg (rg (gm_I g45 44 67))
    (if (gm_I g45 44 67) = 0 then
    (some v44)
    else
    (some (gm_I g45 44 66)))) fun (v46 : Int) =>
    jl (gm_wI g45 44 66 v46) fun (g48 : gm_T) =>
    jb1 (
    jg (rg v44)
    (if v44 = 0 then
    (some 1)
    else
    (jg (rg (gm_I g48 44 66))
    (if v44 < (gm_I g48 44 66) then
    (some 1)
    else
    (some 0))))) fun (v49 : Int) =>
    jg (v49 = 0 ∨ v49 = 1)
    (jl (gm_wI g48 44 41 v49) fun (g52 : gm_T) =>
    jl (gm_wI g52 44 67 ((gm_I g52 44 67) + 1)) fun (g53 : gm_T) =>
    jb1 (
    jg (rg (gm_I g53 44 41))
    (if (gm_I g53 44 41) = 0 then
    (jg (rg (gm_I g53 44 67))
    (if (gm_I g53 44 67) < 16 then
    (jb1 (md_byteAt g53) fun (v57 : Int) =>
    jg (rg v57)
    (if v57 = 47 then
    (some 1)
    else
    (some 0)))
    else
    (some 0)))
    else
    (some 0))) fun (v54 : Int) =>
    jg (rg v54)
    (if v54 = 0 then
    (jl (gm_wI g53 44 40 ((gm_I g53 44 40) + 0)) fun (g60 : gm_T) =>
    md_readsRows_l22  fuel v54 g60)
    else
    (jl (gm_wI g53 44 40 ((gm_I g53 44 40) + 1)) fun (g61 : gm_T) =>
    md_readsRows_l22  fuel v54 g61)))))
noncomputable def md_readsRows (g : gm_T)  : Option (gm_T) :=
    jl (gm_wI g 44 40 0) fun (g1 : gm_T) =>
    jl (gm_wI g1 44 41 0) fun (g2 : gm_T) =>
    jl (gm_wI g2 44 66 0) fun (g3 : gm_T) =>
    jl (gm_wI g3 44 67 0) fun (g4 : gm_T) =>
    jb1 (md_readsRows_l22  fz 1 g4) fun (g64 : gm_T) =>
    jg (rg (gm_I g64 44 41))
    (if (gm_I g64 44 41) = 0 then
    (jg (rg (gm_I g64 44 40) ∧ rg (gm_I g64 44 2))
    (if (gm_I g64 44 40) = (gm_I g64 44 2) then
    (jl (gm_wI g64 44 41 0) fun (g67 : gm_T) =>
    some g67)
    else
    (jl (gm_wI g64 44 41 1) fun (g68 : gm_T) =>
    some g68)))
    else
    (jl (gm_wI g64 44 41 1) fun (g69 : gm_T) =>
    some g69))
noncomputable def md_photograph_l114 (c36 : Int) : Nat → Int → Int → Int → gm_T → Option (Int × Int × gm_T)
  | 0, _, _, _, _ => none
  | fuel + 1, v34, v35, v37, g39 =>
    jg (rg v37 ∧ rg (gm_I g39 44 59))
    (if v37 < (gm_I g39 44 59) then
    (jg (0 ≤ ((16 * (((gm_I g39 44 60) - 1) - c36)) + v37) ∧ ((16 * (((gm_I g39 44 60) - 1) - c36)) + v37) < 256)
    (jl ((gm_I g39 89 (((16 * (((gm_I g39 44 60) - 1) - c36)) + v37)).toNat)) fun (v47 : Int) =>
    jg (0 ≤ ((16 * c36) + v37) ∧ ((16 * c36) + v37) < 256)
    (jl (gm_wI g39 88 (((16 * c36) + v37)).toNat v47) fun (g48 : gm_T) =>
    jb1 (
    jg (rg v47)
    (if v47 = (-1) then
    (some 0)
    else
    (if (zA (zSr v35 v47) 1) = 0 then
    (some 1)
    else
    (some 0)))) fun (v50 : Int) =>
    jl ((v34 + v50)) fun (v52 : Int) =>
    jg (rg v47)
    (if v47 = (-1) then
    (jl ((zO v35 0)) fun (v54 : Int) =>
    md_photograph_l114 c36 fuel v52 v54 (v37 + 1) g48)
    else
    (jl ((zO v35 (zSl 1 v47))) fun (v56 : Int) =>
    md_photograph_l114 c36 fuel v52 v56 (v37 + 1) g48)))))
    else
    (some (v34, v35, g39)))
noncomputable def md_photograph_l102  : Nat → Int → Int → Int → gm_T → Option (Int × gm_T)
  | 0, _, _, _, _ => none
  | fuel + 1, v18, v19, v20, g23 =>
    jg (rg v20 ∧ rg (gm_I g23 44 60))
    (if v20 < (gm_I g23 44 60) then
    (jb3 (md_photograph_l114 v20 fz v18 v19 0 g23) fun (v61 : Int) (v62 : Int) (g65 : gm_T) =>
    md_photograph_l102  fuel v61 v62 (v20 + 1) g65)
    else
    (some (v18, g23)))
noncomputable def md_photograph (g : gm_T) (a1 : Int) (a2 : Int) (a3 : Int) : Option (Int × gm_T) :=
    jb1 (md_in g a1 (-500) 500) fun (v1 : Int) =>
    jg (rg v1)
    (if v1 = 0 then
    (some ((-2), g))
    else
    (jb1 (md_in g a2 (-500) 500) fun (v3 : Int) =>
    jg (rg v3)
    (if v3 = 0 then
    (some ((-2), g))
    else
    (jb1 (md_in g a3 0 3) fun (v5 : Int) =>
    jg (rg v5)
    (if v5 = 0 then
    (some ((-2), g))
    else
    (jb1 (md_readsRows g) fun (g7 : gm_T) =>
    jl (gm_wI g7 44 2 0) fun (g8 : gm_T) =>
    jg (rg (gm_I g8 44 41))
    (if (gm_I g8 44 41) = 0 then
    (jl (gm_wI g8 44 59 (gm_I g8 44 66)) fun (g10 : gm_T) =>
    jl (gm_wI g10 44 60 (gm_I g10 44 67)) fun (g11 : gm_T) =>
    jl (gm_wI g11 44 61 a1) fun (g12 : gm_T) =>
    jl (gm_wI g12 44 62 a2) fun (g13 : gm_T) =>
    jl (gm_wI g13 44 63 a3) fun (g14 : gm_T) =>
    jb2 (md_photograph_l102  fz 0 0 0 g14) fun (v70 : Int) (g75 : gm_T) =>
    some (v70, g75))
    else
    (some (((-10) - (gm_I g8 44 40)), g8)))))))))
noncomputable def md_shows_l27 (g : gm_T) (c10 : Int) (c11 : Int) (c12 : Int) (c13 : Int) : Nat → Int → Option ((Unit) ⊕ (Int))
  | 0, _ => none
  | fuel + 1, v14 =>
    jg (rg v14 ∧ rg (c10 + (gm_I g 44 63)))
    (if v14 ≤ (c10 + (gm_I g 44 63)) then
    (jb1 (md_in g (v14 - (gm_I g 44 61)) 0 ((gm_I g 44 59) - 1)) fun (v19 : Int) =>
    jb1 (
    jg (rg v19)
    (if v19 = 0 then
    (some 0)
    else
    (jb1 (md_in g (c13 - (gm_I g 44 62)) 0 ((gm_I g 44 60) - 1)) fun (v22 : Int) =>
    jg (rg v22)
    (if v22 = 0 then
    (some 0)
    else
    (some 1))))) fun (v20 : Int) =>
    jg (rg v20)
    (if v20 = 0 then
    (md_shows_l27 g c10 c11 c12 c13 fuel (v14 + 1))
    else
    (jg (0 ≤ (((16 * (c13 - (gm_I g 44 62))) + v14) - (gm_I g 44 61)) ∧ (((16 * (c13 - (gm_I g 44 62))) + v14) - (gm_I g 44 61)) < 256)
    (jg (rg (gm_I g 88 ((((16 * (c13 - (gm_I g 44 62))) + v14) - (gm_I g 44 61))).toNat) ∧ rg c12)
    (if (gm_I g 88 ((((16 * (c13 - (gm_I g 44 62))) + v14) - (gm_I g 44 61))).toNat) = c12 then
    (some (.inr 1))
    else
    (md_shows_l27 g c10 c11 c12 c13 fuel (v14 + 1)))))))
    else
    (some (.inl ())))
noncomputable def md_shows_l8 (g : gm_T) (c2 : Int) (c3 : Int) (c4 : Int) : Nat → Int → Option (Int)
  | 0, _ => none
  | fuel + 1, v5 =>
    jg (rg v5 ∧ rg (c3 + (gm_I g 44 63)))
    (if v5 ≤ (c3 + (gm_I g 44 63)) then
    (jl ((c2 - (gm_I g 44 63))) fun (v9 : Int) =>
    jc1 (ρ := Int) (md_shows_l27 g c2 c3 c4 v5 fz v9) some fun _u =>
    md_shows_l8 g c2 c3 c4 fuel (v5 + 1))
    else
    (some 0))
noncomputable def md_shows (g : gm_T) (a1 : Int) (a2 : Int) (a3 : Int) : Option (Int) :=
    jl ((a2 - (gm_I g 44 63))) fun (v1 : Int) =>
    md_shows_l8 g a1 a2 a3 fz v1
noncomputable def md_agrees_l8 (g : gm_T) (c2 : Int) (c3 : Int) (c4 : Int) (c5 : Int) : Nat → Int → Int → Option (Int)
  | 0, _, _ => none
  | fuel + 1, v6, v7 =>
    jg (0 ≤ c2 ∧ c2 < 30)
    (jg (rg v7 ∧ rg ((5 * c2) + (gm_I g 50 c2.toNat)))
    (if v7 < ((5 * c2) + (gm_I g 50 c2.toNat)) then
    (jg (0 ≤ v7 ∧ v7 < 150)
    (jb1 (md_cellTurnedX g c3 (gm_I g 51 v7.toNat) (gm_I g 52 v7.toNat)) fun (v13 : Int) =>
    jb1 (md_cellTurnedY g c3 (gm_I g 51 v7.toNat) (gm_I g 52 v7.toNat)) fun (v14 : Int) =>
    jb1 (md_shows g (v13 + c4) (v14 + c5) (gm_I g 53 v7.toNat)) fun (v15 : Int) =>
    jg (rg v15)
    (if v15 = 0 then
    (jl ((v6 + 0)) fun (v17 : Int) =>
    md_agrees_l8 g c2 c3 c4 c5 fuel v17 (v7 + 1))
    else
    (jl ((v6 + 1)) fun (v19 : Int) =>
    md_agrees_l8 g c2 c3 c4 c5 fuel v19 (v7 + 1)))))
    else
    (some v6)))
noncomputable def md_agrees (g : gm_T) (a1 : Int) (a2 : Int) (a3 : Int) (a4 : Int) : Option (Int) :=
    jl ((5 * a1)) fun (v1 : Int) =>
    jb1 (md_agrees_l8 g a1 a2 a3 a4 fz 0 v1) fun (v21 : Int) =>
    some v21
noncomputable def md_agree (g : gm_T) (a1 : Int) (a2 : Int) (a3 : Int) (a4 : Int) : Option (Int) :=
    jb1 (md_isBit g a1) fun (v1 : Int) =>
    jg (rg v1)
    (if v1 = 0 then
    (some (-1))
    else
    (jb1 (md_isPlace g a2 a3 a4) fun (v3 : Int) =>
    jg (rg v3)
    (if v3 = 0 then
    (some (-2))
    else
    (jg (rg (gm_I g 44 59))
    (if (gm_I g 44 59) = 0 then
    (some (-3))
    else
    (jb1 (md_agrees g a1 a2 a3 a4) fun (v6 : Int) =>
    some v6))))))
noncomputable def md_lies_l8 (g : gm_T) (c2 : Int) (c3 : Int) (c4 : Int) (c5 : Int) : Nat → Int → Int → Option (Int)
  | 0, _, _ => none
  | fuel + 1, v6, v7 =>
    jg (0 ≤ c2 ∧ c2 < 30)
    (jg (rg v7 ∧ rg ((5 * c2) + (gm_I g 50 c2.toNat)))
    (if v7 < ((5 * c2) + (gm_I g 50 c2.toNat)) then
    (jg (rg v6)
    (if v6 = 0 then
    (md_lies_l8 g c2 c3 c4 c5 fuel 0 (v7 + 1))
    else
    (jg (0 ≤ v7 ∧ v7 < 150)
    (jb1 (md_cellTurnedX g c3 (gm_I g 51 v7.toNat) (gm_I g 52 v7.toNat)) fun (v15 : Int) =>
    jb1 (md_in g ((v15 + c4) - (gm_I g 44 61)) 0 ((gm_I g 44 59) - 1)) fun (v16 : Int) =>
    jg (rg v16)
    (if v16 = 0 then
    (md_lies_l8 g c2 c3 c4 c5 fuel 0 (v7 + 1))
    else
    (jb1 (md_cellTurnedY g c3 (gm_I g 51 v7.toNat) (gm_I g 52 v7.toNat)) fun (v19 : Int) =>
    jb1 (md_in g ((v19 + c5) - (gm_I g 44 62)) 0 ((gm_I g 44 60) - 1)) fun (v20 : Int) =>
    jg (rg v20)
    (if v20 = 0 then
    (md_lies_l8 g c2 c3 c4 c5 fuel 0 (v7 + 1))
    else
    (md_lies_l8 g c2 c3 c4 c5 fuel 1 (v7 + 1)))))))))
    else
    (some v6)))
noncomputable def md_lies (g : gm_T) (a1 : Int) (a2 : Int) (a3 : Int) (a4 : Int) : Option (Int) :=
    jl ((5 * a1)) fun (v1 : Int) =>
    jb1 (md_lies_l8 g a1 a2 a3 a4 fz 1 v1) fun (v24 : Int) =>
    jg (v24 = 0 ∨ v24 = 1) (some v24)
noncomputable def md_best_l84 (g : gm_T) (c60 : Int) (c61 : Int) (c67 : Int) (c68 : Int) (c69 : Int) : Nat → Int → Int → Int → Int → Int → Int → Option (Int × Int × Int × Int × Int)
  | 0, _, _, _, _, _, _ => none
  | fuel + 1, v62, v63, v64, v65, v66, v70 =>
    jg (rg v70 ∧ rg (gm_I g 44 59))
    (if v70 < (gm_I g 44 59) then
    (jg (0 ≤ c67 ∧ c67 < 150)
    (jb1 (md_cellTurnedX g c68 (gm_I g 51 c67.toNat) (gm_I g 52 c67.toNat)) fun (v85 : Int) =>
    jl ((((gm_I g 44 61) + v70) - v85)) fun (v86 : Int) =>
    jb1 (md_cellTurnedY g c68 (gm_I g 51 c67.toNat) (gm_I g 52 c67.toNat)) fun (v87 : Int) =>
    jl ((((gm_I g 44 62) + c69) - v87)) fun (v88 : Int) =>
    jb1 (md_lies g c60 c68 v86 v88) fun (v89 : Int) =>
    jg (rg v89)
    (if v89 = 0 then
    (md_best_l84 g c60 c61 c67 c68 c69 fuel v62 v63 v64 v65 v66 (v70 + 1))
    else
    (jb1 (md_agrees g c60 c68 v86 v88) fun (v92 : Int) =>
    jb1 (
    jg (rg v92 ∧ rg v62)
    (if v92 ≤ v62 then
    (if v92 = v62 then
    (some (v66 + 1))
    else
    (some v66))
    else
    (some 0))) fun (v93 : Int) =>
    jb1 (
    jg (rg v92 ∧ rg v62)
    (if v92 ≤ v62 then
    (some v63)
    else
    (some c68))) fun (v95 : Int) =>
    jb1 (
    jg (rg v92 ∧ rg v62)
    (if v92 ≤ v62 then
    (some v64)
    else
    (some v86))) fun (v97 : Int) =>
    jb1 (
    jg (rg v92 ∧ rg v62)
    (if v92 ≤ v62 then
    (some v65)
    else
    (some v88))) fun (v99 : Int) =>
    jg (rg v92 ∧ rg v62)
    (if v92 ≤ v62 then
    (md_best_l84 g c60 c61 c67 c68 c69 fuel v62 v95 v97 v99 v93 (v70 + 1))
    else
    (md_best_l84 g c60 c61 c67 c68 c69 fuel v92 v95 v97 v99 v93 (v70 + 1)))))))
    else
    (some (v62, v63, v64, v65, v66)))
noncomputable def md_best_l72 (g : gm_T) (c35 : Int) (c36 : Int) (c42 : Int) (c43 : Int) : Nat → Int → Int → Int → Int → Int → Int → Option (Int × Int × Int × Int × Int)
  | 0, _, _, _, _, _, _ => none
  | fuel + 1, v37, v38, v39, v40, v41, v44 =>
    jg (rg v44 ∧ rg (gm_I g 44 60))
    (if v44 < (gm_I g 44 60) then
    (jb5 (md_best_l84 g c35 c36 c42 c43 v44 fz v37 v38 v39 v40 v41 0) fun (v104 : Int) (v105 : Int) (v106 : Int) (v107 : Int) (v108 : Int) =>
    md_best_l72 g c35 c36 c42 c43 fuel v104 v105 v106 v107 v108 (v44 + 1))
    else
    (some (v37, v38, v39, v40, v41)))
noncomputable def md_best_l63 (g : gm_T) (c9 : Int) (c10 : Int) (c16 : Int) : Nat → Int → Int → Int → Int → Int → Int → Option (Int × Int × Int × Int × Int)
  | 0, _, _, _, _, _, _ => none
  | fuel + 1, v11, v12, v13, v14, v15, v17 =>
    jg (rg v17)
    (if v17 < 4 then
    (jb5 (md_best_l72 g c9 c10 c16 v17 fz v11 v12 v13 v14 v15 0) fun (v114 : Int) (v115 : Int) (v116 : Int) (v117 : Int) (v118 : Int) =>
    md_best_l63 g c9 c10 c16 fuel v114 v115 v116 v117 v118 (v17 + 1))
    else
    (some (v11, v12, v13, v14, v15)))
noncomputable def md_best (g : gm_T) (a1 : Int) (a2 : Int) : Option (Int) :=
    jb1 (md_isBit g a1) fun (v1 : Int) =>
    jg (rg v1)
    (if v1 = 0 then
    (some (-100000))
    else
    (jb1 (md_in g a2 0 4) fun (v3 : Int) =>
    jg (rg v3)
    (if v3 = 0 then
    (some (-100000))
    else
    (jg (rg (gm_I g 44 59))
    (if (gm_I g 44 59) = 0 then
    (some (-100001))
    else
    (jg (0 ≤ a1 ∧ a1 < 30)
    (jg (rg (gm_I g 50 a1.toNat))
    (if (gm_I g 50 a1.toNat) = 0 then
    (some (-100001))
    else
    (jl ((5 * a1)) fun (v8 : Int) =>
    jb5 (md_best_l63 g a1 a2 v8 fz (-1) 0 0 0 0 0) fun (v125 : Int) (v126 : Int) (v127 : Int) (v128 : Int) (v129 : Int) =>
    jg (rg v125)
    (if v125 = (-1) then
    (some (-100001))
    else
    (jg (rg a2)
    (if a2 = 0 then
    (some v125)
    else
    (if a2 = 1 then
    (some v126)
    else
    (if a2 = 2 then
    (some v127)
    else
    (if a2 = 3 then
    (some v128)
    else
    (some v129))))))))))))))))
noncomputable def md_holdsOf (g : gm_T) (a1 : Int) (a2 : Int) : Option (gm_T) :=
    jb1 (md_holds g 0 0 0) fun (g1 : gm_T) =>
    jg (0 ≤ a1 ∧ a1 < 3)
    (jb1 (md_thenBack g1 (gm_I g1 91 a1.toNat) (gm_I g1 92 a1.toNat) (gm_I g1 93 a1.toNat)) fun (g3 : gm_T) =>
    jg (0 ≤ a2 ∧ a2 < 3)
    (jb1 (md_then g3 (gm_I g3 91 a2.toNat) (gm_I g3 92 a2.toNat) (gm_I g3 93 a2.toNat)) fun (g5 : gm_T) =>
    some g5))
noncomputable def md_worthOf_l81 (g : gm_T) (c30 : Int) (c31 : Int) (c32 : Int) (c33 : Int) (c34 : Int) (c36 : Int) : Nat → Int → Int → Option (Int)
  | 0, _, _ => none
  | fuel + 1, v35, v37 =>
    jg (0 ≤ c31 ∧ c31 < 30)
    (jg (rg v37 ∧ rg (gm_I g 46 c31.toNat))
    (if v37 < (gm_I g 46 c31.toNat) then
    (jb1 (md_isFit g c30 c36 c31 v37) fun (v44 : Int) =>
    jb1 (
    jg (rg v44)
    (if v44 = 0 then
    (some 0)
    else
    (jb1 (md_entry g c30 c36 c31 v37) fun (v47 : Int) =>
    jg (0 ≤ v47 ∧ v47 < 57600)
    (jg (rg (gm_I g 63 v47.toNat) ∧ rg c32)
    (if (gm_I g 63 v47.toNat) = c32 then
    (jb1 (md_fitX g c30 c36 c31 v37) fun (v50 : Int) =>
    jg (rg v50 ∧ rg c33)
    (if v50 = c33 then
    (jb1 (md_fitY g c30 c36 c31 v37) fun (v52 : Int) =>
    jg (rg v52 ∧ rg c34)
    (if v52 = c34 then
    (some 1)
    else
    (some 0)))
    else
    (some 0)))
    else
    (some 0)))))) fun (v45 : Int) =>
    jg (rg v45)
    (if v45 = 0 then
    (jl ((v35 + 0)) fun (v55 : Int) =>
    md_worthOf_l81 g c30 c31 c32 c33 c34 c36 fuel v55 (v37 + 1))
    else
    (jb1 (md_scoreOf g c30 c36 c31 v37) fun (v57 : Int) =>
    jl ((v35 + v57)) fun (v58 : Int) =>
    md_worthOf_l81 g c30 c31 c32 c33 c34 c36 fuel v58 (v37 + 1))))
    else
    (some v35)))
noncomputable def md_worthOf_l67 (g : gm_T) (c13 : Int) (c14 : Int) (c15 : Int) (c16 : Int) (c17 : Int) : Nat → Int → Int → Option (Int)
  | 0, _, _ => none
  | fuel + 1, v18, v19 =>
    jg (0 ≤ c13 ∧ c13 < 30)
    (jg (rg v19 ∧ rg (gm_I g 46 c13.toNat))
    (if v19 < (gm_I g 46 c13.toNat) then
    (jb1 (md_worthOf_l81 g c13 c14 c15 c16 c17 v19 fz v18 0) fun (v62 : Int) =>
    md_worthOf_l67 g c13 c14 c15 c16 c17 fuel v62 (v19 + 1))
    else
    (some v18)))
noncomputable def md_worthOf (g : gm_T) (a1 : Int) (a2 : Int) : Option (Int × gm_T) :=
    jg (0 ≤ a1 ∧ a1 < 3)
    (jl ((gm_I g 90 a1.toNat)) fun (v2 : Int) =>
    jg (0 ≤ a2 ∧ a2 < 3)
    (jl ((gm_I g 90 a2.toNat)) fun (v4 : Int) =>
    jb1 (md_holdsOf g a1 a2) fun (g5 : gm_T) =>
    jl ((gm_I g5 44 49)) fun (v6 : Int) =>
    jl ((gm_I g5 44 50)) fun (v7 : Int) =>
    jl ((gm_I g5 44 51)) fun (v8 : Int) =>
    jb1 (md_overlaps g5 v2 v4 v6 v7 v8) fun (v9 : Int) =>
    jg (rg v9 ∧ rg (gm_I g5 44 20))
    (if v9 ≤ (gm_I g5 44 20) then
    (jb1 (md_worthOf_l67 g5 v2 v4 v6 v7 v8 fz 0 0) fun (v68 : Int) =>
    some (v68, g5))
    else
    (some ((-1), g5)))))
noncomputable def md_isAhead_l2 (g : gm_T)  : Nat → Int → Option (Int)
  | 0, _ => none
  | fuel + 1, v1 =>
    jg (rg v1 ∧ rg (gm_I g 44 72))
    (if v1 < (gm_I g 44 72) then
    (jg (0 ≤ v1 ∧ v1 < 3)
    (jg (rg (gm_I g 91 v1.toNat) ∧ rg (gm_I g 94 v1.toNat))
    (if (gm_I g 91 v1.toNat) = (gm_I g 94 v1.toNat) then
    (jg (rg (gm_I g 92 v1.toNat) ∧ rg (gm_I g 95 v1.toNat))
    (if (gm_I g 92 v1.toNat) = (gm_I g 95 v1.toNat) then
    (jg (rg (gm_I g 93 v1.toNat) ∧ rg (gm_I g 96 v1.toNat))
    (if (gm_I g 93 v1.toNat) = (gm_I g 96 v1.toNat) then
    (md_isAhead_l2 g fuel (v1 + 1))
    else
    (if (gm_I g 93 v1.toNat) < (gm_I g 96 v1.toNat) then
    (some 1)
    else
    (some 0))))
    else
    (if (gm_I g 92 v1.toNat) < (gm_I g 95 v1.toNat) then
    (some 1)
    else
    (some 0))))
    else
    (if (gm_I g 91 v1.toNat) < (gm_I g 94 v1.toNat) then
    (some 1)
    else
    (some 0)))))
    else
    (some 0))
noncomputable def md_isAhead (g : gm_T)  : Option (Int) :=
    md_isAhead_l2 g fz 1
noncomputable def md_judgesSet_l97  : Nat → Int → gm_T → Option (gm_T)
  | 0, _, _ => none
  | fuel + 1, v22, g24 =>
    jg (rg v22 ∧ rg (gm_I g24 44 72))
    (if v22 < (gm_I g24 44 72) then
    (jg (0 ≤ v22 ∧ v22 < 3)
    (jl (gm_wI g24 94 v22.toNat (gm_I g24 91 v22.toNat)) fun (g29 : gm_T) =>
    jl (gm_wI g29 95 v22.toNat (gm_I g29 92 v22.toNat)) fun (g30 : gm_T) =>
    jl (gm_wI g30 96 v22.toNat (gm_I g30 93 v22.toNat)) fun (g31 : gm_T) =>
    md_judgesSet_l97  fuel (v22 + 1) g31))
    else
    (some g24))
noncomputable def md_judgesSet (g : gm_T)  : Option (gm_T) :=
    jb2 (md_worthOf g 0 1) fun (v1 : Int) (g2 : gm_T) =>
    jb2 (
    jg (rg v1)
    (if v1 < 0 then
    (some (v1, g2))
    else
    (jg (rg (gm_I g2 44 72))
    (if (gm_I g2 44 72) = 3 then
    (jb2 (md_worthOf g2 0 2) fun (v9 : Int) (g10 : gm_T) =>
    jb2 (
    jg (rg v9)
    (if v9 < 0 then
    (some ((-1), g10))
    else
    (jb2 (md_worthOf g10 1 2) fun (v14 : Int) (g15 : gm_T) =>
    some (v14, g15)))) fun (v11 : Int) (g12 : gm_T) =>
    jg (rg v11)
    (if v11 < 0 then
    (some ((-1), g12))
    else
    (jl (((v1 + v9) + v11)) fun (v17 : Int) =>
    some (v17, g12))))
    else
    (some (v1, g2)))))) fun (v3 : Int) (g6 : gm_T) =>
    jg (rg v3)
    (if v3 < 0 then
    (some g6)
    else
    (jg (rg (gm_I g6 44 73))
    (if (gm_I g6 44 73) = (-1) then
    (jl (gm_wI g6 44 73 v3) fun (g20 : gm_T) =>
    jb1 (md_judgesSet_l97  fz 0 g20) fun (g36 : gm_T) =>
    some g36)
    else
    (if v3 ≤ (gm_I g6 44 73) then
    (if v3 = (gm_I g6 44 73) then
    (jb1 (md_isAhead g6) fun (v37 : Int) =>
    jg (rg v37)
    (if v37 = 0 then
    (some g6)
    else
    (jl (gm_wI g6 44 73 v3) fun (g39 : gm_T) =>
    jb1 (md_judgesSet_l97  fz 0 g39) fun (g49 : gm_T) =>
    some g49)))
    else
    (some g6))
    else
    (jl (gm_wI g6 44 73 v3) fun (g50 : gm_T) =>
    jb1 (md_judgesSet_l97  fz 0 g50) fun (g60 : gm_T) =>
    some g60)))))
noncomputable def md_tries_l34 (rec : gm_T → Int → Int → Int → Int → Option gm_T) (c19 : Int) (c20 : Int) (c21 : Int) (c22 : Int) (c23 : Int) (c24 : Int) (c25 : Int) : Nat → Int → gm_T → Option (gm_T)
  | 0, _, _ => none
  | fuel + 1, v26, g27 =>
    jg (0 ≤ c24 ∧ c24 < 30)
    (jg (rg v26 ∧ rg (gm_I g27 46 c24.toNat))
    (if v26 < (gm_I g27 46 c24.toNat) then
    (jb1 (md_isFit g27 c23 c25 c24 v26) fun (v32 : Int) =>
    jg (rg v32)
    (if v32 = 0 then
    (md_tries_l34 rec c19 c20 c21 c22 c23 c24 c25 fuel (v26 + 1) g27)
    else
    (jg (0 ≤ c19 ∧ c19 < 3)
    (jb1 (md_holds g27 (gm_I g27 91 c19.toNat) (gm_I g27 92 c19.toNat) (gm_I g27 93 c19.toNat)) fun (g36 : gm_T) =>
    jb1 (md_entry g36 c23 c25 c24 v26) fun (v37 : Int) =>
    jg (0 ≤ v37 ∧ v37 < 57600)
    (jb1 (md_fitX g36 c23 c25 c24 v26) fun (v39 : Int) =>
    jb1 (md_fitY g36 c23 c25 c24 v26) fun (v40 : Int) =>
    jb1 (md_then g36 (gm_I g36 63 v37.toNat) v39 v40) fun (g41 : gm_T) =>
    jg (0 ≤ c20 ∧ c20 < 3)
    (jl (gm_wI g41 91 c20.toNat (gm_I g41 44 49)) fun (g42 : gm_T) =>
    jl (gm_wI g42 92 c20.toNat (gm_I g42 44 50)) fun (g44 : gm_T) =>
    jl (gm_wI g44 93 c20.toNat (gm_I g44 44 51)) fun (g45 : gm_T) =>
    jg (rg c22)
    (if c22 = (-1) then
    (jb1 (md_judgesSet g45) fun (g47 : gm_T) =>
    md_tries_l34 rec c19 c20 c21 c22 c23 c24 c25 fuel (v26 + 1) g47)
    else
    (jb1 (rec g45 c21 c22 (-1) (-1)) fun (g49 : gm_T) =>
    md_tries_l34 rec c19 c20 c21 c22 c23 c24 c25 fuel (v26 + 1) g49))))))))
    else
    (some g27)))
noncomputable def md_tries_l19 (rec : gm_T → Int → Int → Int → Int → Option gm_T) (c5 : Int) (c6 : Int) (c7 : Int) (c8 : Int) (c9 : Int) (c10 : Int) : Nat → Int → gm_T → Option (gm_T)
  | 0, _, _ => none
  | fuel + 1, v11, g13 =>
    jg (0 ≤ c9 ∧ c9 < 30)
    (jg (rg v11 ∧ rg (gm_I g13 46 c9.toNat))
    (if v11 < (gm_I g13 46 c9.toNat) then
    (jb1 (md_tries_l34 rec c5 c6 c7 c8 c9 c10 v11 fz 0 g13) fun (g52 : gm_T) =>
    md_tries_l19 rec c5 c6 c7 c8 c9 c10 fuel (v11 + 1) g52)
    else
    (some g13)))
noncomputable def md_tries_b (rec : gm_T → Int → Int → Int → Int → Option gm_T) (g : gm_T) (a1 : Int) (a2 : Int) (a3 : Int) (a4 : Int) : Option (gm_T) :=
    jg (0 ≤ a1 ∧ a1 < 3)
    (jl ((gm_I g 90 a1.toNat)) fun (v2 : Int) =>
    jg (0 ≤ a2 ∧ a2 < 3)
    (jl ((gm_I g 90 a2.toNat)) fun (v4 : Int) =>
    jb1 (md_tries_l19 rec a1 a2 a3 a4 v2 v4 fz 0 g) fun (g56 : gm_T) =>
    some g56))
noncomputable def md_tries : Nat → gm_T → Int → Int → Int → Int → Option gm_T
  | 0, _, _, _, _, _ => none
  | f + 1, g, a1, a2, a3, a4 => md_tries_b (md_tries f) g a1 a2 a3 a4
noncomputable def md_arrange_l26 (c3 : Int) : Nat → Int → Int → gm_T → Option (Int × gm_T)
  | 0, _, _, _ => none
  | fuel + 1, v4, v5, g6 =>
    jg (rg v5 ∧ rg (gm_I g6 44 3))
    (if v5 < (gm_I g6 44 3) then
    (if (zA (zSr c3 v5) 1) = 1 then
    (jg (rg v4)
    (if v4 < 3 then
    (jg (0 ≤ v4 ∧ v4 < 3)
    (jl (gm_wI g6 90 v4.toNat v5) fun (g12 : gm_T) =>
    md_arrange_l26 c3 fuel (v4 + 1) (v5 + 1) g12))
    else
    (md_arrange_l26 c3 fuel (v4 + 1) (v5 + 1) g6)))
    else
    (md_arrange_l26 c3 fuel v4 (v5 + 1) g6))
    else
    (some (v4, g6)))
noncomputable def md_arrange_l165 (c38 : Int) : Nat → Int → gm_T → Option (gm_T)
  | 0, _, _ => none
  | fuel + 1, v39, g40 =>
    jg (rg v39 ∧ rg c38)
    (if v39 < c38 then
    (jg (0 ≤ v39 ∧ v39 < 3)
    (jl (gm_wI g40 97 v39.toNat (gm_I g40 90 v39.toNat)) fun (g45 : gm_T) =>
    jl (gm_wI g45 98 v39.toNat (gm_I g45 94 v39.toNat)) fun (g46 : gm_T) =>
    jl (gm_wI g46 99 v39.toNat (gm_I g46 95 v39.toNat)) fun (g47 : gm_T) =>
    jl (gm_wI g47 100 v39.toNat (gm_I g47 96 v39.toNat)) fun (g48 : gm_T) =>
    md_arrange_l165 c38 fuel (v39 + 1) g48))
    else
    (some g40))
noncomputable def md_arrange (g : gm_T) (a1 : Int) : Option (Int × gm_T) :=
    jg (rg a1)
    (if a1 < 0 then
    (some ((-2), g))
    else
    (if a1 < (zSl 1 (gm_I g 44 3)) then
    (jl (gm_wI g 44 72 0) fun (g2 : gm_T) =>
    jb2 (md_arrange_l26 a1 fz 0 0 g2) fun (v19 : Int) (g21 : gm_T) =>
    jb1 (md_in g21 v19 2 3) fun (v22 : Int) =>
    jg (rg v22)
    (if v22 = 0 then
    (some ((-2), g21))
    else
    (jl (gm_wI g21 44 72 v19) fun (g24 : gm_T) =>
    jl (gm_wI g24 44 73 (-1)) fun (g25 : gm_T) =>
    jl (gm_wI g25 91 0 0) fun (g26 : gm_T) =>
    jl (gm_wI g26 92 0 0) fun (g27 : gm_T) =>
    jl (gm_wI g27 93 0 0) fun (g28 : gm_T) =>
    jb1 (
    jg (rg v19)
    (if v19 = 2 then
    (jb1 (md_tries 2 g28 0 1 (-1) (-1)) fun (g31 : gm_T) =>
    some g31)
    else
    (jb1 (md_tries 2 g28 0 1 0 2) fun (g32 : gm_T) =>
    jb1 (md_tries 2 g32 0 1 1 2) fun (g33 : gm_T) =>
    jb1 (md_tries 2 g33 0 2 2 1) fun (g34 : gm_T) =>
    some g34))) fun (g29 : gm_T) =>
    jg (rg (gm_I g29 44 73))
    (if (gm_I g29 44 73) = (-1) then
    (some ((-5), g29))
    else
    (jl (gm_wI g29 44 77 v19) fun (g36 : gm_T) =>
    jb1 (md_arrange_l165 v19 fz 0 g36) fun (g52 : gm_T) =>
    some ((gm_I g52 44 73), g52))))))
    else
    (some ((-2), g))))
noncomputable def md_arranged_l2 (g : gm_T) (c1 : Int) (c2 : Int) : Nat → Int → Option (Int)
  | 0, _ => none
  | fuel + 1, v3 =>
    jg (rg v3 ∧ rg (gm_I g 44 77))
    (if v3 < (gm_I g 44 77) then
    (jg (0 ≤ v3 ∧ v3 < 3)
    (jg (rg (gm_I g 97 v3.toNat) ∧ rg c1)
    (if (gm_I g 97 v3.toNat) = c1 then
    (jb1 (md_in g c2 0 2) fun (v7 : Int) =>
    jg (rg v7)
    (if v7 = 0 then
    (md_arranged_l2 g c1 c2 fuel (v3 + 1))
    else
    (jg (rg c2)
    (if c2 = 0 then
    (some (gm_I g 98 v3.toNat))
    else
    (if c2 = 1 then
    (some (gm_I g 99 v3.toNat))
    else
    (some (gm_I g 100 v3.toNat)))))))
    else
    (md_arranged_l2 g c1 c2 fuel (v3 + 1)))))
    else
    (some (-100000)))
noncomputable def md_arranged (g : gm_T) (a1 : Int) (a2 : Int) : Option (Int) :=
    md_arranged_l2 g a1 a2 fz 0
noncomputable def md_boxOf_l6 (g : gm_T) (c1 : Int) (c2 : Int) (c3 : Int) : Nat → Int → Int → Option (Int)
  | 0, _, _ => none
  | fuel + 1, v4, v5 =>
    jg (rg v5 ∧ rg c3)
    (if v5 < c3 then
    (jg (0 ≤ v5 ∧ v5 < 100)
    (jb1 (
    jg (rg (gm_I g 104 v5.toNat) ∧ rg c1)
    (if (gm_I g 104 v5.toNat) = c1 then
    (jg (rg (gm_I g 106 v5.toNat) ∧ rg c2)
    (if (gm_I g 106 v5.toNat) ≤ c2 then
    (some 1)
    else
    (some 0)))
    else
    (some 0))) fun (v12 : Int) =>
    jg (rg v12)
    (if v12 = 0 then
    (md_boxOf_l6 g c1 c2 c3 fuel v4 (v5 + 1))
    else
    (jg (rg v4)
    (if v4 = (-1) then
    (md_boxOf_l6 g c1 c2 c3 fuel v5 (v5 + 1))
    else
    (jg (0 ≤ v4 ∧ v4 < 100)
    (jg (rg (gm_I g 106 v5.toNat) ∧ rg (gm_I g 106 v4.toNat))
    (if (gm_I g 106 v5.toNat) < (gm_I g 106 v4.toNat) then
    (md_boxOf_l6 g c1 c2 c3 fuel v4 (v5 + 1))
    else
    (md_boxOf_l6 g c1 c2 c3 fuel v5 (v5 + 1))))))))))
    else
    (some v4))
noncomputable def md_boxOf (g : gm_T) (a1 : Int) (a2 : Int) (a3 : Int) : Option (Int) :=
    jb1 (md_boxOf_l6 g a1 a2 a3 fz (-1) 0) fun (v23 : Int) =>
    jg (rg v23)
    (if v23 = (-1) then
    (some (-1))
    else
    (jg (0 ≤ v23 ∧ v23 < 100)
    (some (gm_I g 105 v23.toNat))))
noncomputable def md_letter_l166 (g : gm_T) (c50 : Int) : Nat → Int → Int → Option (Int)
  | 0, _, _ => none
  | fuel + 1, v51, v52 =>
    jg (rg v52 ∧ rg (gm_I g 44 24))
    (if v52 < (gm_I g 44 24) then
    (jg (0 ≤ v52 ∧ v52 < 60)
    (jg (rg (gm_I g 69 v52.toNat))
    (if (gm_I g 69 v52.toNat) = 0 then
    (jl ((v51 + 0)) fun (v58 : Int) =>
    md_letter_l166 g c50 fuel v58 (v52 + 1))
    else
    (jg (rg (gm_I g 65 v52.toNat) ∧ rg c50)
    (if (gm_I g 65 v52.toNat) = c50 then
    (jl ((v51 + 1)) fun (v61 : Int) =>
    md_letter_l166 g c50 fuel v61 (v52 + 1))
    else
    (jg (rg (gm_I g 67 v52.toNat))
    (if (gm_I g 67 v52.toNat) = c50 then
    (jl ((v51 + 1)) fun (v64 : Int) =>
    md_letter_l166 g c50 fuel v64 (v52 + 1))
    else
    (jl ((v51 + 0)) fun (v66 : Int) =>
    md_letter_l166 g c50 fuel v66 (v52 + 1)))))))))
    else
    (some v51))
noncomputable def md_letter (g : gm_T) (a1 : Int) : Option (Int) :=
    jl ((gm_I g 44 86)) fun (v1 : Int) =>
    jg (rg a1)
    (if a1 = 99 then
    (jg (0 ≤ v1 ∧ v1 < 30)
    (some (gm_I g 50 v1.toNat)))
    else
    (if a1 = 100 then
    (jb1 (md_boxOf g v1 999 (gm_I g 44 87)) fun (v80 : Int) =>
    jg (rg v80)
    (if v80 = (-1) then
    (some 99)
    else
    (some v80)))
    else
    (if a1 = 101 then
    (jg (0 ≤ v1 ∧ v1 < 30)
    (some (gm_I g 46 v1.toNat)))
    else
    (if a1 = 102 then
    (jb1 (md_boxOf g v1 999 (gm_I g 44 87)) fun (v77 : Int) =>
    jg (rg v77)
    (if v77 = (-1) then
    (some 99)
    else
    (some v77)))
    else
    (if a1 = 103 then
    (jg (0 ≤ v1 ∧ v1 < 30)
    (jb1 (md_sizeOf g (gm_I g 78 v1.toNat)) fun (v76 : Int) =>
    some v76))
    else
    (if a1 = 104 then
    (jb1 (md_boxOf g v1 999 (gm_I g 44 87)) fun (v73 : Int) =>
    jg (rg v73)
    (if v73 = (-1) then
    (some 99)
    else
    (some v73)))
    else
    (if a1 = 105 then
    (jb1 (md_boxOf g v1 999 (gm_I g 44 87)) fun (v71 : Int) =>
    jg (rg v71)
    (if v71 = (-1) then
    (some 99)
    else
    (some v71)))
    else
    (if a1 = 106 then
    (jb1 (md_letter_l166 g v1 fz 0 0) fun (v69 : Int) =>
    some v69)
    else
    (if a1 = 107 then
    (jb1 (md_boxOf g v1 999 (gm_I g 44 87)) fun (v47 : Int) =>
    jg (rg v47)
    (if v47 = (-1) then
    (some 99)
    else
    (some v47)))
    else
    (if a1 = 108 then
    (jb1 (md_boxOf g v1 999 (gm_I g 44 87)) fun (v45 : Int) =>
    jg (rg v45)
    (if v45 = (-1) then
    (some 99)
    else
    (some v45)))
    else
    (if a1 = 109 then
    (jb1 (md_boxOf g v1 999 (gm_I g 44 87)) fun (v43 : Int) =>
    jg (rg v43)
    (if v43 = (-1) then
    (some 99)
    else
    (some v43)))
    else
    (if a1 = 110 then
    (jg (0 ≤ v1 ∧ v1 < 30)
    (some (gm_I g 57 v1.toNat)))
    else
    (if a1 = 111 then
    (jb1 (md_boxOf g v1 999 (gm_I g 44 87)) fun (v40 : Int) =>
    jg (rg v40)
    (if v40 = (-1) then
    (some 99)
    else
    (some v40)))
    else
    (if a1 = 112 then
    (jg (0 ≤ v1 ∧ v1 < 30)
    (some (gm_I g 56 v1.toNat)))
    else
    (if a1 = 113 then
    (jb1 (md_boxOf g v1 999 (gm_I g 44 87)) fun (v37 : Int) =>
    jg (rg v37)
    (if v37 = (-1) then
    (some 99)
    else
    (some v37)))
    else
    (if a1 = 114 then
    (jb1 (md_boxOf g v1 999 (gm_I g 44 87)) fun (v35 : Int) =>
    jg (rg v35)
    (if v35 = (-1) then
    (some 99)
    else
    (some v35)))
    else
    (if a1 = 115 then
    (jg (0 ≤ v1 ∧ v1 < 30)
    (jg (rg (gm_I g 55 v1.toNat))
    (if (gm_I g 55 v1.toNat) = (-1) then
    (some 9)
    else
    (some (gm_I g 55 v1.toNat)))))
    else
    (if a1 = 116 then
    (jg (0 ≤ v1 ∧ v1 < 30)
    (some (gm_I g 54 v1.toNat)))
    else
    (if a1 = 117 then
    (jb1 (md_boxOf g v1 999 (gm_I g 44 87)) fun (v30 : Int) =>
    jg (rg v30)
    (if v30 = (-1) then
    (some 99)
    else
    (some v30)))
    else
    (if a1 = 118 then
    (jg (0 ≤ v1 ∧ v1 < 30)
    (jg (rg (gm_I g 101 v1.toNat))
    (if (gm_I g 101 v1.toNat) = 0 then
    (some 0)
    else
    (some 1))))
    else
    (if a1 = 119 then
    (jg (0 ≤ v1 ∧ v1 < 30)
    (jg (rg (gm_I g 102 v1.toNat))
    (if (gm_I g 102 v1.toNat) = 0 then
    (some 0)
    else
    (some 1))))
    else
    (jb1 (md_boxOf g v1 999 (gm_I g 44 87)) fun (v3 : Int) =>
    jg (rg v3)
    (if v3 = (-1) then
    (some 99)
    else
    (some v3))))))))))))))))))))))))
noncomputable def md_isLetter (g : gm_T) (a0 : Int) : Option (Int) :=
    jg (rg a0)
    (if a0 = 116 then
    (some 1)
    else
    (if a0 = 115 then
    (some 1)
    else
    (if a0 = 112 then
    (some 1)
    else
    (if a0 = 101 then
    (some 1)
    else
    (if a0 = 110 then
    (some 1)
    else
    (if a0 = 99 then
    (some 1)
    else
    (if a0 = 106 then
    (some 1)
    else
    (if a0 = 103 then
    (some 1)
    else
    (if a0 = 119 then
    (some 1)
    else
    (if a0 = 118 then
    (some 1)
    else
    (if a0 = 98 then
    (some 1)
    else
    (some 0))))))))))))
noncomputable def md_test_l117 (c20 : Int) (c21 : Int) : Nat → Int → Int → gm_T → Option (Int × gm_T)
  | 0, _, _, _ => none
  | fuel + 1, v22, v23, g24 =>
    jg (rg v23)
    (if v23 < 2 then
    (jg (rg (gm_I g24 44 41))
    (if (gm_I g24 44 41) = 0 then
    (jg (rg v22)
    (if v22 ≤ 0 then
    (some (v22, g24))
    else
    (jb1 (md_isDigit g24) fun (v31 : Int) =>
    jg (rg v31)
    (if v31 = 0 then
    (some (v22, g24))
    else
    (jb2 (md_digit g24) fun (v33 : Int) (g34 : gm_T) =>
    jl (((10 * v22) + v33)) fun (v35 : Int) =>
    md_test_l117 c20 c21 fuel v35 (v23 + 1) g34)))))
    else
    (some (v22, g24))))
    else
    (some (v22, g24)))
noncomputable def md_test (g : gm_T)  : Option (Int × gm_T) :=
    jb1 (md_byteAt g) fun (v1 : Int) =>
    jb1 (
    jg (rg (gm_I g 44 41))
    (if (gm_I g 44 41) = 0 then
    (jb1 (md_isLetter g v1) fun (v4 : Int) =>
    jg (rg v4)
    (if v4 = 0 then
    (some 1)
    else
    (some 0)))
    else
    (some 1))) fun (v2 : Int) =>
    jg (v2 = 0 ∨ v2 = 1)
    (jl (gm_wI g 44 41 v2) fun (g6 : gm_T) =>
    jb1 (
    jg (rg (gm_I g6 44 41))
    (if (gm_I g6 44 41) = 0 then
    (some 1)
    else
    (some 0))) fun (v7 : Int) =>
    jl (gm_wI g6 44 40 ((gm_I g6 44 40) + v7)) fun (g9 : gm_T) =>
    jb1 (md_byteAt g9) fun (v10 : Int) =>
    jb1 (
    jg (rg (gm_I g9 44 41))
    (if (gm_I g9 44 41) = 0 then
    (jg (rg v10)
    (if v10 = 60 then
    (some 0)
    else
    (if v10 = 61 then
    (some 0)
    else
    (if v10 = 62 then
    (some 0)
    else
    (some 1)))))
    else
    (some 1))) fun (v11 : Int) =>
    jg (v11 = 0 ∨ v11 = 1)
    (jl (gm_wI g9 44 41 v11) fun (g14 : gm_T) =>
    jb1 (
    jg (rg (gm_I g14 44 41))
    (if (gm_I g14 44 41) = 0 then
    (some 1)
    else
    (some 0))) fun (v15 : Int) =>
    jl (gm_wI g14 44 40 ((gm_I g14 44 40) + v15)) fun (g17 : gm_T) =>
    jb2 (md_digit g17) fun (v18 : Int) (g19 : gm_T) =>
    jb2 (md_test_l117 v1 v10 fz v18 0 g19) fun (v37 : Int) (g39 : gm_T) =>
    jg (rg (gm_I g39 44 41))
    (if (gm_I g39 44 41) = 0 then
    (jg (rg (gm_I g39 44 86))
    (if (gm_I g39 44 86) = (-1) then
    (some (0, g39))
    else
    (jb1 (md_letter g39 v1) fun (v42 : Int) =>
    jg (rg v10)
    (if v10 = 60 then
    (jg (rg v42 ∧ rg v37)
    (if v42 < v37 then
    (some (1, g39))
    else
    (some (0, g39))))
    else
    (if v10 = 61 then
    (jg (rg v42 ∧ rg v37)
    (if v42 = v37 then
    (some (1, g39))
    else
    (some (0, g39))))
    else
    (jg (rg v42 ∧ rg v37)
    (if v42 ≤ v37 then
    (some (0, g39))
    else
    (some (1, g39)))))))))
    else
    (some (0, g39)))))
noncomputable def md_term_l5 (rec : Nat → gm_T → Option (Int × gm_T))  : Nat → Int → gm_T → Option (Int × gm_T)
  | 0, _, _ => none
  | fuel + 1, v3, g5 =>
    jg (rg (gm_I g5 44 41))
    (if (gm_I g5 44 41) = 0 then
    (jb1 (md_byteAt g5) fun (v10 : Int) =>
    jg (rg v10)
    (if v10 = 38 then
    (jl (gm_wI g5 44 40 ((gm_I g5 44 40) + 1)) fun (g12 : gm_T) =>
    jb2 (rec 2 g12) fun (v13 : Int) (g14 : gm_T) =>
    jg (rg v3)
    (if v3 = 0 then
    (md_term_l5 rec  fuel 0 g14)
    else
    (jg (rg v13)
    (if v13 = 0 then
    (md_term_l5 rec  fuel 0 g14)
    else
    (md_term_l5 rec  fuel 1 g14)))))
    else
    (some (v3, g5))))
    else
    (some (v3, g5)))
noncomputable def md_term_b (rec : Nat → gm_T → Option (Int × gm_T)) (g : gm_T)  : Option (Int × gm_T) :=
    jb2 (rec 2 g) fun (v1 : Int) (g2 : gm_T) =>
    jb2 (md_term_l5 rec  fz v1 g2) fun (v17 : Int) (g19 : gm_T) =>
    jg (v17 = 0 ∨ v17 = 1) (some (v17, g19))
noncomputable def md_question_l5 (rec : Nat → gm_T → Option (Int × gm_T))  : Nat → Int → gm_T → Option (Int × gm_T)
  | 0, _, _ => none
  | fuel + 1, v3, g5 =>
    jg (rg (gm_I g5 44 41))
    (if (gm_I g5 44 41) = 0 then
    (jb1 (md_byteAt g5) fun (v10 : Int) =>
    jg (rg v10)
    (if v10 = 124 then
    (jl (gm_wI g5 44 40 ((gm_I g5 44 40) + 1)) fun (g12 : gm_T) =>
    jb2 (rec 1 g12) fun (v13 : Int) (g14 : gm_T) =>
    jg (rg v3)
    (if v3 = 0 then
    (jg (rg v13)
    (if v13 = 0 then
    (md_question_l5 rec  fuel 0 g14)
    else
    (md_question_l5 rec  fuel 1 g14)))
    else
    (md_question_l5 rec  fuel 1 g14)))
    else
    (some (v3, g5))))
    else
    (some (v3, g5)))
noncomputable def md_question_b (rec : Nat → gm_T → Option (Int × gm_T)) (g : gm_T)  : Option (Int × gm_T) :=
    jb2 (rec 1 g) fun (v1 : Int) (g2 : gm_T) =>
    jb2 (md_question_l5 rec  fz v1 g2) fun (v17 : Int) (g19 : gm_T) =>
    jg (v17 = 0 ∨ v17 = 1) (some (v17, g19))
noncomputable def md_factor_b (rec : Nat → gm_T → Option (Int × gm_T)) (g : gm_T)  : Option (Int × gm_T) :=
    jg (rg (gm_I g 44 41))
    (if (gm_I g 44 41) = 0 then
    (jb1 (md_byteAt g) fun (v2 : Int) =>
    jg (rg v2)
    (if v2 = 33 then
    (jl (gm_wI g 44 40 ((gm_I g 44 40) + 1)) fun (g4 : gm_T) =>
    jb2 (rec 2 g4) fun (v5 : Int) (g6 : gm_T) =>
    jg (rg v5)
    (if v5 = 0 then
    (some (1, g6))
    else
    (some (0, g6))))
    else
    (if (gm_I g 44 41) = 0 then
    (jb1 (md_byteAt g) fun (v8 : Int) =>
    jg (rg v8)
    (if v8 = 40 then
    (jl (gm_wI g 44 40 ((gm_I g 44 40) + 1)) fun (g10 : gm_T) =>
    jb2 (rec 0 g10) fun (v11 : Int) (g12 : gm_T) =>
    jb1 (md_must g12 41) fun (g13 : gm_T) =>
    jg (v11 = 0 ∨ v11 = 1) (some (v11, g13)))
    else
    (jb2 (md_test g) fun (v14 : Int) (g15 : gm_T) =>
    jg (v14 = 0 ∨ v14 = 1) (some (v14, g15)))))
    else
    (jb2 (md_test g) fun (v16 : Int) (g17 : gm_T) =>
    jg (v16 = 0 ∨ v16 = 1) (some (v16, g17))))))
    else
    (if (gm_I g 44 41) = 0 then
    (jb1 (md_byteAt g) fun (v18 : Int) =>
    jg (rg v18)
    (if v18 = 40 then
    (jl (gm_wI g 44 40 ((gm_I g 44 40) + 1)) fun (g20 : gm_T) =>
    jb2 (rec 0 g20) fun (v21 : Int) (g22 : gm_T) =>
    jb1 (md_must g22 41) fun (g23 : gm_T) =>
    jg (v21 = 0 ∨ v21 = 1) (some (v21, g23)))
    else
    (jb2 (md_test g) fun (v24 : Int) (g25 : gm_T) =>
    jg (v24 = 0 ∨ v24 = 1) (some (v24, g25)))))
    else
    (jb2 (md_test g) fun (v26 : Int) (g27 : gm_T) =>
    jg (v26 = 0 ∨ v26 = 1) (some (v26, g27)))))
noncomputable def md_qtf : Nat → Nat → gm_T → Option (Int × gm_T)
  | 0, _, _ => none
  | f + 1, 0, g => md_question_b (md_qtf f) g
  | f + 1, 1, g => md_term_b (md_qtf f) g
  | f + 1, _ + 2, g => md_factor_b (md_qtf f) g
noncomputable def md_asks (g : gm_T) (a1 : Int) : Option (Int × gm_T) :=
    jl (gm_wI g 44 86 a1) fun (g1 : gm_T) =>
    jl (gm_wI g1 44 40 0) fun (g2 : gm_T) =>
    jl (gm_wI g2 44 41 0) fun (g3 : gm_T) =>
    jb2 (md_qtf 800 0 g3) fun (v4 : Int) (g5 : gm_T) =>
    jg (v4 = 0 ∨ v4 = 1) (some (v4, g5))
noncomputable def md_ask_l63  : Nat → Int → gm_T → Option (gm_T)
  | 0, _, _ => none
  | fuel + 1, v11, g12 =>
    jg (rg v11 ∧ rg (gm_I g12 44 3))
    (if v11 < (gm_I g12 44 3) then
    (jb2 (md_onWall g12 v11) fun (v16 : Int) (g17 : gm_T) =>
    jg (0 ≤ v11 ∧ v11 < 30)
    (jg (v16 = 0 ∨ v16 = 1)
    (jl (gm_wI g17 102 v11.toNat v16) fun (g18 : gm_T) =>
    jb2 (md_provedFrom g18 v11) fun (v20 : Int) (g21 : gm_T) =>
    jg (rg v20)
    (if v20 = (-1) then
    (jl (gm_wI g21 101 v11.toNat 0) fun (g23 : gm_T) =>
    md_ask_l63  fuel (v11 + 1) g23)
    else
    (jl (gm_wI g21 101 v11.toNat 1) fun (g25 : gm_T) =>
    md_ask_l63  fuel (v11 + 1) g25)))))
    else
    (some g12))
noncomputable def md_ask_l115  : Nat → Int → gm_T → Option (gm_T)
  | 0, _, _ => none
  | fuel + 1, v32, g33 =>
    jg (rg v32 ∧ rg (gm_I g33 44 3))
    (if v32 < (gm_I g33 44 3) then
    (jb2 (md_asks g33 v32) fun (v37 : Int) (g38 : gm_T) =>
    jg (rg v37)
    (if v37 = 0 then
    (md_ask_l115  fuel (v32 + 1) g38)
    else
    (jg (0 ≤ (gm_I g38 44 84) ∧ (gm_I g38 44 84) < 30)
    (jl (gm_wI g38 103 ((gm_I g38 44 84)).toNat v32) fun (g41 : gm_T) =>
    jl (gm_wI g41 44 84 ((gm_I g41 44 84) + 1)) fun (g43 : gm_T) =>
    md_ask_l115  fuel (v32 + 1) g43))))
    else
    (some g33))
noncomputable def md_ask (g : gm_T)  : Option (Int × gm_T) :=
    jb2 (md_asks g (-1)) fun (v1 : Int) (g2 : gm_T) =>
    jb1 (
    jg (rg (gm_I g2 44 41))
    (if (gm_I g2 44 41) = 0 then
    (jg (rg (gm_I g2 44 40) ∧ rg (gm_I g2 44 2))
    (if (gm_I g2 44 40) = (gm_I g2 44 2) then
    (some 0)
    else
    (some 1)))
    else
    (some 1))) fun (v3 : Int) =>
    jg (v3 = 0 ∨ v3 = 1)
    (jl (gm_wI g2 44 41 v3) fun (g6 : gm_T) =>
    jg (rg (gm_I g6 44 41))
    (if (gm_I g6 44 41) = 0 then
    (jb1 (md_groups g6) fun (g8 : gm_T) =>
    jb1 (md_judges g8) fun (g9 : gm_T) =>
    jb1 (md_ask_l63  fz 0 g9) fun (g29 : gm_T) =>
    jl (gm_wI g29 44 84 0) fun (g30 : gm_T) =>
    jb1 (md_ask_l115  fz 0 g30) fun (g47 : gm_T) =>
    jl (gm_wI g47 44 2 0) fun (g48 : gm_T) =>
    some ((gm_I g48 44 84), g48))
    else
    (jl (gm_wI g6 44 2 0) fun (g49 : gm_T) =>
    some (((-10) - (gm_I g49 44 40)), g49))))
noncomputable def md_asked (g : gm_T) (a1 : Int) : Option (Int) :=
    jb1 (md_in g a1 0 ((gm_I g 44 84) - 1)) fun (v1 : Int) =>
    jg (rg v1)
    (if v1 = 0 then
    (some (-1))
    else
    (jg (0 ≤ a1 ∧ a1 < 30)
    (some (gm_I g 103 a1.toNat))))
noncomputable def md_enter (g : gm_T) (a1 : Int) (a2 : Int) (a3 : Int) : Option (Int × gm_T) :=
    jb1 (md_isBit g a1) fun (v1 : Int) =>
    jg (rg v1)
    (if v1 = 0 then
    (some ((-1), g))
    else
    (jb1 (md_in g a2 (-1) 9) fun (v3 : Int) =>
    jg (rg v3)
    (if v3 = 0 then
    (some ((-1), g))
    else
    (jb1 (md_in g a3 0 999) fun (v5 : Int) =>
    jg (rg v5)
    (if v5 = 0 then
    (some ((-2), g))
    else
    (jg (rg (gm_I g 44 87))
    (if (gm_I g 44 87) = 100 then
    (some ((-4), g))
    else
    (jg (0 ≤ (gm_I g 44 87) ∧ (gm_I g 44 87) < 100)
    (jl (gm_wI g 104 ((gm_I g 44 87)).toNat a1) fun (g8 : gm_T) =>
    jg (0 ≤ (gm_I g8 44 87) ∧ (gm_I g8 44 87) < 100)
    (jl (gm_wI g8 105 ((gm_I g8 44 87)).toNat a2) fun (g10 : gm_T) =>
    jg (0 ≤ (gm_I g10 44 87) ∧ (gm_I g10 44 87) < 100)
    (jl (gm_wI g10 106 ((gm_I g10 44 87)).toNat a3) fun (g12 : gm_T) =>
    jl (gm_wI g12 44 87 ((gm_I g12 44 87) + 1)) fun (g14 : gm_T) =>
    some ((gm_I g14 44 87), g14))))))))))))
noncomputable def md_box (g : gm_T) (a1 : Int) (a2 : Int) (a3 : Int) : Option (Int) :=
    jb1 (md_isBit g a1) fun (v1 : Int) =>
    jg (rg v1)
    (if v1 = 0 then
    (some (-1))
    else
    (jb1 (md_in g a3 0 (gm_I g 44 87)) fun (v3 : Int) =>
    jg (rg v3)
    (if v3 = 0 then
    (some (-1))
    else
    (jb1 (md_in g a2 0 999) fun (v5 : Int) =>
    jg (rg v5)
    (if v5 = 0 then
    (some (-2))
    else
    (jb1 (md_boxOf g a1 a2 a3) fun (v7 : Int) =>
    jg (rg v7)
    (if v7 = (-1) then
    (some (-5))
    else
    (some v7))))))))
noncomputable def md_skill (g : gm_T) (a1 : Int) (a2 : Int) (a3 : Int) : Option (Int × gm_T) :=
    jb1 (md_in g a1 0 5) fun (v1 : Int) =>
    jg (rg v1)
    (if v1 = 0 then
    (some ((-1), g))
    else
    (jb1 (md_in g a2 0 9) fun (v3 : Int) =>
    jg (rg v3)
    (if v3 = 0 then
    (some ((-1), g))
    else
    (jb1 (md_in g a3 0 9) fun (v5 : Int) =>
    jg (rg v5)
    (if v5 = 0 then
    (some ((-2), g))
    else
    (jg (0 ≤ ((10 * a1) + a2) ∧ ((10 * a1) + a2) < 60)
    (jl ((gm_I g 107 (((10 * a1) + a2)).toNat)) fun (v8 : Int) =>
    jl (gm_wI g 107 (((10 * a1) + a2)).toNat a3) fun (g9 : gm_T) =>
    some (v8, g9))))))))
noncomputable def md_goesOn (g : gm_T) (a1 : Int) (a2 : Int) (a3 : Int) : Option (Int) :=
    jg (rg a3)
    (if a3 = 10 then
    (jg (0 ≤ (((1024 * a1) + 1024) + a2) ∧ (((1024 * a1) + 1024) + a2) < 7168)
    (some (gm_I g 109 ((((1024 * a1) + 1024) + a2)).toNat)))
    else
    (if (zA (zSr a2 a3) 1) = 0 then
    (some (-1))
    else
    (jg (0 ≤ ((10 * a1) + a3) ∧ ((10 * a1) + a3) < 60)
    (jg (0 ≤ (((1024 * a1) + 1024) + (zA a2 (zX (zSl 1 a3) (-1)))) ∧ (((1024 * a1) + 1024) + (zA a2 (zX (zSl 1 a3) (-1)))) < 7168)
    (some ((gm_I g 108 (((10 * a1) + a3)).toNat) + (gm_I g 109 ((((1024 * a1) + 1024) + (zA a2 (zX (zSl 1 a3) (-1))))).toNat)))))))
noncomputable def md_shares_l2  : Nat → Int → gm_T → Option (gm_T)
  | 0, _, _ => none
  | fuel + 1, v1, g2 =>
    jg (rg v1)
    (if v1 < 60 then
    (jg (0 ≤ v1 ∧ v1 < 60)
    (jl (gm_wI g2 108 v1.toNat 0) fun (g6 : gm_T) =>
    md_shares_l2  fuel (v1 + 1) g6))
    else
    (some g2))
noncomputable def md_shares_l46 (c21 : Int) (c22 : Int) : Nat → Int → gm_T → Option (gm_T)
  | 0, _, _ => none
  | fuel + 1, v23, g24 =>
    jg (rg v23)
    (if v23 < 6 then
    (jg (rg c22)
    (if c22 = (-1) then
    (some g24)
    else
    (jg (0 ≤ ((10 * v23) + c22) ∧ ((10 * v23) + c22) < 60)
    (jg (0 ≤ c21 ∧ c21 < 30)
    (jg (0 ≤ ((10 * v23) + (gm_I g24 56 c21.toNat)) ∧ ((10 * v23) + (gm_I g24 56 c21.toNat)) < 60)
    (jl (gm_wI g24 108 (((10 * v23) + c22)).toNat ((gm_I g24 108 (((10 * v23) + c22)).toNat) + (gm_I g24 107 (((10 * v23) + (gm_I g24 56 c21.toNat))).toNat))) fun (g32 : gm_T) =>
    md_shares_l46 c21 c22 fuel (v23 + 1) g32))))))
    else
    (some g24))
noncomputable def md_shares_l23  : Nat → Int → gm_T → Option (gm_T)
  | 0, _, _ => none
  | fuel + 1, v11, g14 =>
    jg (rg v11 ∧ rg (gm_I g14 44 3))
    (if v11 < (gm_I g14 44 3) then
    (jb1 (md_boxOf g14 v11 999 (gm_I g14 44 87)) fun (v20 : Int) =>
    jb1 (md_shares_l46 v11 v20 fz 0 g14) fun (g35 : gm_T) =>
    md_shares_l23  fuel (v11 + 1) g35)
    else
    (some g14))
noncomputable def md_shares_l101  : Nat → Int → gm_T → Option (gm_T)
  | 0, _, _ => none
  | fuel + 1, v41, g44 =>
    jg (rg v41)
    (if v41 < 1024 then
    (jg (0 ≤ (6144 + v41) ∧ (6144 + v41) < 7168)
    (jl (gm_wI g44 109 ((6144 + v41)).toNat 0) fun (g48 : gm_T) =>
    md_shares_l101  fuel (v41 + 1) g48))
    else
    (some g44))
noncomputable def md_shares_l145 (g : gm_T) (c80 : Int) (c81 : Int) : Nat → Int → Int → Option (Int)
  | 0, _, _ => none
  | fuel + 1, v82, v83 =>
    jg (rg v83)
    (if v83 ≤ 10 then
    (jb1 (md_goesOn g c80 c81 v83) fun (v89 : Int) =>
    jg (rg v89 ∧ rg v82)
    (if v89 ≤ v82 then
    (md_shares_l145 g c80 c81 fuel v82 (v83 + 1))
    else
    (md_shares_l145 g c80 c81 fuel v89 (v83 + 1))))
    else
    (some v82))
noncomputable def md_shares_l133 (c68 : Int) : Nat → Int → gm_T → Option (gm_T)
  | 0, _, _ => none
  | fuel + 1, v69, g73 =>
    jg (rg v69)
    (if v69 < 1024 then
    (jb1 (md_shares_l145 g73 c68 v69 fz (-1) 0) fun (v93 : Int) =>
    jg (0 ≤ ((1024 * c68) + v69) ∧ ((1024 * c68) + v69) < 7168)
    (jl (gm_wI g73 109 (((1024 * c68) + v69)).toNat v93) fun (g96 : gm_T) =>
    md_shares_l133 c68 fuel (v69 + 1) g96))
    else
    (some g73))
noncomputable def md_shares_l127  : Nat → Int → gm_T → Option (gm_T)
  | 0, _, _ => none
  | fuel + 1, v55, g60 =>
    jg (rg v55)
    (if v55 < 0 then
    (some g60)
    else
    (jb1 (md_shares_l133 v55 fz 0 g60) fun (g103 : gm_T) =>
    md_shares_l127  fuel (v55 + (-1)) g103))
noncomputable def md_shares_l220 (g : gm_T) (c122 : Int) (c123 : Int) : Nat → Int → Option (Int)
  | 0, _ => none
  | fuel + 1, v124 =>
    jb1 (md_goesOn g c123 c122 v124) fun (v128 : Int) =>
    jg (0 ≤ ((1024 * c123) + c122) ∧ ((1024 * c123) + c122) < 7168)
    (jg (rg v128 ∧ rg (gm_I g 109 (((1024 * c123) + c122)).toNat))
    (if v128 = (gm_I g 109 (((1024 * c123) + c122)).toNat) then
    (some v124)
    else
    (md_shares_l220 g c122 c123 fuel (v124 + 1))))
noncomputable def md_shares_l212  : Nat → Int → Int → gm_T → Option (gm_T)
  | 0, _, _, _ => none
  | fuel + 1, v111, v112, g116 =>
    jg (rg v112)
    (if v112 < 6 then
    (jb1 (md_shares_l220 g116 v111 v112 fz 0) fun (v132 : Int) =>
    jb1 (
    jg (rg v132)
    (if v132 = 10 then
    (some (-5))
    else
    (some v132))) fun (v135 : Int) =>
    jg (0 ≤ v112 ∧ v112 < 6)
    (jl (gm_wI g116 110 v112.toNat v135) fun (g137 : gm_T) =>
    jg (rg v132)
    (if v132 = 10 then
    (md_shares_l212  fuel v111 (v112 + 1) g137)
    else
    (jl ((zA v111 (zX (zSl 1 v132) (-1)))) fun (v141 : Int) =>
    md_shares_l212  fuel v141 (v112 + 1) g137))))
    else
    (some g116))
noncomputable def md_shares (g : gm_T)  : Option (Int × gm_T) :=
    jb1 (md_shares_l2  fz 0 g) fun (g10 : gm_T) =>
    jb1 (md_shares_l23  fz 0 g10) fun (g40 : gm_T) =>
    jb1 (md_shares_l101  fz 0 g40) fun (g54 : gm_T) =>
    jb1 (md_shares_l127  fz 5 g54) fun (g110 : gm_T) =>
    jb1 (md_shares_l212  fz 1023 0 g110) fun (g148 : gm_T) =>
    some ((gm_I g148 109 1023), g148)
noncomputable def md_share (g : gm_T) (a1 : Int) : Option (Int × gm_T) :=
    jb1 (md_in g a1 (-1) 5) fun (v1 : Int) =>
    jg (rg v1)
    (if v1 = 0 then
    (some ((-100000), g))
    else
    (jb2 (md_shares g) fun (v3 : Int) (g4 : gm_T) =>
    jg (rg a1)
    (if a1 = (-1) then
    (some (v3, g4))
    else
    (jg (0 ≤ a1 ∧ a1 < 6)
    (some ((gm_I g4 110 a1.toNat), g4))))))
noncomputable def md_count_l213  : Nat → Int → Int → gm_T → Option (Int × gm_T)
  | 0, _, _, _ => none
  | fuel + 1, v14, v15, g16 =>
    jg (rg v15 ∧ rg (gm_I g16 44 3))
    (if v15 < (gm_I g16 44 3) then
    (jb2 (md_provedFrom g16 v15) fun (v21 : Int) (g22 : gm_T) =>
    jg (rg v21)
    (if v21 = (-1) then
    (jl ((v14 + 0)) fun (v24 : Int) =>
    md_count_l213  fuel v24 (v15 + 1) g22)
    else
    (jl ((v14 + 1)) fun (v26 : Int) =>
    md_count_l213  fuel v26 (v15 + 1) g22)))
    else
    (some (v14, g16)))
noncomputable def md_count_l174 (g : gm_T)  : Nat → Int → Int → Option (Int)
  | 0, _, _ => none
  | fuel + 1, v33, v34 =>
    jg (rg v34 ∧ rg (gm_I g 44 3))
    (if v34 < (gm_I g 44 3) then
    (jg (0 ≤ v34 ∧ v34 < 30)
    (jg (rg (gm_I g 70 v34.toNat))
    (if (gm_I g 70 v34.toNat) = 0 then
    (jl ((v33 + 0)) fun (v40 : Int) =>
    md_count_l174 g fuel v40 (v34 + 1))
    else
    (jl ((v33 + 1)) fun (v42 : Int) =>
    md_count_l174 g fuel v42 (v34 + 1)))))
    else
    (some v33))
noncomputable def md_count_l134 (g : gm_T)  : Nat → Int → Int → Option (Int)
  | 0, _, _ => none
  | fuel + 1, v48, v49 =>
    jg (rg v49 ∧ rg (gm_I g 44 3))
    (if v49 < (gm_I g 44 3) then
    (jg (0 ≤ v49 ∧ v49 < 30)
    (jb1 (md_holder g (gm_I g 78 v49.toNat)) fun (v54 : Int) =>
    jg (rg v54)
    (if v54 = (-1) then
    (jl ((v48 + 0)) fun (v56 : Int) =>
    md_count_l134 g fuel v56 (v49 + 1))
    else
    (jl ((v48 + 1)) fun (v58 : Int) =>
    md_count_l134 g fuel v58 (v49 + 1)))))
    else
    (some v48))
noncomputable def md_count_l98 (g : gm_T)  : Nat → Int → Int → Option (Int)
  | 0, _, _ => none
  | fuel + 1, v64, v65 =>
    jg (rg v65 ∧ rg (gm_I g 44 3))
    (if v65 < (gm_I g 44 3) then
    (jg (0 ≤ v65 ∧ v65 < 30)
    (jg (rg (gm_I g 78 v65.toNat))
    (if (gm_I g 78 v65.toNat) = v65 then
    (jl ((v64 + 1)) fun (v71 : Int) =>
    md_count_l98 g fuel v71 (v65 + 1))
    else
    (jl ((v64 + 0)) fun (v73 : Int) =>
    md_count_l98 g fuel v73 (v65 + 1)))))
    else
    (some v64))
noncomputable def md_count_l63 (g : gm_T)  : Nat → Int → Int → Option (Int)
  | 0, _, _ => none
  | fuel + 1, v79, v80 =>
    jg (rg v80 ∧ rg (gm_I g 44 24))
    (if v80 < (gm_I g 44 24) then
    (jg (0 ≤ v80 ∧ v80 < 60)
    (jg (rg (gm_I g 69 v80.toNat))
    (if (gm_I g 69 v80.toNat) = 0 then
    (jl ((v79 + 0)) fun (v86 : Int) =>
    md_count_l63 g fuel v86 (v80 + 1))
    else
    (jl ((v79 + 1)) fun (v88 : Int) =>
    md_count_l63 g fuel v88 (v80 + 1)))))
    else
    (some v79))
noncomputable def md_count (g : gm_T) (a1 : Int) : Option (Int × gm_T) :=
    jb1 (md_groups g) fun (g1 : gm_T) =>
    jg (rg a1)
    (if a1 = 0 then
    (some ((gm_I g1 44 3), g1))
    else
    (if a1 = 1 then
    (jb1 (md_count_l63 g1 fz 0 0) fun (v91 : Int) =>
    some (v91, g1))
    else
    (if a1 = 2 then
    (jb1 (md_count_l98 g1 fz 0 0) fun (v76 : Int) =>
    some (v76, g1))
    else
    (if a1 = 3 then
    (jb1 (md_count_l134 g1 fz 0 0) fun (v61 : Int) =>
    some (v61, g1))
    else
    (if a1 = 4 then
    (jb1 (md_count_l174 g1 fz 0 0) fun (v45 : Int) =>
    some (v45, g1))
    else
    (if a1 = 5 then
    (jb1 (md_judges g1) fun (g12 : gm_T) =>
    jb2 (md_count_l213  fz 0 0 g12) fun (v29 : Int) (g31 : gm_T) =>
    some (v29, g31))
    else
    (if a1 = 6 then
    (some ((gm_I g1 44 87), g1))
    else
    (if a1 = 7 then
    (some ((gm_I g1 44 2), g1))
    else
    (if a1 = 8 then
    (some ((gm_I g1 44 24), g1))
    else
    (some ((-1), g1)))))))))))
theorem rf_md_in {s : gm_S} {n m : Nat} (hs : gm_sh s n m) (d : Nat)  (g : gm_T) (a0 : Int) (a1 : Int) (a2 : Int)  : jr (pI s g) (md_in g a0 a1 a2) (jm_cl jm_CD km_n (d + 1) 171 [gv a0, gv a1, gv a2] (gm_h s g)) := by
  unfold md_in
  exact (r_ent (cd := cd_171) (n := 3) (L0 := [some (gv a0), some (gv a1), some (gv a2)]) rfl rfl rfl rfl (
      r_iload (pc2 := 1) rfl rfl rfl (
      r_iload (pc2 := 2) rfl rfl rfl (
      jr_g fun h1 => r_clt (pc2 := 5) (t := 14) rfl h1.1 h1.2 rfl (fun _ =>
      r_ic (x := 0) (pc2 := 15) rfl ic_0 rfl (
      r_zret rfl (by decide) rfl)) (fun _ =>
      r_iload (pc2 := 6) rfl rfl rfl (
      r_iload (pc2 := 7) rfl rfl rfl (
      jr_g fun h2 => r_cgt (pc2 := 10) (t := 14) rfl h1.1 h2 rfl (fun _ =>
      r_ic (x := 1) (pc2 := 11) rfl ic_1 rfl (
      r_goto (t := 15) rfl (
      r_zret rfl (by decide) rfl))) (fun _ =>
      r_ic (x := 0) (pc2 := 15) rfl ic_0 rfl (
      r_zret rfl (by decide) rfl)))))))))
theorem rf_md_isBit {s : gm_S} {n m : Nat} (hs : gm_sh s n m) (d : Nat)  (g : gm_T) (a1 : Int)  : jr (pI s g) (md_isBit g a1) (jm_cl jm_CD km_n (d + 2) 172 [.ref 44, gv a1] (gm_h s g)) := by
  unfold md_isBit
  exact (r_ent (cd := cd_172) (n := 2) (L0 := [some (.ref 44), some (gv a1)]) rfl rfl rfl rfl (
      r_iload (pc2 := 1) rfl rfl rfl (
      r_ic (x := 0) (pc2 := 2) rfl ic_0 rfl (
      r_aload (pc2 := 3) rfl rfl rfl (
      r_getI (pc2 := 6) rfl rfl (sh_T hs rfl rfl) (
      r_ic (x := 1) (pc2 := 7) rfl ic_1 rfl (
      r_isub (pc2 := 8) rfl rfl (
      r_callSP (pc2 := 11) (args := [gv a1, gv 0, gv ((gm_I g 44 3) - 1)]) (st2 := []) rfl rfl rfl rfl rfl rfl (rf_md_in hs d g a1 0 ((gm_I g 44 3) - 1) ) fun v1 => (
      jr_g fun hz => r_zret rfl hz rfl)))))))))
theorem rf_md_isEdge {s : gm_S} {n m : Nat} (hs : gm_sh s n m) (d : Nat)  (g : gm_T) (a1 : Int) (a2 : Int)  : jr (pI s g) (md_isEdge g a1 a2) (jm_cl jm_CD km_n (d + 3) 173 [.ref 44, gv a1, gv a2] (gm_h s g)) := by
  unfold md_isEdge
  exact (r_ent (cd := cd_173) (n := 3) (L0 := [some (.ref 44), some (gv a1), some (gv a2)]) rfl rfl rfl rfl (
      r_aload (pc2 := 1) rfl rfl rfl (
      r_iload (pc2 := 2) rfl rfl rfl (
      r_callVP (pc2 := 5) (args := [.ref 44, gv a1]) (st2 := []) rfl rfl rfl rfl rfl rfl (rc_of (sh_T hs rfl rfl)) (rf_md_isBit hs d g a1 ) fun v1 => (
      jr_g fun h2 => r_ifeq (pc2 := 8) (t := 28) rfl h2 rfl (fun _ =>
      r_ic (x := 0) (pc2 := 29) rfl ic_0 rfl (
      r_zret rfl (by decide) rfl)) (fun _ =>
      r_iload (pc2 := 9) rfl rfl rfl (
      r_ic (x := 0) (pc2 := 10) rfl ic_0 rfl (
      r_aload (pc2 := 11) rfl rfl rfl (
      r_getA (pc2 := 14) rfl rfl (sh_T hs rfl rfl) (sh_A hs rfl rfl) (
      r_iload (pc2 := 15) rfl rfl rfl (
      jr_g fun h3 => r_iald (len := 30) (pc2 := 16) rfl rfl (sh_T hs rfl rfl) (sh_L hs rfl rfl) rfl h3 (
      r_ic (x := 1) (pc2 := 17) rfl ic_1 rfl (
      r_isub (pc2 := 18) rfl rfl (
      r_callSP (pc2 := 21) (args := [gv a2, gv 0, gv ((gm_I g 46 a1.toNat) - 1)]) (st2 := []) rfl rfl rfl rfl rfl rfl (rf_md_in hs (d + 1) g a2 0 ((gm_I g 46 a1.toNat) - 1) ) fun v4 => (
      jr_g fun h5 => r_ifeq (pc2 := 24) (t := 28) rfl h5 rfl (fun _ =>
      r_ic (x := 0) (pc2 := 29) rfl ic_0 rfl (
      r_zret rfl (by decide) rfl)) (fun _ =>
      r_ic (x := 1) (pc2 := 25) rfl ic_1 rfl (
      r_goto (t := 29) rfl (
      r_zret rfl (by decide) rfl))))))))))))))))))
theorem rl_md_feed_l33 {s : gm_S} {n m : Nat} (hs : gm_sh s n m) (d : Nat)  (c5 : Int64)  : ∀ (fuel : Nat) (v7 : Int) (g8 : gm_T) (j6 : Option Value) (hj6 : jm_lg j6 = false), jr (fun (q : gm_T) (c : Option jm_R) => ∃ (j9 : Option Value), jm_lg j9 = false ∧ c = jm_sup cd_174 (jm_cl jm_CD km_n (d + 1)) (75, [some (.ref 44), some (.long c5), none, j6, j9], [], gm_h s q)) (md_feed_l33  c5 fuel v7 g8) (jm_sup cd_174 (jm_cl jm_CD km_n (d + 1)) (33, [some (.ref 44), some (.long c5), none, j6, some (gv v7)], [], gm_h s g8)) := by
  intro fuel
  induction fuel with
  | zero => intros; exact jr_none
  | succ fuel ih =>
    intro v7 g8 j6 hj6
    unfold md_feed_l33
    exact (
      r_iload (pc2 := 35) rfl rfl rfl (
      jr_g fun h11 => r_iflt (pc2 := 38) (t := 75) rfl h11 rfl (fun _ =>
      jr_leaf ⟨_, rfl, rfl⟩) (fun _ =>
      r_aload (pc2 := 39) rfl rfl rfl (
      r_getA (pc2 := 42) rfl rfl (sh_T hs rfl rfl) (sh_A hs rfl rfl) (
      r_aload (pc2 := 43) rfl rfl rfl (
      r_getI (pc2 := 46) rfl rfl (sh_T hs rfl rfl) (
      r_lload (pc2 := 47) rfl rfl rfl (
      r_ic (x := 8) (pc2 := 49) rfl ic_8 rfl (
      r_iload (pc2 := 51) rfl rfl rfl (
      r_imul (pc2 := 52) rfl rfl (
      r_lshr (pc2 := 53) rfl rfl (
      r_lc (pc2 := 56) rfl rfl (
      r_land (pc2 := 57) rfl rfl (
      r_l2i (pc2 := 58) rfl rfl (
      jr_g fun h13 => r_iast (len := 240) (pc2 := 59) rfl rfl (sh_T hs rfl rfl) (sh_L hs rfl rfl) rfl h13 fun g12 => (
      r_aload (pc2 := 60) rfl rfl rfl (
      r_dup (pc2 := 61) rfl rfl rfl (
      r_getI (pc2 := 64) rfl rfl (sh_T hs rfl rfl) (
      r_ic (x := 1) (pc2 := 65) rfl ic_1 rfl (
      r_iadd (pc2 := 66) rfl rfl (
      r_putI (pc2 := 69) rfl rfl (sh_T hs rfl rfl) fun g14 => (
      r_iinc (kk := -1) (L2 := [some (.ref 44), some (.long c5), none, j6, some (gv (v7 + (-1)))]) (pc2 := 72) rfl ic_m1 rfl rfl (jm_st1j hj6 rfl ⟨rfl, rfl⟩) (
      r_goto (t := 33) rfl (
      ih (v7 + (-1)) g14 _ hj6))))))))))))))))))))))))
theorem rf_md_feed {s : gm_S} {n m : Nat} (hs : gm_sh s n m) (d : Nat)  (g : gm_T) (a1 : Int64) (a3 : Int)  : jr (eI s) (md_feed g a1 a3) (jm_cl jm_CD km_n (d + 2) 174 [.ref 44, .long a1, gv a3] (gm_h s g)) := by
  unfold md_feed
  exact (r_ent (cd := cd_174) (n := 5) (L0 := [some (.ref 44), some (.long a1), none, some (gv a3), none]) rfl rfl rfl rfl (
      r_iload (pc2 := 1) rfl rfl rfl (
      r_ic (x := 1) (pc2 := 2) rfl ic_1 rfl (
      r_ic (x := 8) (pc2 := 4) rfl ic_8 rfl (
      r_callSP (pc2 := 7) (args := [gv a3, gv 1, gv 8]) (st2 := []) rfl rfl rfl rfl rfl rfl (rf_md_in hs d g a3 1 8 ) fun v1 => (
      jr_g fun h2 => r_ifne (pc2 := 10) (t := 13) rfl h2 rfl (fun _ =>
      r_ic (x := -2) (pc2 := 12) rfl ic_m2 rfl (
      r_iret rfl rfl)) (fun _ =>
      r_aload (pc2 := 14) rfl rfl rfl (
      r_getI (pc2 := 17) rfl rfl (sh_T hs rfl rfl) (
      r_iload (pc2 := 18) rfl rfl rfl (
      r_iadd (pc2 := 19) rfl rfl (
      r_ic (x := 240) (pc2 := 22) rfl ic_240 rfl (
      jr_g fun h3 => r_cle (pc2 := 25) (t := 28) rfl h3 (rgk rfl) rfl (fun _ =>
      r_iload (pc2 := 29) rfl rfl rfl (
      r_ic (x := 1) (pc2 := 30) rfl ic_1 rfl (
      r_isub (pc2 := 31) rfl rfl (
      r_istoreL (L3 := fun v4 => [some (.ref 44), some (.long a1), none, some (gv a3), some (gv v4)]) (pc2 := 33) rfl rfl (fun _ => rfl) fun v4 => (
      r_b1 (rl_md_feed_l33 hs d   a1  fz v4 g _ rfl) (fun g18 c h => match c, h with | _, ⟨j17, hj17, rfl⟩ => (
      r_aload (pc2 := 76) rfl rfl rfl (
      r_getI (pc2 := 79) rfl rfl (sh_T hs rfl rfl) (
      r_iret rfl rfl))))))))) (fun _ =>
      r_ic (x := -4) (pc2 := 27) rfl ic_m4 rfl (
      r_iret rfl rfl))))))))))))))
theorem rf_md_byteAt {s : gm_S} {n m : Nat} (hs : gm_sh s n m) (d : Nat)  (g : gm_T)   : jr (pI s g) (md_byteAt g ) (jm_cl jm_CD km_n (d + 1) 175 [.ref 44] (gm_h s g)) := by
  unfold md_byteAt
  exact (r_ent (cd := cd_175) (n := 1) (L0 := [some (.ref 44)]) rfl rfl rfl rfl (
      r_aload (pc2 := 1) rfl rfl rfl (
      r_getI (pc2 := 4) rfl rfl (sh_T hs rfl rfl) (
      r_aload (pc2 := 5) rfl rfl rfl (
      r_getI (pc2 := 8) rfl rfl (sh_T hs rfl rfl) (
      jr_g fun h1 => r_cge (pc2 := 11) (t := 23) rfl h1.1 h1.2 rfl (fun _ =>
      r_aload (pc2 := 12) rfl rfl rfl (
      r_getA (pc2 := 15) rfl rfl (sh_T hs rfl rfl) (sh_A hs rfl rfl) (
      r_aload (pc2 := 16) rfl rfl rfl (
      r_getI (pc2 := 19) rfl rfl (sh_T hs rfl rfl) (
      jr_g fun h2 => r_iald (len := 240) (pc2 := 20) rfl rfl (sh_T hs rfl rfl) (sh_L hs rfl rfl) rfl h2 (
      r_goto (t := 24) rfl (
      r_iret rfl rfl))))))) (fun _ =>
      r_ic (x := -1) (pc2 := 24) rfl ic_m1 rfl (
      r_iret rfl rfl))))))))
theorem rf_md_isDigit {s : gm_S} {n m : Nat} (hs : gm_sh s n m) (d : Nat)  (g : gm_T)   : jr (pI s g) (md_isDigit g ) (jm_cl jm_CD km_n (d + 2) 176 [.ref 44] (gm_h s g)) := by
  unfold md_isDigit
  exact (r_ent (cd := cd_176) (n := 1) (L0 := [some (.ref 44)]) rfl rfl rfl rfl (
      r_aload (pc2 := 1) rfl rfl rfl (
      r_callVP (pc2 := 4) (args := [.ref 44]) (st2 := []) rfl rfl rfl rfl rfl rfl (rc_of (sh_T hs rfl rfl)) (rf_md_byteAt hs d g ) fun v1 => (
      r_ic (x := 48) (pc2 := 6) rfl ic_48 rfl (
      r_ic (x := 57) (pc2 := 8) rfl ic_57 rfl (
      r_callSP (pc2 := 11) (args := [gv v1, gv 48, gv 57]) (st2 := []) rfl rfl rfl rfl rfl rfl (rf_md_in hs d g v1 48 57 ) fun v2 => (
      jr_g fun hz => r_zret rfl hz rfl)))))))
theorem rf_md_must {s : gm_S} {n m : Nat} (hs : gm_sh s n m) (d : Nat)  (g : gm_T) (a1 : Int)  : jr (eV s) (md_must g a1) (jm_cl jm_CD km_n (d + 2) 177 [.ref 44, gv a1] (gm_h s g)) := by
  unfold md_must
  exact (r_ent (cd := cd_177) (n := 2) (L0 := [some (.ref 44), some (gv a1)]) rfl rfl rfl rfl (
      r_aload (pc2 := 1) rfl rfl rfl (
      r_aload (pc2 := 2) rfl rfl rfl (
      r_getI (pc2 := 5) rfl rfl (sh_T hs rfl rfl) (
      r_b1 (R1 := (fun (q : Int) (c : Option jm_R) => c = jm_sup cd_177 (jm_cl jm_CD km_n (d + 1)) (21, [some (.ref 44), some (gv a1)], [gv q, .ref 44], gm_h s g))) (
      jr_g fun h2 => r_ifne (pc2 := 8) (t := 16) rfl h2 rfl (fun _ =>
      r_aload (pc2 := 9) rfl rfl rfl (
      r_callVP (pc2 := 12) (args := [.ref 44]) (st2 := [.ref 44]) rfl rfl rfl rfl rfl rfl (rc_of (sh_T hs rfl rfl)) (rf_md_byteAt hs d g ) fun v3 => (
      r_iload (pc2 := 13) rfl rfl rfl (
      jr_g fun h4 => r_ceq (pc2 := 16) (t := 20) rfl h4.1 h4.2 rfl (fun _ =>
      r_ic (x := 0) (pc2 := 21) rfl ic_0 rfl (
      jr_leaf rfl)) (fun _ =>
      r_ic (x := 1) (pc2 := 17) rfl ic_1 rfl (
      r_goto (t := 21) rfl (
      jr_leaf rfl))))))) (fun _ =>
      r_ic (x := 1) (pc2 := 17) rfl ic_1 rfl (
      r_goto (t := 21) rfl (
      jr_leaf rfl)))) (fun v1 c h => match c, h with | _, rfl => (
      jr_g fun hz => r_putZ (pc2 := 24) rfl rfl (sh_T hs rfl rfl) hz fun g5 => (
      r_aload (pc2 := 25) rfl rfl rfl (
      r_dup (pc2 := 26) rfl rfl rfl (
      r_getI (pc2 := 29) rfl rfl (sh_T hs rfl rfl) (
      r_aload (pc2 := 30) rfl rfl rfl (
      r_getI (pc2 := 33) rfl rfl (sh_T hs rfl rfl) (
      jr_g fun h6 => r_ifeq (pc2 := 36) (t := 40) rfl h6 rfl (fun _ =>
      r_ic (x := 1) (pc2 := 41) rfl ic_1 rfl (
      r_iadd (pc2 := 42) rfl rfl (
      r_putI (pc2 := 45) rfl rfl (sh_T hs rfl rfl) fun g7 => (
      r_vret rfl rfl)))) (fun _ =>
      r_ic (x := 0) (pc2 := 37) rfl ic_0 rfl (
      r_goto (t := 41) rfl (
      r_iadd (pc2 := 42) rfl rfl (
      r_putI (pc2 := 45) rfl rfl (sh_T hs rfl rfl) fun g8 => (
      r_vret rfl rfl))))))))))))))))))
theorem rf_md_digit {s : gm_S} {n m : Nat} (hs : gm_sh s n m) (d : Nat)  (g : gm_T)   : jr (eI s) (md_digit g ) (jm_cl jm_CD km_n (d + 3) 178 [.ref 44] (gm_h s g)) := by
  unfold md_digit
  exact (r_ent (cd := cd_178) (n := 2) (L0 := [some (.ref 44), none]) rfl rfl rfl rfl (
      r_aload (pc2 := 1) rfl rfl rfl (
      r_aload (pc2 := 2) rfl rfl rfl (
      r_getI (pc2 := 5) rfl rfl (sh_T hs rfl rfl) (
      r_b1 (R1 := (fun (q : Int) (c : Option jm_R) => c = jm_sup cd_178 (jm_cl jm_CD km_n (d + 2)) (20, [some (.ref 44), none], [gv q, .ref 44], gm_h s g))) (
      jr_g fun h2 => r_ifne (pc2 := 8) (t := 15) rfl h2 rfl (fun _ =>
      r_aload (pc2 := 9) rfl rfl rfl (
      r_callVP (pc2 := 12) (args := [.ref 44]) (st2 := [.ref 44]) rfl rfl rfl rfl rfl rfl (rc_of (sh_T hs rfl rfl)) (rf_md_isDigit hs d g ) fun v3 => (
      jr_g fun h4 => r_ifne (pc2 := 15) (t := 19) rfl h4 rfl (fun _ =>
      r_ic (x := 1) (pc2 := 16) rfl ic_1 rfl (
      r_goto (t := 20) rfl (
      jr_leaf rfl))) (fun _ =>
      r_ic (x := 0) (pc2 := 20) rfl ic_0 rfl (
      jr_leaf rfl))))) (fun _ =>
      r_ic (x := 1) (pc2 := 16) rfl ic_1 rfl (
      r_goto (t := 20) rfl (
      jr_leaf rfl)))) (fun v1 c h => match c, h with | _, rfl => (
      jr_g fun hz => r_putZ (pc2 := 23) rfl rfl (sh_T hs rfl rfl) hz fun g5 => (
      r_aload (pc2 := 24) rfl rfl rfl (
      r_getI (pc2 := 27) rfl rfl (sh_T hs rfl rfl) (
      r_b1 (R1 := (fun (q : Int) (c : Option jm_R) => c = jm_sup cd_178 (jm_cl jm_CD km_n (d + 2)) (41, [some (.ref 44), none], [gv q], gm_h s g5))) (
      jr_g fun h7 => r_ifeq (pc2 := 30) (t := 34) rfl h7 rfl (fun _ =>
      r_aload (pc2 := 35) rfl rfl rfl (
      r_callVP (pc2 := 38) (args := [.ref 44]) (st2 := []) rfl rfl rfl rfl rfl rfl (rc_of (sh_T hs rfl rfl)) (rf_md_byteAt hs (d + 1) g5 ) fun v8 => (
      r_ic (x := 48) (pc2 := 40) rfl ic_48 rfl (
      r_isub (pc2 := 41) rfl rfl (
      jr_leaf rfl))))) (fun _ =>
      r_ic (x := 0) (pc2 := 31) rfl ic_0 rfl (
      r_goto (t := 41) rfl (
      jr_leaf rfl)))) (fun v6 c h => match c, h with | _, rfl => (
      r_istore (L2 := [some (.ref 44), some (gv v6)]) (pc2 := 42) rfl rfl rfl (
      r_aload (pc2 := 43) rfl rfl rfl (
      r_dup (pc2 := 44) rfl rfl rfl (
      r_getI (pc2 := 47) rfl rfl (sh_T hs rfl rfl) (
      r_aload (pc2 := 48) rfl rfl rfl (
      r_getI (pc2 := 51) rfl rfl (sh_T hs rfl rfl) (
      jr_g fun h9 => r_ifeq (pc2 := 54) (t := 58) rfl h9 rfl (fun _ =>
      r_ic (x := 1) (pc2 := 59) rfl ic_1 rfl (
      r_iadd (pc2 := 60) rfl rfl (
      r_putI (pc2 := 63) rfl rfl (sh_T hs rfl rfl) fun g10 => (
      r_iload (pc2 := 64) rfl rfl rfl (
      r_iret rfl rfl))))) (fun _ =>
      r_ic (x := 0) (pc2 := 55) rfl ic_0 rfl (
      r_goto (t := 59) rfl (
      r_iadd (pc2 := 60) rfl rfl (
      r_putI (pc2 := 63) rfl rfl (sh_T hs rfl rfl) fun g11 => (
      r_iload (pc2 := 64) rfl rfl rfl (
      r_iret rfl rfl))))))))))))))))))))))))
theorem rf_md_place {s : gm_S} {n m : Nat} (hs : gm_sh s n m) (d : Nat)  (g : gm_T)   : jr (eI s) (md_place g ) (jm_cl jm_CD km_n (d + 4) 179 [.ref 44] (gm_h s g)) := by
  unfold md_place
  exact (r_ent (cd := cd_179) (n := 4) (L0 := [some (.ref 44), none, none, none]) rfl rfl rfl rfl (
      r_aload (pc2 := 1) rfl rfl rfl (
      r_getI (pc2 := 4) rfl rfl (sh_T hs rfl rfl) (
      r_b1 (R1 := (fun (q : Int) (c : Option jm_R) => c = jm_sup cd_179 (jm_cl jm_CD km_n (d + 3)) (21, [some (.ref 44), none, none, none], [gv q], gm_h s g))) (
      jr_g fun h2 => r_ifne (pc2 := 7) (t := 20) rfl h2 rfl (fun _ =>
      r_aload (pc2 := 8) rfl rfl rfl (
      r_callVP (pc2 := 11) (args := [.ref 44]) (st2 := []) rfl rfl rfl rfl rfl rfl (rc_of (sh_T hs rfl rfl)) (rf_md_byteAt hs (d + 2) g ) fun v3 => (
      r_ic (x := 45) (pc2 := 13) rfl ic_45 rfl (
      jr_g fun h4 => r_cne (pc2 := 16) (t := 20) rfl h4 (rgk rfl) rfl (fun _ =>
      r_ic (x := 1) (pc2 := 17) rfl ic_1 rfl (
      r_goto (t := 21) rfl (
      jr_leaf rfl))) (fun _ =>
      r_ic (x := 0) (pc2 := 21) rfl ic_0 rfl (
      jr_leaf rfl)))))) (fun _ =>
      r_ic (x := 0) (pc2 := 21) rfl ic_0 rfl (
      jr_leaf rfl))) (fun v1 c h => match c, h with | _, rfl => (
      r_istore (L2 := [some (.ref 44), some (gv v1), none, none]) (pc2 := 22) rfl rfl rfl (
      r_aload (pc2 := 23) rfl rfl rfl (
      r_dup (pc2 := 24) rfl rfl rfl (
      r_getI (pc2 := 27) rfl rfl (sh_T hs rfl rfl) (
      r_iload (pc2 := 28) rfl rfl rfl (
      r_b1 (R1 := (fun (q : Int) (c : Option jm_R) => c = jm_sup cd_179 (jm_cl jm_CD km_n (d + 3)) (36, [some (.ref 44), some (gv v1), none, none], [gv q, gv (gm_I g 44 40), .ref 44], gm_h s g))) (
      jr_g fun h6 => r_ifeq (pc2 := 31) (t := 35) rfl h6 rfl (fun _ =>
      r_ic (x := 0) (pc2 := 36) rfl ic_0 rfl (
      jr_leaf rfl)) (fun _ =>
      r_ic (x := 1) (pc2 := 32) rfl ic_1 rfl (
      r_goto (t := 36) rfl (
      jr_leaf rfl)))) (fun v5 c h => match c, h with | _, rfl => (
      r_iadd (pc2 := 37) rfl rfl (
      r_putI (pc2 := 40) rfl rfl (sh_T hs rfl rfl) fun g7 => (
      r_aload (pc2 := 41) rfl rfl rfl (
      r_aload (pc2 := 42) rfl rfl rfl (
      r_getI (pc2 := 45) rfl rfl (sh_T hs rfl rfl) (
      r_b1 (R1 := (fun (q : Int) (c : Option jm_R) => c = jm_sup cd_179 (jm_cl jm_CD km_n (d + 3)) (66, [some (.ref 44), some (gv v1), none, none], [gv q, .ref 44], gm_h s g7))) (
      jr_g fun h9 => r_ifne (pc2 := 48) (t := 61) rfl h9 rfl (fun _ =>
      r_iload (pc2 := 49) rfl rfl rfl (
      jr_g fun h10 => r_ifeq (pc2 := 52) (t := 65) rfl h10 rfl (fun _ =>
      r_ic (x := 0) (pc2 := 66) rfl ic_0 rfl (
      jr_leaf rfl)) (fun _ =>
      r_aload (pc2 := 53) rfl rfl rfl (
      r_callVP (pc2 := 56) (args := [.ref 44]) (st2 := [.ref 44]) rfl rfl rfl rfl rfl rfl (rc_of (sh_T hs rfl rfl)) (rf_md_byteAt hs (d + 2) g7 ) fun v11 => (
      r_ic (x := 48) (pc2 := 58) rfl ic_48 rfl (
      jr_g fun h12 => r_cne (pc2 := 61) (t := 65) rfl h12 (rgk rfl) rfl (fun _ =>
      r_ic (x := 1) (pc2 := 62) rfl ic_1 rfl (
      r_goto (t := 66) rfl (
      jr_leaf rfl))) (fun _ =>
      r_ic (x := 0) (pc2 := 66) rfl ic_0 rfl (
      jr_leaf rfl)))))))) (fun _ =>
      r_ic (x := 1) (pc2 := 62) rfl ic_1 rfl (
      r_goto (t := 66) rfl (
      jr_leaf rfl)))) (fun v8 c h => match c, h with | _, rfl => (
      jr_g fun hz => r_putZ (pc2 := 69) rfl rfl (sh_T hs rfl rfl) hz fun g13 => (
      r_aload (pc2 := 70) rfl rfl rfl (
      r_callVI (pc2 := 73) (args := [.ref 44]) (st2 := []) rfl rfl rfl rfl rfl rfl (rc_of (sh_T hs rfl rfl)) (rf_md_digit hs d g13 ) fun v14 g15 => (
      r_istore (L2 := [some (.ref 44), some (gv v1), some (gv v14), none]) (pc2 := 74) rfl rfl rfl (
      r_aload (pc2 := 75) rfl rfl rfl (
      r_getI (pc2 := 78) rfl rfl (sh_T hs rfl rfl) (
      r_b2 (R1 := (fun (q : Int × gm_T) (c : Option jm_R) => ∃ (j17 : Option Value), jm_lg j17 = false ∧ c = jm_sup cd_179 (jm_cl jm_CD km_n (d + 3)) (143, [some (.ref 44), some (gv v1), some (gv q.1), j17], [], gm_h s q.2))) (
      jr_g fun h19 => r_ifne (pc2 := 81) (t := 143) rfl h19 rfl (fun _ =>
      r_iload (pc2 := 82) rfl rfl rfl (
      jr_g fun h20 => r_ifle (pc2 := 85) (t := 143) rfl h20 rfl (fun _ =>
      jr_leaf ⟨_, rfl, rfl⟩) (fun _ =>
      r_aload (pc2 := 86) rfl rfl rfl (
      r_callVP (pc2 := 89) (args := [.ref 44]) (st2 := []) rfl rfl rfl rfl rfl rfl (rc_of (sh_T hs rfl rfl)) (rf_md_isDigit hs (d + 1) g15 ) fun v21 => (
      jr_g fun h22 => r_ifeq (pc2 := 92) (t := 143) rfl h22 rfl (fun _ =>
      jr_leaf ⟨_, rfl, rfl⟩) (fun _ =>
      r_ic (x := 10) (pc2 := 94) rfl ic_10 rfl (
      r_iload (pc2 := 95) rfl rfl rfl (
      r_imul (pc2 := 96) rfl rfl (
      r_aload (pc2 := 97) rfl rfl rfl (
      r_callVP (pc2 := 100) (args := [.ref 44]) (st2 := [gv (10 * v14)]) rfl rfl rfl rfl rfl rfl (rc_of (sh_T hs rfl rfl)) (rf_md_byteAt hs (d + 2) g15 ) fun v23 => (
      r_iadd (pc2 := 101) rfl rfl (
      r_ic (x := 48) (pc2 := 103) rfl ic_48 rfl (
      r_isub (pc2 := 104) rfl rfl (
      r_istoreL (L3 := fun v24 => [some (.ref 44), some (gv v1), some (gv v14), some (gv v24)]) (pc2 := 105) rfl rfl (fun _ => rfl) fun v24 => (
      r_aload (pc2 := 106) rfl rfl rfl (
      r_iload (pc2 := 107) rfl rfl rfl (
      r_ic (x := 20) (pc2 := 109) rfl ic_20 rfl (
      r_b1 (R1 := (fun (q : Int) (c : Option jm_R) => c = jm_sup cd_179 (jm_cl jm_CD km_n (d + 3)) (117, [some (.ref 44), some (gv v1), some (gv v14), some (gv v24)], [gv q, .ref 44], gm_h s g15))) (
      jr_g fun h26 => r_cle (pc2 := 112) (t := 116) rfl h26 (rgk rfl) rfl (fun _ =>
      r_ic (x := 0) (pc2 := 117) rfl ic_0 rfl (
      jr_leaf rfl)) (fun _ =>
      r_ic (x := 1) (pc2 := 113) rfl ic_1 rfl (
      r_goto (t := 117) rfl (
      jr_leaf rfl)))) (fun v25 c h => match c, h with | _, rfl => (
      jr_g fun hz => r_putZ (pc2 := 120) rfl rfl (sh_T hs rfl rfl) hz fun g27 => (
      r_iload (pc2 := 121) rfl rfl rfl (
      r_istore (L2 := [some (.ref 44), some (gv v1), some (gv v24), some (gv v24)]) (pc2 := 122) rfl rfl rfl (
      r_aload (pc2 := 123) rfl rfl rfl (
      r_dup (pc2 := 124) rfl rfl rfl (
      r_getI (pc2 := 127) rfl rfl (sh_T hs rfl rfl) (
      r_aload (pc2 := 128) rfl rfl rfl (
      r_getI (pc2 := 131) rfl rfl (sh_T hs rfl rfl) (
      jr_g fun h28 => r_ifeq (pc2 := 134) (t := 138) rfl h28 rfl (fun _ =>
      r_ic (x := 1) (pc2 := 139) rfl ic_1 rfl (
      r_iadd (pc2 := 140) rfl rfl (
      r_putI (pc2 := 143) rfl rfl (sh_T hs rfl rfl) fun g29 => (
      jr_leaf ⟨_, rfl, rfl⟩)))) (fun _ =>
      r_ic (x := 0) (pc2 := 135) rfl ic_0 rfl (
      r_goto (t := 139) rfl (
      r_iadd (pc2 := 140) rfl rfl (
      r_putI (pc2 := 143) rfl rfl (sh_T hs rfl rfl) fun g30 => (
      jr_leaf ⟨_, rfl, rfl⟩))))))))))))))))))))))))))))))))) (fun _ =>
      jr_leaf ⟨_, rfl, rfl⟩)) (fun v16 g18 c h => match c, h with | _, ⟨j17, hj17, rfl⟩ => (
      r_iload (pc2 := 144) rfl rfl rfl (
      jr_g fun h31 => r_ifeq (pc2 := 147) (t := 152) rfl h31 rfl (fun _ =>
      r_iload (pc2 := 153) rfl rfl rfl (
      r_iret rfl rfl)) (fun _ =>
      r_iload (pc2 := 148) rfl rfl rfl (
      r_ineg (pc2 := 149) rfl rfl (
      r_goto (t := 153) rfl (
      r_iret rfl rfl)))))))))))))))))))))))))))))))))
theorem rf_md_readsCorner {s : gm_S} {n m : Nat} (hs : gm_sh s n m) (d : Nat)  (g : gm_T)   : jr (eV s) (md_readsCorner g ) (jm_cl jm_CD km_n (d + 5) 180 [.ref 44] (gm_h s g)) := by
  unfold md_readsCorner
  exact (r_ent (cd := cd_180) (n := 2) (L0 := [some (.ref 44), none]) rfl rfl rfl rfl (
      r_ic (x := 8) (pc2 := 2) rfl ic_8 rfl (
      r_aload (pc2 := 3) rfl rfl rfl (
      r_getI (pc2 := 6) rfl rfl (sh_T hs rfl rfl) (
      r_imul (pc2 := 7) rfl rfl (
      r_aload (pc2 := 8) rfl rfl rfl (
      r_getA (pc2 := 11) rfl rfl (sh_T hs rfl rfl) (sh_A hs rfl rfl) (
      r_aload (pc2 := 12) rfl rfl rfl (
      r_getI (pc2 := 15) rfl rfl (sh_T hs rfl rfl) (
      jr_g fun h1 => r_iald (len := 30) (pc2 := 16) rfl rfl (sh_T hs rfl rfl) (sh_L hs rfl rfl) rfl h1 (
      r_iadd (pc2 := 17) rfl rfl (
      r_istoreL (L3 := fun v2 => [some (.ref 44), some (gv v2)]) (pc2 := 18) rfl rfl (fun _ => rfl) fun v2 => (
      r_aload (pc2 := 19) rfl rfl rfl (
      r_getA (pc2 := 22) rfl rfl (sh_T hs rfl rfl) (sh_A hs rfl rfl) (
      r_iload (pc2 := 23) rfl rfl rfl (
      r_aload (pc2 := 24) rfl rfl rfl (
      r_callVI (pc2 := 27) (args := [.ref 44]) (st2 := [gv v2, .ref 47]) rfl rfl rfl rfl rfl rfl (rc_of (sh_T hs rfl rfl)) (rf_md_place hs d g ) fun v3 g4 => (
      jr_g fun h6 => r_iast (len := 240) (pc2 := 28) rfl rfl (sh_T hs rfl rfl) (sh_L hs rfl rfl) rfl h6 fun g5 => (
      r_aload (pc2 := 29) rfl rfl rfl (
      r_ic (x := 44) (pc2 := 31) rfl ic_44 rfl (
      r_callVV (pc2 := 34) (args := [.ref 44, gv 44]) (st2 := []) rfl rfl rfl rfl rfl rfl (rc_of (sh_T hs rfl rfl)) (rf_md_must hs (d + 2) g5 44 ) fun g7 => (
      r_aload (pc2 := 35) rfl rfl rfl (
      r_getA (pc2 := 38) rfl rfl (sh_T hs rfl rfl) (sh_A hs rfl rfl) (
      r_iload (pc2 := 39) rfl rfl rfl (
      r_aload (pc2 := 40) rfl rfl rfl (
      r_callVI (pc2 := 43) (args := [.ref 44]) (st2 := [gv v2, .ref 48]) rfl rfl rfl rfl rfl rfl (rc_of (sh_T hs rfl rfl)) (rf_md_place hs d g7 ) fun v8 g9 => (
      r_iast (len := 240) (pc2 := 44) rfl rfl (sh_T hs rfl rfl) (sh_L hs rfl rfl) rfl h6 fun g10 => (
      r_aload (pc2 := 45) rfl rfl rfl (
      r_ic (x := 58) (pc2 := 47) rfl ic_58 rfl (
      r_callVV (pc2 := 50) (args := [.ref 44, gv 58]) (st2 := []) rfl rfl rfl rfl rfl rfl (rc_of (sh_T hs rfl rfl)) (rf_md_must hs (d + 2) g10 58 ) fun g11 => (
      r_aload (pc2 := 51) rfl rfl rfl (
      r_getA (pc2 := 54) rfl rfl (sh_T hs rfl rfl) (sh_A hs rfl rfl) (
      r_iload (pc2 := 55) rfl rfl rfl (
      r_aload (pc2 := 56) rfl rfl rfl (
      r_callVI (pc2 := 59) (args := [.ref 44]) (st2 := [gv v2, .ref 49]) rfl rfl rfl rfl rfl rfl (rc_of (sh_T hs rfl rfl)) (rf_md_digit hs (d + 1) g11 ) fun v12 g13 => (
      r_iast (len := 240) (pc2 := 60) rfl rfl (sh_T hs rfl rfl) (sh_L hs rfl rfl) rfl h6 fun g14 => (
      r_aload (pc2 := 61) rfl rfl rfl (
      r_getA (pc2 := 64) rfl rfl (sh_T hs rfl rfl) (sh_A hs rfl rfl) (
      r_aload (pc2 := 65) rfl rfl rfl (
      r_getI (pc2 := 68) rfl rfl (sh_T hs rfl rfl) (
      r_dup2 (pc2 := 69) rfl rfl ⟨rfl, rfl⟩ (
      jr_g fun h15 => r_iald (len := 30) (pc2 := 70) rfl rfl (sh_T hs rfl rfl) (sh_L hs rfl rfl) rfl h15 (
      r_ic (x := 1) (pc2 := 71) rfl ic_1 rfl (
      r_iadd (pc2 := 72) rfl rfl (
      r_iast (len := 30) (pc2 := 73) rfl rfl (sh_T hs rfl rfl) (sh_L hs rfl rfl) rfl h15 fun g16 => (
      r_vret rfl rfl))))))))))))))))))))))))))))))))))))))))))))))
theorem rf_md_readsSpot {s : gm_S} {n m : Nat} (hs : gm_sh s n m) (d : Nat)  (g : gm_T)   : jr (eV s) (md_readsSpot g ) (jm_cl jm_CD km_n (d + 5) 181 [.ref 44] (gm_h s g)) := by
  unfold md_readsSpot
  exact (r_ent (cd := cd_181) (n := 2) (L0 := [some (.ref 44), none]) rfl rfl rfl rfl (
      r_ic (x := 5) (pc2 := 1) rfl ic_5 rfl (
      r_aload (pc2 := 2) rfl rfl rfl (
      r_getI (pc2 := 5) rfl rfl (sh_T hs rfl rfl) (
      r_imul (pc2 := 6) rfl rfl (
      r_aload (pc2 := 7) rfl rfl rfl (
      r_getA (pc2 := 10) rfl rfl (sh_T hs rfl rfl) (sh_A hs rfl rfl) (
      r_aload (pc2 := 11) rfl rfl rfl (
      r_getI (pc2 := 14) rfl rfl (sh_T hs rfl rfl) (
      jr_g fun h1 => r_iald (len := 30) (pc2 := 15) rfl rfl (sh_T hs rfl rfl) (sh_L hs rfl rfl) rfl h1 (
      r_iadd (pc2 := 16) rfl rfl (
      r_istoreL (L3 := fun v2 => [some (.ref 44), some (gv v2)]) (pc2 := 17) rfl rfl (fun _ => rfl) fun v2 => (
      r_aload (pc2 := 18) rfl rfl rfl (
      r_ic (x := 124) (pc2 := 20) rfl ic_124 rfl (
      r_callVV (pc2 := 23) (args := [.ref 44, gv 124]) (st2 := []) rfl rfl rfl rfl rfl rfl (rc_of (sh_T hs rfl rfl)) (rf_md_must hs (d + 2) g 124 ) fun g3 => (
      r_aload (pc2 := 24) rfl rfl rfl (
      r_getA (pc2 := 27) rfl rfl (sh_T hs rfl rfl) (sh_A hs rfl rfl) (
      r_iload (pc2 := 28) rfl rfl rfl (
      r_aload (pc2 := 29) rfl rfl rfl (
      r_callVI (pc2 := 32) (args := [.ref 44]) (st2 := [gv v2, .ref 51]) rfl rfl rfl rfl rfl rfl (rc_of (sh_T hs rfl rfl)) (rf_md_place hs d g3 ) fun v4 g5 => (
      jr_g fun h7 => r_iast (len := 150) (pc2 := 33) rfl rfl (sh_T hs rfl rfl) (sh_L hs rfl rfl) rfl h7 fun g6 => (
      r_aload (pc2 := 34) rfl rfl rfl (
      r_ic (x := 44) (pc2 := 36) rfl ic_44 rfl (
      r_callVV (pc2 := 39) (args := [.ref 44, gv 44]) (st2 := []) rfl rfl rfl rfl rfl rfl (rc_of (sh_T hs rfl rfl)) (rf_md_must hs (d + 2) g6 44 ) fun g8 => (
      r_aload (pc2 := 40) rfl rfl rfl (
      r_getA (pc2 := 43) rfl rfl (sh_T hs rfl rfl) (sh_A hs rfl rfl) (
      r_iload (pc2 := 44) rfl rfl rfl (
      r_aload (pc2 := 45) rfl rfl rfl (
      r_callVI (pc2 := 48) (args := [.ref 44]) (st2 := [gv v2, .ref 52]) rfl rfl rfl rfl rfl rfl (rc_of (sh_T hs rfl rfl)) (rf_md_place hs d g8 ) fun v9 g10 => (
      r_iast (len := 150) (pc2 := 49) rfl rfl (sh_T hs rfl rfl) (sh_L hs rfl rfl) rfl h7 fun g11 => (
      r_aload (pc2 := 50) rfl rfl rfl (
      r_ic (x := 61) (pc2 := 52) rfl ic_61 rfl (
      r_callVV (pc2 := 55) (args := [.ref 44, gv 61]) (st2 := []) rfl rfl rfl rfl rfl rfl (rc_of (sh_T hs rfl rfl)) (rf_md_must hs (d + 2) g11 61 ) fun g12 => (
      r_aload (pc2 := 56) rfl rfl rfl (
      r_getA (pc2 := 59) rfl rfl (sh_T hs rfl rfl) (sh_A hs rfl rfl) (
      r_iload (pc2 := 60) rfl rfl rfl (
      r_aload (pc2 := 61) rfl rfl rfl (
      r_callVI (pc2 := 64) (args := [.ref 44]) (st2 := [gv v2, .ref 53]) rfl rfl rfl rfl rfl rfl (rc_of (sh_T hs rfl rfl)) (rf_md_digit hs (d + 1) g12 ) fun v13 g14 => (
      r_iast (len := 150) (pc2 := 65) rfl rfl (sh_T hs rfl rfl) (sh_L hs rfl rfl) rfl h7 fun g15 => (
      r_aload (pc2 := 66) rfl rfl rfl (
      r_getA (pc2 := 69) rfl rfl (sh_T hs rfl rfl) (sh_A hs rfl rfl) (
      r_aload (pc2 := 70) rfl rfl rfl (
      r_getI (pc2 := 73) rfl rfl (sh_T hs rfl rfl) (
      r_dup2 (pc2 := 74) rfl rfl ⟨rfl, rfl⟩ (
      jr_g fun h16 => r_iald (len := 30) (pc2 := 75) rfl rfl (sh_T hs rfl rfl) (sh_L hs rfl rfl) rfl h16 (
      r_ic (x := 1) (pc2 := 76) rfl ic_1 rfl (
      r_iadd (pc2 := 77) rfl rfl (
      r_iast (len := 30) (pc2 := 78) rfl rfl (sh_T hs rfl rfl) (sh_L hs rfl rfl) rfl h16 fun g17 => (
      r_vret rfl rfl)))))))))))))))))))))))))))))))))))))))))))))))))
theorem rl_md_readsBit_l34 {s : gm_S} {n m : Nat} (hs : gm_sh s n m) (d : Nat)    : ∀ (fuel : Nat) (g8 : gm_T), jr (fun (q : gm_T) (c : Option jm_R) => c = jm_sup cd_182 (jm_cl jm_CD km_n (d + 5)) (97, [some (.ref 44)], [], gm_h s q)) (md_readsBit_l34   fuel g8) (jm_sup cd_182 (jm_cl jm_CD km_n (d + 5)) (34, [some (.ref 44)], [], gm_h s g8)) := by
  intro fuel
  induction fuel with
  | zero => intros; exact jr_none
  | succ fuel ih =>
    intro g8  
    unfold md_readsBit_l34
    exact (
      r_aload (pc2 := 35) rfl rfl rfl (
      r_getI (pc2 := 38) rfl rfl (sh_T hs rfl rfl) (
      jr_g fun h10 => r_ifne (pc2 := 41) (t := 97) rfl h10 rfl (fun _ =>
      r_aload (pc2 := 42) rfl rfl rfl (
      r_getA (pc2 := 45) rfl rfl (sh_T hs rfl rfl) (sh_A hs rfl rfl) (
      r_aload (pc2 := 46) rfl rfl rfl (
      r_getI (pc2 := 49) rfl rfl (sh_T hs rfl rfl) (
      jr_g fun h11 => r_iald (len := 30) (pc2 := 50) rfl rfl (sh_T hs rfl rfl) (sh_L hs rfl rfl) rfl h11 (
      r_ic (x := 8) (pc2 := 52) rfl ic_8 rfl (
      jr_g fun h12 => r_cge (pc2 := 55) (t := 97) rfl h12 (rgk rfl) rfl (fun _ =>
      r_aload (pc2 := 56) rfl rfl rfl (
      r_getA (pc2 := 59) rfl rfl (sh_T hs rfl rfl) (sh_A hs rfl rfl) (
      r_aload (pc2 := 60) rfl rfl rfl (
      r_getI (pc2 := 63) rfl rfl (sh_T hs rfl rfl) (
      r_iald (len := 30) (pc2 := 64) rfl rfl (sh_T hs rfl rfl) (sh_L hs rfl rfl) rfl h11 (
      r_ic (x := 3) (pc2 := 65) rfl ic_3 rfl (
      r_clt (pc2 := 68) (t := 77) rfl h12 (rgk rfl) rfl (fun _ =>
      r_aload (pc2 := 78) rfl rfl rfl (
      r_ic (x := 59) (pc2 := 80) rfl ic_59 rfl (
      r_callVV (pc2 := 83) (args := [.ref 44, gv 59]) (st2 := []) rfl rfl rfl rfl rfl rfl (rc_of (sh_T hs rfl rfl)) (rf_md_must hs (d + 3) g8 59 ) fun g13 => (
      r_aload (pc2 := 84) rfl rfl rfl (
      r_getI (pc2 := 87) rfl rfl (sh_T hs rfl rfl) (
      jr_g fun h14 => r_ifne (pc2 := 90) (t := 34) rfl h14 rfl (fun _ =>
      r_aload (pc2 := 91) rfl rfl rfl (
      r_callVV (pc2 := 94) (args := [.ref 44]) (st2 := []) rfl rfl rfl rfl rfl rfl (rc_of (sh_T hs rfl rfl)) (rf_md_readsCorner hs d g13 ) fun g15 => (
      r_goto (t := 34) rfl (
      ih g15)))) (fun _ =>
      ih g13))))))) (fun _ =>
      r_aload (pc2 := 69) rfl rfl rfl (
      r_callVP (pc2 := 72) (args := [.ref 44]) (st2 := []) rfl rfl rfl rfl rfl rfl (rc_of (sh_T hs rfl rfl)) (rf_md_byteAt hs (d + 4) g8 ) fun v16 => (
      r_ic (x := 59) (pc2 := 74) rfl ic_59 rfl (
      jr_g fun h17 => r_cne (pc2 := 77) (t := 97) rfl h17 (rgk rfl) rfl (fun _ =>
      r_aload (pc2 := 78) rfl rfl rfl (
      r_ic (x := 59) (pc2 := 80) rfl ic_59 rfl (
      r_callVV (pc2 := 83) (args := [.ref 44, gv 59]) (st2 := []) rfl rfl rfl rfl rfl rfl (rc_of (sh_T hs rfl rfl)) (rf_md_must hs (d + 3) g8 59 ) fun g18 => (
      r_aload (pc2 := 84) rfl rfl rfl (
      r_getI (pc2 := 87) rfl rfl (sh_T hs rfl rfl) (
      jr_g fun h19 => r_ifne (pc2 := 90) (t := 34) rfl h19 rfl (fun _ =>
      r_aload (pc2 := 91) rfl rfl rfl (
      r_callVV (pc2 := 94) (args := [.ref 44]) (st2 := []) rfl rfl rfl rfl rfl rfl (rc_of (sh_T hs rfl rfl)) (rf_md_readsCorner hs d g18 ) fun g20 => (
      r_goto (t := 34) rfl (
      ih g20)))) (fun _ =>
      ih g18))))))) (fun _ =>
      jr_leaf rfl)))))))))))) (fun _ =>
      jr_leaf rfl)))))))) (fun _ =>
      jr_leaf rfl))))
theorem rl_md_readsBit_l97 {s : gm_S} {n m : Nat} (hs : gm_sh s n m) (d : Nat)    : ∀ (fuel : Nat) (g22 : gm_T), jr (fun (q : gm_T) (c : Option jm_R) => c = jm_sup cd_182 (jm_cl jm_CD km_n (d + 5)) (133, [some (.ref 44)], [], gm_h s q)) (md_readsBit_l97   fuel g22) (jm_sup cd_182 (jm_cl jm_CD km_n (d + 5)) (97, [some (.ref 44)], [], gm_h s g22)) := by
  intro fuel
  induction fuel with
  | zero => intros; exact jr_none
  | succ fuel ih =>
    intro g22  
    unfold md_readsBit_l97
    exact (
      r_aload (pc2 := 98) rfl rfl rfl (
      r_getI (pc2 := 101) rfl rfl (sh_T hs rfl rfl) (
      jr_g fun h24 => r_ifne (pc2 := 104) (t := 133) rfl h24 rfl (fun _ =>
      r_aload (pc2 := 105) rfl rfl rfl (
      r_getA (pc2 := 108) rfl rfl (sh_T hs rfl rfl) (sh_A hs rfl rfl) (
      r_aload (pc2 := 109) rfl rfl rfl (
      r_getI (pc2 := 112) rfl rfl (sh_T hs rfl rfl) (
      jr_g fun h25 => r_iald (len := 30) (pc2 := 113) rfl rfl (sh_T hs rfl rfl) (sh_L hs rfl rfl) rfl h25 (
      r_ic (x := 5) (pc2 := 114) rfl ic_5 rfl (
      jr_g fun h26 => r_cge (pc2 := 117) (t := 133) rfl h26 (rgk rfl) rfl (fun _ =>
      r_aload (pc2 := 118) rfl rfl rfl (
      r_callVP (pc2 := 121) (args := [.ref 44]) (st2 := []) rfl rfl rfl rfl rfl rfl (rc_of (sh_T hs rfl rfl)) (rf_md_byteAt hs (d + 4) g22 ) fun v27 => (
      r_ic (x := 124) (pc2 := 123) rfl ic_124 rfl (
      jr_g fun h28 => r_cne (pc2 := 126) (t := 133) rfl h28 (rgk rfl) rfl (fun _ =>
      r_aload (pc2 := 127) rfl rfl rfl (
      r_callVV (pc2 := 130) (args := [.ref 44]) (st2 := []) rfl rfl rfl rfl rfl rfl (rc_of (sh_T hs rfl rfl)) (rf_md_readsSpot hs d g22 ) fun g29 => (
      r_goto (t := 97) rfl (
      ih g29)))) (fun _ =>
      jr_leaf rfl))))) (fun _ =>
      jr_leaf rfl)))))))) (fun _ =>
      jr_leaf rfl))))
theorem rf_md_readsBit {s : gm_S} {n m : Nat} (hs : gm_sh s n m) (d : Nat)  (g : gm_T)   : jr (eV s) (md_readsBit g ) (jm_cl jm_CD km_n (d + 6) 182 [.ref 44] (gm_h s g)) := by
  unfold md_readsBit
  exact (r_ent (cd := cd_182) (n := 1) (L0 := [some (.ref 44)]) rfl rfl rfl rfl (
      r_aload (pc2 := 1) rfl rfl rfl (
      r_ic (x := 0) (pc2 := 2) rfl ic_0 rfl (
      r_putI (pc2 := 5) rfl rfl (sh_T hs rfl rfl) fun g1 => (
      r_aload (pc2 := 6) rfl rfl rfl (
      r_ic (x := 0) (pc2 := 7) rfl ic_0 rfl (
      r_putZ (pc2 := 10) rfl rfl (sh_T hs rfl rfl) (by decide) fun g2 => (
      r_aload (pc2 := 11) rfl rfl rfl (
      r_getA (pc2 := 14) rfl rfl (sh_T hs rfl rfl) (sh_A hs rfl rfl) (
      r_aload (pc2 := 15) rfl rfl rfl (
      r_getI (pc2 := 18) rfl rfl (sh_T hs rfl rfl) (
      r_ic (x := 0) (pc2 := 19) rfl ic_0 rfl (
      jr_g fun h4 => r_iast (len := 30) (pc2 := 20) rfl rfl (sh_T hs rfl rfl) (sh_L hs rfl rfl) rfl h4 fun g3 => (
      r_aload (pc2 := 21) rfl rfl rfl (
      r_getA (pc2 := 24) rfl rfl (sh_T hs rfl rfl) (sh_A hs rfl rfl) (
      r_aload (pc2 := 25) rfl rfl rfl (
      r_getI (pc2 := 28) rfl rfl (sh_T hs rfl rfl) (
      r_ic (x := 0) (pc2 := 29) rfl ic_0 rfl (
      jr_g fun h6 => r_iast (len := 30) (pc2 := 30) rfl rfl (sh_T hs rfl rfl) (sh_L hs rfl rfl) rfl h6 fun g5 => (
      r_aload (pc2 := 31) rfl rfl rfl (
      r_callVV (pc2 := 34) (args := [.ref 44]) (st2 := []) rfl rfl rfl rfl rfl rfl (rc_of (sh_T hs rfl rfl)) (rf_md_readsCorner hs d g5 ) fun g7 => (
      r_b1 (rl_md_readsBit_l34 hs d     fz g7  ) (fun g21 c h => match c, h with | _, rfl => (
      r_b1 (rl_md_readsBit_l97 hs d     fz g21  ) (fun g30 c h => match c, h with | _, rfl => (
      r_aload (pc2 := 134) rfl rfl rfl (
      r_aload (pc2 := 135) rfl rfl rfl (
      r_getI (pc2 := 138) rfl rfl (sh_T hs rfl rfl) (
      jr_g fun h31 => r_ifne (pc2 := 141) (t := 152) rfl h31 rfl (fun _ =>
      r_aload (pc2 := 142) rfl rfl rfl (
      r_getI (pc2 := 145) rfl rfl (sh_T hs rfl rfl) (
      r_aload (pc2 := 146) rfl rfl rfl (
      r_getI (pc2 := 149) rfl rfl (sh_T hs rfl rfl) (
      jr_g fun h32 => r_ceq (pc2 := 152) (t := 156) rfl h32.1 h32.2 rfl (fun _ =>
      r_ic (x := 0) (pc2 := 157) rfl ic_0 rfl (
      r_putZ (pc2 := 160) rfl rfl (sh_T hs rfl rfl) (by decide) fun g33 => (
      r_vret rfl rfl))) (fun _ =>
      r_ic (x := 1) (pc2 := 153) rfl ic_1 rfl (
      r_goto (t := 157) rfl (
      r_putZ (pc2 := 160) rfl rfl (sh_T hs rfl rfl) (by decide) fun g34 => (
      r_vret rfl rfl))))))))) (fun _ =>
      r_ic (x := 1) (pc2 := 153) rfl ic_1 rfl (
      r_goto (t := 157) rfl (
      r_putZ (pc2 := 160) rfl rfl (sh_T hs rfl rfl) (by decide) fun g35 => (
      r_vret rfl rfl)))))))))))))))))))))))))))))))))
theorem rf_md_cross {s : gm_S} {n m : Nat} (hs : gm_sh s n m) (d : Nat)  (g : gm_T) (a0 : Int) (a1 : Int) (a2 : Int) (a3 : Int)  : jr (pI s g) (md_cross g a0 a1 a2 a3) (jm_cl jm_CD km_n (d + 1) 183 [gv a0, gv a1, gv a2, gv a3] (gm_h s g)) := by
  unfold md_cross
  exact (r_ent (cd := cd_183) (n := 4) (L0 := [some (gv a0), some (gv a1), some (gv a2), some (gv a3)]) rfl rfl rfl rfl (
      r_iload (pc2 := 1) rfl rfl rfl (
      r_iload (pc2 := 2) rfl rfl rfl (
      r_imul (pc2 := 3) rfl rfl (
      r_iload (pc2 := 4) rfl rfl rfl (
      r_iload (pc2 := 5) rfl rfl rfl (
      r_imul (pc2 := 6) rfl rfl (
      r_isub (pc2 := 7) rfl rfl (
      r_iret rfl rfl)))))))))
theorem rf_md_next {s : gm_S} {n m : Nat} (hs : gm_sh s n m) (d : Nat)  (g : gm_T) (a1 : Int) (a2 : Int)  : jr (pI s g) (md_next g a1 a2) (jm_cl jm_CD km_n (d + 1) 184 [.ref 44, gv a1, gv a2] (gm_h s g)) := by
  unfold md_next
  exact (r_ent (cd := cd_184) (n := 3) (L0 := [some (.ref 44), some (gv a1), some (gv a2)]) rfl rfl rfl rfl (
      r_ic (x := 8) (pc2 := 2) rfl ic_8 rfl (
      r_iload (pc2 := 3) rfl rfl rfl (
      r_imul (pc2 := 4) rfl rfl (
      r_iload (pc2 := 5) rfl rfl rfl (
      r_ic (x := 1) (pc2 := 6) rfl ic_1 rfl (
      r_iadd (pc2 := 7) rfl rfl (
      r_aload (pc2 := 8) rfl rfl rfl (
      r_getA (pc2 := 11) rfl rfl (sh_T hs rfl rfl) (sh_A hs rfl rfl) (
      r_iload (pc2 := 12) rfl rfl rfl (
      jr_g fun h1 => r_iald (len := 30) (pc2 := 13) rfl rfl (sh_T hs rfl rfl) (sh_L hs rfl rfl) rfl h1 (
      jr_g fun hd => r_irem (pc2 := 14) rfl rfl hd.1 hd.2 (
      r_iadd (pc2 := 15) rfl rfl (
      r_iret rfl rfl))))))))))))))
theorem rf_md_wayX {s : gm_S} {n m : Nat} (hs : gm_sh s n m) (d : Nat)  (g : gm_T) (a1 : Int) (a2 : Int)  : jr (pI s g) (md_wayX g a1 a2) (jm_cl jm_CD km_n (d + 2) 185 [.ref 44, gv a1, gv a2] (gm_h s g)) := by
  unfold md_wayX
  exact (r_ent (cd := cd_185) (n := 3) (L0 := [some (.ref 44), some (gv a1), some (gv a2)]) rfl rfl rfl rfl (
      r_aload (pc2 := 1) rfl rfl rfl (
      r_getA (pc2 := 4) rfl rfl (sh_T hs rfl rfl) (sh_A hs rfl rfl) (
      r_aload (pc2 := 5) rfl rfl rfl (
      r_iload (pc2 := 6) rfl rfl rfl (
      r_iload (pc2 := 7) rfl rfl rfl (
      r_callVP (pc2 := 10) (args := [.ref 44, gv a1, gv a2]) (st2 := [.ref 47]) rfl rfl rfl rfl rfl rfl (rc_of (sh_T hs rfl rfl)) (rf_md_next hs d g a1 a2 ) fun v1 => (
      jr_g fun h2 => r_iald (len := 240) (pc2 := 11) rfl rfl (sh_T hs rfl rfl) (sh_L hs rfl rfl) rfl h2 (
      r_aload (pc2 := 12) rfl rfl rfl (
      r_getA (pc2 := 15) rfl rfl (sh_T hs rfl rfl) (sh_A hs rfl rfl) (
      r_ic (x := 8) (pc2 := 17) rfl ic_8 rfl (
      r_iload (pc2 := 18) rfl rfl rfl (
      r_imul (pc2 := 19) rfl rfl (
      r_iload (pc2 := 20) rfl rfl rfl (
      r_iadd (pc2 := 21) rfl rfl (
      jr_g fun h3 => r_iald (len := 240) (pc2 := 22) rfl rfl (sh_T hs rfl rfl) (sh_L hs rfl rfl) rfl h3 (
      r_isub (pc2 := 23) rfl rfl (
      r_iret rfl rfl))))))))))))))))))
theorem rf_md_wayY {s : gm_S} {n m : Nat} (hs : gm_sh s n m) (d : Nat)  (g : gm_T) (a1 : Int) (a2 : Int)  : jr (pI s g) (md_wayY g a1 a2) (jm_cl jm_CD km_n (d + 2) 186 [.ref 44, gv a1, gv a2] (gm_h s g)) := by
  unfold md_wayY
  exact (r_ent (cd := cd_186) (n := 3) (L0 := [some (.ref 44), some (gv a1), some (gv a2)]) rfl rfl rfl rfl (
      r_aload (pc2 := 1) rfl rfl rfl (
      r_getA (pc2 := 4) rfl rfl (sh_T hs rfl rfl) (sh_A hs rfl rfl) (
      r_aload (pc2 := 5) rfl rfl rfl (
      r_iload (pc2 := 6) rfl rfl rfl (
      r_iload (pc2 := 7) rfl rfl rfl (
      r_callVP (pc2 := 10) (args := [.ref 44, gv a1, gv a2]) (st2 := [.ref 48]) rfl rfl rfl rfl rfl rfl (rc_of (sh_T hs rfl rfl)) (rf_md_next hs d g a1 a2 ) fun v1 => (
      jr_g fun h2 => r_iald (len := 240) (pc2 := 11) rfl rfl (sh_T hs rfl rfl) (sh_L hs rfl rfl) rfl h2 (
      r_aload (pc2 := 12) rfl rfl rfl (
      r_getA (pc2 := 15) rfl rfl (sh_T hs rfl rfl) (sh_A hs rfl rfl) (
      r_ic (x := 8) (pc2 := 17) rfl ic_8 rfl (
      r_iload (pc2 := 18) rfl rfl rfl (
      r_imul (pc2 := 19) rfl rfl (
      r_iload (pc2 := 20) rfl rfl rfl (
      r_iadd (pc2 := 21) rfl rfl (
      jr_g fun h3 => r_iald (len := 240) (pc2 := 22) rfl rfl (sh_T hs rfl rfl) (sh_L hs rfl rfl) rfl h3 (
      r_isub (pc2 := 23) rfl rfl (
      r_iret rfl rfl))))))))))))))))))
theorem rf_md_sign {s : gm_S} {n m : Nat} (hs : gm_sh s n m) (d : Nat)  (g : gm_T) (a0 : Int)  : jr (pI s g) (md_sign g a0) (jm_cl jm_CD km_n (d + 1) 187 [gv a0] (gm_h s g)) := by
  unfold md_sign
  exact (r_ent (cd := cd_187) (n := 1) (L0 := [some (gv a0)]) rfl rfl rfl rfl (
      r_iload (pc2 := 1) rfl rfl rfl (
      jr_g fun h1 => r_ifle (pc2 := 4) (t := 8) rfl h1 rfl (fun _ =>
      r_iload (pc2 := 9) rfl rfl rfl (
      r_ifge (pc2 := 12) (t := 16) rfl h1 rfl (fun _ =>
      r_ic (x := -1) (pc2 := 13) rfl ic_m1 rfl (
      r_goto (t := 17) rfl (
      r_iret rfl rfl))) (fun _ =>
      r_ic (x := 0) (pc2 := 17) rfl ic_0 rfl (
      r_iret rfl rfl)))) (fun _ =>
      r_ic (x := 1) (pc2 := 5) rfl ic_1 rfl (
      r_goto (t := 17) rfl (
      r_iret rfl rfl))))))
theorem rf_md_side {s : gm_S} {n m : Nat} (hs : gm_sh s n m) (d : Nat)  (g : gm_T) (a1 : Int) (a2 : Int) (a3 : Int) (a4 : Int)  : jr (pI s g) (md_side g a1 a2 a3 a4) (jm_cl jm_CD km_n (d + 3) 188 [.ref 44, gv a1, gv a2, gv a3, gv a4] (gm_h s g)) := by
  unfold md_side
  exact (r_ent (cd := cd_188) (n := 5) (L0 := [some (.ref 44), some (gv a1), some (gv a2), some (gv a3), some (gv a4)]) rfl rfl rfl rfl (
      r_aload (pc2 := 1) rfl rfl rfl (
      r_iload (pc2 := 2) rfl rfl rfl (
      r_iload (pc2 := 3) rfl rfl rfl (
      r_callVP (pc2 := 6) (args := [.ref 44, gv a1, gv a2]) (st2 := []) rfl rfl rfl rfl rfl rfl (rc_of (sh_T hs rfl rfl)) (rf_md_wayX hs d g a1 a2 ) fun v1 => (
      r_aload (pc2 := 7) rfl rfl rfl (
      r_iload (pc2 := 8) rfl rfl rfl (
      r_iload (pc2 := 9) rfl rfl rfl (
      r_callVP (pc2 := 12) (args := [.ref 44, gv a1, gv a2]) (st2 := [gv v1]) rfl rfl rfl rfl rfl rfl (rc_of (sh_T hs rfl rfl)) (rf_md_wayY hs d g a1 a2 ) fun v2 => (
      r_iload (pc2 := 13) rfl rfl rfl (
      r_aload (pc2 := 14) rfl rfl rfl (
      r_getA (pc2 := 17) rfl rfl (sh_T hs rfl rfl) (sh_A hs rfl rfl) (
      r_ic (x := 8) (pc2 := 19) rfl ic_8 rfl (
      r_iload (pc2 := 20) rfl rfl rfl (
      r_imul (pc2 := 21) rfl rfl (
      r_iload (pc2 := 22) rfl rfl rfl (
      r_iadd (pc2 := 23) rfl rfl (
      jr_g fun h3 => r_iald (len := 240) (pc2 := 24) rfl rfl (sh_T hs rfl rfl) (sh_L hs rfl rfl) rfl h3 (
      r_isub (pc2 := 25) rfl rfl (
      r_iload (pc2 := 27) rfl rfl rfl (
      r_aload (pc2 := 28) rfl rfl rfl (
      r_getA (pc2 := 31) rfl rfl (sh_T hs rfl rfl) (sh_A hs rfl rfl) (
      r_ic (x := 8) (pc2 := 33) rfl ic_8 rfl (
      r_iload (pc2 := 34) rfl rfl rfl (
      r_imul (pc2 := 35) rfl rfl (
      r_iload (pc2 := 36) rfl rfl rfl (
      r_iadd (pc2 := 37) rfl rfl (
      r_iald (len := 240) (pc2 := 38) rfl rfl (sh_T hs rfl rfl) (sh_L hs rfl rfl) rfl h3 (
      r_isub (pc2 := 39) rfl rfl (
      r_callSP (pc2 := 42) (args := [gv v1, gv v2, gv (a3 - (gm_I g 47 (((8 * a1) + a2)).toNat)), gv (a4 - (gm_I g 48 (((8 * a1) + a2)).toNat))]) (st2 := []) rfl rfl rfl rfl rfl rfl (rf_md_cross hs (d + 1) g v1 v2 (a3 - (gm_I g 47 (((8 * a1) + a2)).toNat)) (a4 - (gm_I g 48 (((8 * a1) + a2)).toNat)) ) fun v4 => (
      r_callSP (pc2 := 45) (args := [gv v4]) (st2 := []) rfl rfl rfl rfl rfl rfl (rf_md_sign hs (d + 1) g v4 ) fun v5 => (
      r_iret rfl rfl))))))))))))))))))))))))))))))))
theorem rf_md_isOn {s : gm_S} {n m : Nat} (hs : gm_sh s n m) (d : Nat)  (g : gm_T) (a1 : Int) (a2 : Int) (a3 : Int) (a4 : Int)  : jr (pI s g) (md_isOn g a1 a2 a3 a4) (jm_cl jm_CD km_n (d + 4) 189 [.ref 44, gv a1, gv a2, gv a3, gv a4] (gm_h s g)) := by
  unfold md_isOn
  exact (r_ent (cd := cd_189) (n := 8) (L0 := [some (.ref 44), some (gv a1), some (gv a2), some (gv a3), some (gv a4), none, none, none]) rfl rfl rfl rfl (
      r_ic (x := 8) (pc2 := 2) rfl ic_8 rfl (
      r_iload (pc2 := 3) rfl rfl rfl (
      r_imul (pc2 := 4) rfl rfl (
      r_iload (pc2 := 5) rfl rfl rfl (
      r_iadd (pc2 := 6) rfl rfl (
      r_istoreL (L3 := fun v1 => [some (.ref 44), some (gv a1), some (gv a2), some (gv a3), some (gv a4), some (gv v1), none, none]) (pc2 := 8) rfl rfl (fun _ => rfl) fun v1 => (
      r_aload (pc2 := 9) rfl rfl rfl (
      r_iload (pc2 := 10) rfl rfl rfl (
      r_iload (pc2 := 11) rfl rfl rfl (
      r_callVP (pc2 := 14) (args := [.ref 44, gv a1, gv a2]) (st2 := []) rfl rfl rfl rfl rfl rfl (rc_of (sh_T hs rfl rfl)) (rf_md_next hs (d + 2) g a1 a2 ) fun v2 => (
      r_istore (L2 := [some (.ref 44), some (gv a1), some (gv a2), some (gv a3), some (gv a4), some (gv v1), some (gv v2), none]) (pc2 := 16) rfl rfl rfl (
      r_iload (pc2 := 17) rfl rfl rfl (
      r_aload (pc2 := 18) rfl rfl rfl (
      r_getA (pc2 := 21) rfl rfl (sh_T hs rfl rfl) (sh_A hs rfl rfl) (
      r_iload (pc2 := 23) rfl rfl rfl (
      jr_g fun h3 => r_iald (len := 240) (pc2 := 24) rfl rfl (sh_T hs rfl rfl) (sh_L hs rfl rfl) rfl h3 (
      r_aload (pc2 := 25) rfl rfl rfl (
      r_getA (pc2 := 28) rfl rfl (sh_T hs rfl rfl) (sh_A hs rfl rfl) (
      r_iload (pc2 := 30) rfl rfl rfl (
      jr_g fun h4 => r_iald (len := 240) (pc2 := 31) rfl rfl (sh_T hs rfl rfl) (sh_L hs rfl rfl) rfl h4 (
      jr_g fun h5 => r_mmin (pc2 := 34) rfl rfl rfl h5.1 h5.2 (
      r_aload (pc2 := 35) rfl rfl rfl (
      r_getA (pc2 := 38) rfl rfl (sh_T hs rfl rfl) (sh_A hs rfl rfl) (
      r_iload (pc2 := 40) rfl rfl rfl (
      r_iald (len := 240) (pc2 := 41) rfl rfl (sh_T hs rfl rfl) (sh_L hs rfl rfl) rfl h3 (
      r_aload (pc2 := 42) rfl rfl rfl (
      r_getA (pc2 := 45) rfl rfl (sh_T hs rfl rfl) (sh_A hs rfl rfl) (
      r_iload (pc2 := 47) rfl rfl rfl (
      r_iald (len := 240) (pc2 := 48) rfl rfl (sh_T hs rfl rfl) (sh_L hs rfl rfl) rfl h4 (
      r_mmax (pc2 := 51) rfl rfl rfl h5.1 h5.2 (
      r_callSP (pc2 := 54) (args := [gv a3, gv (zmin (gm_I g 47 v1.toNat) (gm_I g 47 v2.toNat)), gv (zmax (gm_I g 47 v1.toNat) (gm_I g 47 v2.toNat))]) (st2 := []) rfl rfl rfl rfl rfl rfl (rf_md_in hs (d + 2) g a3 (zmin (gm_I g 47 v1.toNat) (gm_I g 47 v2.toNat)) (zmax (gm_I g 47 v1.toNat) (gm_I g 47 v2.toNat)) ) fun v6 => (
      r_istore (L2 := [some (.ref 44), some (gv a1), some (gv a2), some (gv a3), some (gv a4), some (gv v1), some (gv v2), some (gv v6)]) (pc2 := 56) rfl rfl rfl (
      r_aload (pc2 := 57) rfl rfl rfl (
      r_iload (pc2 := 58) rfl rfl rfl (
      r_iload (pc2 := 59) rfl rfl rfl (
      r_iload (pc2 := 60) rfl rfl rfl (
      r_iload (pc2 := 62) rfl rfl rfl (
      r_callVP (pc2 := 65) (args := [.ref 44, gv a1, gv a2, gv a3, gv a4]) (st2 := []) rfl rfl rfl rfl rfl rfl (rc_of (sh_T hs rfl rfl)) (rf_md_side hs d g a1 a2 a3 a4 ) fun v7 => (
      jr_g fun h8 => r_ifne (pc2 := 68) (t := 119) rfl h8 rfl (fun _ =>
      r_iload (pc2 := 70) rfl rfl rfl (
      jr_g fun h9 => r_ifeq (pc2 := 73) (t := 119) rfl h9 rfl (fun _ =>
      r_ic (x := 0) (pc2 := 120) rfl ic_0 rfl (
      r_zret rfl (by decide) rfl)) (fun _ =>
      r_iload (pc2 := 75) rfl rfl rfl (
      r_aload (pc2 := 76) rfl rfl rfl (
      r_getA (pc2 := 79) rfl rfl (sh_T hs rfl rfl) (sh_A hs rfl rfl) (
      r_iload (pc2 := 81) rfl rfl rfl (
      r_iald (len := 240) (pc2 := 82) rfl rfl (sh_T hs rfl rfl) (sh_L hs rfl rfl) rfl h3 (
      r_aload (pc2 := 83) rfl rfl rfl (
      r_getA (pc2 := 86) rfl rfl (sh_T hs rfl rfl) (sh_A hs rfl rfl) (
      r_iload (pc2 := 88) rfl rfl rfl (
      r_iald (len := 240) (pc2 := 89) rfl rfl (sh_T hs rfl rfl) (sh_L hs rfl rfl) rfl h4 (
      jr_g fun h10 => r_mmin (pc2 := 92) rfl rfl rfl h10.1 h10.2 (
      r_aload (pc2 := 93) rfl rfl rfl (
      r_getA (pc2 := 96) rfl rfl (sh_T hs rfl rfl) (sh_A hs rfl rfl) (
      r_iload (pc2 := 98) rfl rfl rfl (
      r_iald (len := 240) (pc2 := 99) rfl rfl (sh_T hs rfl rfl) (sh_L hs rfl rfl) rfl h3 (
      r_aload (pc2 := 100) rfl rfl rfl (
      r_getA (pc2 := 103) rfl rfl (sh_T hs rfl rfl) (sh_A hs rfl rfl) (
      r_iload (pc2 := 105) rfl rfl rfl (
      r_iald (len := 240) (pc2 := 106) rfl rfl (sh_T hs rfl rfl) (sh_L hs rfl rfl) rfl h4 (
      r_mmax (pc2 := 109) rfl rfl rfl h10.1 h10.2 (
      r_callSP (pc2 := 112) (args := [gv a4, gv (zmin (gm_I g 48 v1.toNat) (gm_I g 48 v2.toNat)), gv (zmax (gm_I g 48 v1.toNat) (gm_I g 48 v2.toNat))]) (st2 := []) rfl rfl rfl rfl rfl rfl (rf_md_in hs (d + 2) g a4 (zmin (gm_I g 48 v1.toNat) (gm_I g 48 v2.toNat)) (zmax (gm_I g 48 v1.toNat) (gm_I g 48 v2.toNat)) ) fun v11 => (
      jr_g fun h12 => r_ifeq (pc2 := 115) (t := 119) rfl h12 rfl (fun _ =>
      r_ic (x := 0) (pc2 := 120) rfl ic_0 rfl (
      r_zret rfl (by decide) rfl)) (fun _ =>
      r_ic (x := 1) (pc2 := 116) rfl ic_1 rfl (
      r_goto (t := 120) rfl (
      r_zret rfl (by decide) rfl)))))))))))))))))))))))))) (fun _ =>
      r_ic (x := 0) (pc2 := 120) rfl ic_0 rfl (
      r_zret rfl (by decide) rfl))))))))))))))))))))))))))))))))))))))))))
theorem rf_md_meet {s : gm_S} {n m : Nat} (hs : gm_sh s n m) (d : Nat)  (g : gm_T) (a1 : Int) (a2 : Int) (a3 : Int)  : jr (pI s g) (md_meet g a1 a2 a3) (jm_cl jm_CD km_n (d + 5) 190 [.ref 44, gv a1, gv a2, gv a3] (gm_h s g)) := by
  unfold md_meet
  exact (r_ent (cd := cd_190) (n := 8) (L0 := [some (.ref 44), some (gv a1), some (gv a2), some (gv a3), none, none, none, none]) rfl rfl rfl rfl (
      r_ic (x := 8) (pc2 := 2) rfl ic_8 rfl (
      r_iload (pc2 := 3) rfl rfl rfl (
      r_imul (pc2 := 4) rfl rfl (
      r_iload (pc2 := 5) rfl rfl rfl (
      r_iadd (pc2 := 6) rfl rfl (
      r_istoreL (L3 := fun v1 => [some (.ref 44), some (gv a1), some (gv a2), some (gv a3), some (gv v1), none, none, none]) (pc2 := 8) rfl rfl (fun _ => rfl) fun v1 => (
      r_aload (pc2 := 9) rfl rfl rfl (
      r_iload (pc2 := 10) rfl rfl rfl (
      r_iload (pc2 := 11) rfl rfl rfl (
      r_callVP (pc2 := 14) (args := [.ref 44, gv a1, gv a2]) (st2 := []) rfl rfl rfl rfl rfl rfl (rc_of (sh_T hs rfl rfl)) (rf_md_next hs (d + 3) g a1 a2 ) fun v2 => (
      r_istore (L2 := [some (.ref 44), some (gv a1), some (gv a2), some (gv a3), some (gv v1), some (gv v2), none, none]) (pc2 := 16) rfl rfl rfl (
      r_ic (x := 8) (pc2 := 18) rfl ic_8 rfl (
      r_iload (pc2 := 19) rfl rfl rfl (
      r_imul (pc2 := 20) rfl rfl (
      r_iload (pc2 := 21) rfl rfl rfl (
      r_iadd (pc2 := 22) rfl rfl (
      r_istoreL (L3 := fun v3 => [some (.ref 44), some (gv a1), some (gv a2), some (gv a3), some (gv v1), some (gv v2), some (gv v3), none]) (pc2 := 24) rfl rfl (fun _ => rfl) fun v3 => (
      r_aload (pc2 := 25) rfl rfl rfl (
      r_iload (pc2 := 26) rfl rfl rfl (
      r_iload (pc2 := 27) rfl rfl rfl (
      r_callVP (pc2 := 30) (args := [.ref 44, gv a1, gv a3]) (st2 := []) rfl rfl rfl rfl rfl rfl (rc_of (sh_T hs rfl rfl)) (rf_md_next hs (d + 3) g a1 a3 ) fun v4 => (
      r_istore (L2 := [some (.ref 44), some (gv a1), some (gv a2), some (gv a3), some (gv v1), some (gv v2), some (gv v3), some (gv v4)]) (pc2 := 32) rfl rfl rfl (
      r_aload (pc2 := 33) rfl rfl rfl (
      r_iload (pc2 := 34) rfl rfl rfl (
      r_iload (pc2 := 35) rfl rfl rfl (
      r_aload (pc2 := 36) rfl rfl rfl (
      r_getA (pc2 := 39) rfl rfl (sh_T hs rfl rfl) (sh_A hs rfl rfl) (
      r_iload (pc2 := 41) rfl rfl rfl (
      jr_g fun h5 => r_iald (len := 240) (pc2 := 42) rfl rfl (sh_T hs rfl rfl) (sh_L hs rfl rfl) rfl h5 (
      r_aload (pc2 := 43) rfl rfl rfl (
      r_getA (pc2 := 46) rfl rfl (sh_T hs rfl rfl) (sh_A hs rfl rfl) (
      r_iload (pc2 := 48) rfl rfl rfl (
      r_iald (len := 240) (pc2 := 49) rfl rfl (sh_T hs rfl rfl) (sh_L hs rfl rfl) rfl h5 (
      r_callVP (pc2 := 52) (args := [.ref 44, gv a1, gv a2, gv (gm_I g 47 v3.toNat), gv (gm_I g 48 v3.toNat)]) (st2 := []) rfl rfl rfl rfl rfl rfl (rc_of (sh_T hs rfl rfl)) (rf_md_isOn hs d g a1 a2 (gm_I g 47 v3.toNat) (gm_I g 48 v3.toNat) ) fun v6 => (
      jr_g fun h7 => r_ifne (pc2 := 55) (t := 124) rfl h7 rfl (fun _ =>
      r_aload (pc2 := 56) rfl rfl rfl (
      r_iload (pc2 := 57) rfl rfl rfl (
      r_iload (pc2 := 58) rfl rfl rfl (
      r_aload (pc2 := 59) rfl rfl rfl (
      r_getA (pc2 := 62) rfl rfl (sh_T hs rfl rfl) (sh_A hs rfl rfl) (
      r_iload (pc2 := 64) rfl rfl rfl (
      jr_g fun h8 => r_iald (len := 240) (pc2 := 65) rfl rfl (sh_T hs rfl rfl) (sh_L hs rfl rfl) rfl h8 (
      r_aload (pc2 := 66) rfl rfl rfl (
      r_getA (pc2 := 69) rfl rfl (sh_T hs rfl rfl) (sh_A hs rfl rfl) (
      r_iload (pc2 := 71) rfl rfl rfl (
      r_iald (len := 240) (pc2 := 72) rfl rfl (sh_T hs rfl rfl) (sh_L hs rfl rfl) rfl h8 (
      r_callVP (pc2 := 75) (args := [.ref 44, gv a1, gv a2, gv (gm_I g 47 v4.toNat), gv (gm_I g 48 v4.toNat)]) (st2 := []) rfl rfl rfl rfl rfl rfl (rc_of (sh_T hs rfl rfl)) (rf_md_isOn hs d g a1 a2 (gm_I g 47 v4.toNat) (gm_I g 48 v4.toNat) ) fun v9 => (
      jr_g fun h10 => r_ifne (pc2 := 78) (t := 124) rfl h10 rfl (fun _ =>
      r_aload (pc2 := 79) rfl rfl rfl (
      r_iload (pc2 := 80) rfl rfl rfl (
      r_iload (pc2 := 81) rfl rfl rfl (
      r_aload (pc2 := 82) rfl rfl rfl (
      r_getA (pc2 := 85) rfl rfl (sh_T hs rfl rfl) (sh_A hs rfl rfl) (
      r_iload (pc2 := 87) rfl rfl rfl (
      jr_g fun h11 => r_iald (len := 240) (pc2 := 88) rfl rfl (sh_T hs rfl rfl) (sh_L hs rfl rfl) rfl h11 (
      r_aload (pc2 := 89) rfl rfl rfl (
      r_getA (pc2 := 92) rfl rfl (sh_T hs rfl rfl) (sh_A hs rfl rfl) (
      r_iload (pc2 := 94) rfl rfl rfl (
      r_iald (len := 240) (pc2 := 95) rfl rfl (sh_T hs rfl rfl) (sh_L hs rfl rfl) rfl h11 (
      r_callVP (pc2 := 98) (args := [.ref 44, gv a1, gv a3, gv (gm_I g 47 v1.toNat), gv (gm_I g 48 v1.toNat)]) (st2 := []) rfl rfl rfl rfl rfl rfl (rc_of (sh_T hs rfl rfl)) (rf_md_isOn hs d g a1 a3 (gm_I g 47 v1.toNat) (gm_I g 48 v1.toNat) ) fun v12 => (
      jr_g fun h13 => r_ifne (pc2 := 101) (t := 124) rfl h13 rfl (fun _ =>
      r_aload (pc2 := 102) rfl rfl rfl (
      r_iload (pc2 := 103) rfl rfl rfl (
      r_iload (pc2 := 104) rfl rfl rfl (
      r_aload (pc2 := 105) rfl rfl rfl (
      r_getA (pc2 := 108) rfl rfl (sh_T hs rfl rfl) (sh_A hs rfl rfl) (
      r_iload (pc2 := 110) rfl rfl rfl (
      jr_g fun h14 => r_iald (len := 240) (pc2 := 111) rfl rfl (sh_T hs rfl rfl) (sh_L hs rfl rfl) rfl h14 (
      r_aload (pc2 := 112) rfl rfl rfl (
      r_getA (pc2 := 115) rfl rfl (sh_T hs rfl rfl) (sh_A hs rfl rfl) (
      r_iload (pc2 := 117) rfl rfl rfl (
      r_iald (len := 240) (pc2 := 118) rfl rfl (sh_T hs rfl rfl) (sh_L hs rfl rfl) rfl h14 (
      r_callVP (pc2 := 121) (args := [.ref 44, gv a1, gv a3, gv (gm_I g 47 v2.toNat), gv (gm_I g 48 v2.toNat)]) (st2 := []) rfl rfl rfl rfl rfl rfl (rc_of (sh_T hs rfl rfl)) (rf_md_isOn hs d g a1 a3 (gm_I g 47 v2.toNat) (gm_I g 48 v2.toNat) ) fun v15 => (
      jr_g fun h16 => r_ifeq (pc2 := 124) (t := 126) rfl h16 rfl (fun _ =>
      r_aload (pc2 := 127) rfl rfl rfl (
      r_iload (pc2 := 128) rfl rfl rfl (
      r_iload (pc2 := 129) rfl rfl rfl (
      r_aload (pc2 := 130) rfl rfl rfl (
      r_getA (pc2 := 133) rfl rfl (sh_T hs rfl rfl) (sh_A hs rfl rfl) (
      r_iload (pc2 := 135) rfl rfl rfl (
      r_iald (len := 240) (pc2 := 136) rfl rfl (sh_T hs rfl rfl) (sh_L hs rfl rfl) rfl h5 (
      r_aload (pc2 := 137) rfl rfl rfl (
      r_getA (pc2 := 140) rfl rfl (sh_T hs rfl rfl) (sh_A hs rfl rfl) (
      r_iload (pc2 := 142) rfl rfl rfl (
      r_iald (len := 240) (pc2 := 143) rfl rfl (sh_T hs rfl rfl) (sh_L hs rfl rfl) rfl h5 (
      r_callVP (pc2 := 146) (args := [.ref 44, gv a1, gv a2, gv (gm_I g 47 v3.toNat), gv (gm_I g 48 v3.toNat)]) (st2 := []) rfl rfl rfl rfl rfl rfl (rc_of (sh_T hs rfl rfl)) (rf_md_side hs (d + 1) g a1 a2 (gm_I g 47 v3.toNat) (gm_I g 48 v3.toNat) ) fun v17 => (
      r_aload (pc2 := 147) rfl rfl rfl (
      r_iload (pc2 := 148) rfl rfl rfl (
      r_iload (pc2 := 149) rfl rfl rfl (
      r_aload (pc2 := 150) rfl rfl rfl (
      r_getA (pc2 := 153) rfl rfl (sh_T hs rfl rfl) (sh_A hs rfl rfl) (
      r_iload (pc2 := 155) rfl rfl rfl (
      r_iald (len := 240) (pc2 := 156) rfl rfl (sh_T hs rfl rfl) (sh_L hs rfl rfl) rfl h8 (
      r_aload (pc2 := 157) rfl rfl rfl (
      r_getA (pc2 := 160) rfl rfl (sh_T hs rfl rfl) (sh_A hs rfl rfl) (
      r_iload (pc2 := 162) rfl rfl rfl (
      r_iald (len := 240) (pc2 := 163) rfl rfl (sh_T hs rfl rfl) (sh_L hs rfl rfl) rfl h8 (
      r_callVP (pc2 := 166) (args := [.ref 44, gv a1, gv a2, gv (gm_I g 47 v4.toNat), gv (gm_I g 48 v4.toNat)]) (st2 := [gv v17]) rfl rfl rfl rfl rfl rfl (rc_of (sh_T hs rfl rfl)) (rf_md_side hs (d + 1) g a1 a2 (gm_I g 47 v4.toNat) (gm_I g 48 v4.toNat) ) fun v18 => (
      r_imul (pc2 := 167) rfl rfl (
      jr_g fun h19 => r_ifge (pc2 := 170) (t := 218) rfl h19 rfl (fun _ =>
      r_aload (pc2 := 171) rfl rfl rfl (
      r_iload (pc2 := 172) rfl rfl rfl (
      r_iload (pc2 := 173) rfl rfl rfl (
      r_aload (pc2 := 174) rfl rfl rfl (
      r_getA (pc2 := 177) rfl rfl (sh_T hs rfl rfl) (sh_A hs rfl rfl) (
      r_iload (pc2 := 179) rfl rfl rfl (
      r_iald (len := 240) (pc2 := 180) rfl rfl (sh_T hs rfl rfl) (sh_L hs rfl rfl) rfl h11 (
      r_aload (pc2 := 181) rfl rfl rfl (
      r_getA (pc2 := 184) rfl rfl (sh_T hs rfl rfl) (sh_A hs rfl rfl) (
      r_iload (pc2 := 186) rfl rfl rfl (
      r_iald (len := 240) (pc2 := 187) rfl rfl (sh_T hs rfl rfl) (sh_L hs rfl rfl) rfl h11 (
      r_callVP (pc2 := 190) (args := [.ref 44, gv a1, gv a3, gv (gm_I g 47 v1.toNat), gv (gm_I g 48 v1.toNat)]) (st2 := []) rfl rfl rfl rfl rfl rfl (rc_of (sh_T hs rfl rfl)) (rf_md_side hs (d + 1) g a1 a3 (gm_I g 47 v1.toNat) (gm_I g 48 v1.toNat) ) fun v20 => (
      r_aload (pc2 := 191) rfl rfl rfl (
      r_iload (pc2 := 192) rfl rfl rfl (
      r_iload (pc2 := 193) rfl rfl rfl (
      r_aload (pc2 := 194) rfl rfl rfl (
      r_getA (pc2 := 197) rfl rfl (sh_T hs rfl rfl) (sh_A hs rfl rfl) (
      r_iload (pc2 := 199) rfl rfl rfl (
      r_iald (len := 240) (pc2 := 200) rfl rfl (sh_T hs rfl rfl) (sh_L hs rfl rfl) rfl h14 (
      r_aload (pc2 := 201) rfl rfl rfl (
      r_getA (pc2 := 204) rfl rfl (sh_T hs rfl rfl) (sh_A hs rfl rfl) (
      r_iload (pc2 := 206) rfl rfl rfl (
      r_iald (len := 240) (pc2 := 207) rfl rfl (sh_T hs rfl rfl) (sh_L hs rfl rfl) rfl h14 (
      r_callVP (pc2 := 210) (args := [.ref 44, gv a1, gv a3, gv (gm_I g 47 v2.toNat), gv (gm_I g 48 v2.toNat)]) (st2 := [gv v20]) rfl rfl rfl rfl rfl rfl (rc_of (sh_T hs rfl rfl)) (rf_md_side hs (d + 1) g a1 a3 (gm_I g 47 v2.toNat) (gm_I g 48 v2.toNat) ) fun v21 => (
      r_imul (pc2 := 211) rfl rfl (
      jr_g fun h22 => r_ifge (pc2 := 214) (t := 218) rfl h22 rfl (fun _ =>
      r_ic (x := 1) (pc2 := 215) rfl ic_1 rfl (
      r_goto (t := 219) rfl (
      r_zret rfl (by decide) rfl))) (fun _ =>
      r_ic (x := 0) (pc2 := 219) rfl ic_0 rfl (
      r_zret rfl (by decide) rfl)))))))))))))))))))))))))))) (fun _ =>
      r_ic (x := 0) (pc2 := 219) rfl ic_0 rfl (
      r_zret rfl (by decide) rfl)))))))))))))))))))))))))))) (fun _ =>
      r_ic (x := 1) (pc2 := 125) rfl ic_1 rfl (
      r_zret rfl (by decide) rfl))))))))))))))) (fun _ =>
      r_ic (x := 1) (pc2 := 125) rfl ic_1 rfl (
      r_zret rfl (by decide) rfl))))))))))))))) (fun _ =>
      r_ic (x := 1) (pc2 := 125) rfl ic_1 rfl (
      r_zret rfl (by decide) rfl))))))))))))))) (fun _ =>
      r_ic (x := 1) (pc2 := 125) rfl ic_1 rfl (
      r_zret rfl (by decide) rfl))))))))))))))))))))))))))))))))))))))
theorem rf_md_folds {s : gm_S} {n m : Nat} (hs : gm_sh s n m) (d : Nat)  (g : gm_T) (a1 : Int) (a2 : Int) (a3 : Int)  : jr (pI s g) (md_folds g a1 a2 a3) (jm_cl jm_CD km_n (d + 3) 191 [.ref 44, gv a1, gv a2, gv a3] (gm_h s g)) := by
  unfold md_folds
  exact (r_ent (cd := cd_191) (n := 5) (L0 := [some (.ref 44), some (gv a1), some (gv a2), some (gv a3), none]) rfl rfl rfl rfl (
      r_aload (pc2 := 1) rfl rfl rfl (
      r_iload (pc2 := 2) rfl rfl rfl (
      r_iload (pc2 := 3) rfl rfl rfl (
      r_callVP (pc2 := 6) (args := [.ref 44, gv a1, gv a2]) (st2 := []) rfl rfl rfl rfl rfl rfl (rc_of (sh_T hs rfl rfl)) (rf_md_wayX hs d g a1 a2 ) fun v1 => (
      r_aload (pc2 := 7) rfl rfl rfl (
      r_iload (pc2 := 8) rfl rfl rfl (
      r_iload (pc2 := 9) rfl rfl rfl (
      r_callVP (pc2 := 12) (args := [.ref 44, gv a1, gv a3]) (st2 := [gv v1]) rfl rfl rfl rfl rfl rfl (rc_of (sh_T hs rfl rfl)) (rf_md_wayX hs d g a1 a3 ) fun v2 => (
      r_imul (pc2 := 13) rfl rfl (
      r_aload (pc2 := 14) rfl rfl rfl (
      r_iload (pc2 := 15) rfl rfl rfl (
      r_iload (pc2 := 16) rfl rfl rfl (
      r_callVP (pc2 := 19) (args := [.ref 44, gv a1, gv a2]) (st2 := [gv (v1 * v2)]) rfl rfl rfl rfl rfl rfl (rc_of (sh_T hs rfl rfl)) (rf_md_wayY hs d g a1 a2 ) fun v3 => (
      r_aload (pc2 := 20) rfl rfl rfl (
      r_iload (pc2 := 21) rfl rfl rfl (
      r_iload (pc2 := 22) rfl rfl rfl (
      r_callVP (pc2 := 25) (args := [.ref 44, gv a1, gv a3]) (st2 := [gv v3, gv (v1 * v2)]) rfl rfl rfl rfl rfl rfl (rc_of (sh_T hs rfl rfl)) (rf_md_wayY hs d g a1 a3 ) fun v4 => (
      r_imul (pc2 := 26) rfl rfl (
      r_iadd (pc2 := 27) rfl rfl (
      r_istoreL (L3 := fun v5 => [some (.ref 44), some (gv a1), some (gv a2), some (gv a3), some (gv v5)]) (pc2 := 29) rfl rfl (fun _ => rfl) fun v5 => (
      r_aload (pc2 := 30) rfl rfl rfl (
      r_iload (pc2 := 31) rfl rfl rfl (
      r_iload (pc2 := 32) rfl rfl rfl (
      r_callVP (pc2 := 35) (args := [.ref 44, gv a1, gv a2]) (st2 := []) rfl rfl rfl rfl rfl rfl (rc_of (sh_T hs rfl rfl)) (rf_md_wayX hs d g a1 a2 ) fun v6 => (
      r_aload (pc2 := 36) rfl rfl rfl (
      r_iload (pc2 := 37) rfl rfl rfl (
      r_iload (pc2 := 38) rfl rfl rfl (
      r_callVP (pc2 := 41) (args := [.ref 44, gv a1, gv a2]) (st2 := [gv v6]) rfl rfl rfl rfl rfl rfl (rc_of (sh_T hs rfl rfl)) (rf_md_wayY hs d g a1 a2 ) fun v7 => (
      r_aload (pc2 := 42) rfl rfl rfl (
      r_iload (pc2 := 43) rfl rfl rfl (
      r_iload (pc2 := 44) rfl rfl rfl (
      r_callVP (pc2 := 47) (args := [.ref 44, gv a1, gv a3]) (st2 := [gv v7, gv v6]) rfl rfl rfl rfl rfl rfl (rc_of (sh_T hs rfl rfl)) (rf_md_wayX hs d g a1 a3 ) fun v8 => (
      r_aload (pc2 := 48) rfl rfl rfl (
      r_iload (pc2 := 49) rfl rfl rfl (
      r_iload (pc2 := 50) rfl rfl rfl (
      r_callVP (pc2 := 53) (args := [.ref 44, gv a1, gv a3]) (st2 := [gv v8, gv v7, gv v6]) rfl rfl rfl rfl rfl rfl (rc_of (sh_T hs rfl rfl)) (rf_md_wayY hs d g a1 a3 ) fun v9 => (
      r_callSP (pc2 := 56) (args := [gv v6, gv v7, gv v8, gv v9]) (st2 := []) rfl rfl rfl rfl rfl rfl (rf_md_cross hs (d + 1) g v6 v7 v8 v9 ) fun v10 => (
      jr_g fun h11 => r_ifne (pc2 := 59) (t := 68) rfl h11 rfl (fun _ =>
      r_iload (pc2 := 61) rfl rfl rfl (
      jr_g fun h12 => r_ifge (pc2 := 64) (t := 68) rfl h12 rfl (fun _ =>
      r_ic (x := 1) (pc2 := 65) rfl ic_1 rfl (
      r_goto (t := 69) rfl (
      r_zret rfl (by decide) rfl))) (fun _ =>
      r_ic (x := 0) (pc2 := 69) rfl ic_0 rfl (
      r_zret rfl (by decide) rfl)))) (fun _ =>
      r_ic (x := 0) (pc2 := 69) rfl ic_0 rfl (
      r_zret rfl (by decide) rfl)))))))))))))))))))))))))))))))))))))))))
theorem rl_md_areaOf_l4 {s : gm_S} {n m : Nat} (hs : gm_sh s n m) (d : Nat)  (g : gm_T) (c1 : Int)  : ∀ (fuel : Nat) (v2 : Int) (v3 : Int) (j4 : Option Value) (j5 : Option Value) (hj4 : jm_lg j4 = false) (hj5 : jm_lg j5 = false), jr (fun (q : Int) (c : Option jm_R) => ∃ (j7 : Option Value) (j8 : Option Value) (j9 : Option Value), jm_lg j7 = false ∧ jm_lg j8 = false ∧ jm_lg j9 = false ∧ c = jm_sup cd_192 (jm_cl jm_CD km_n (d + 1)) (70, [some (.ref 44), some (gv c1), some (gv q), j7, j8, j9], [], gm_h s g)) (md_areaOf_l4 g c1 fuel v2 v3) (jm_sup cd_192 (jm_cl jm_CD km_n (d + 1)) (4, [some (.ref 44), some (gv c1), some (gv v2), some (gv v3), j4, j5], [], gm_h s g)) := by
  intro fuel
  induction fuel with
  | zero => intros; exact jr_none
  | succ fuel ih =>
    intro v2 v3 j4 j5 hj4 hj5
    unfold md_areaOf_l4
    exact (
      r_iload (pc2 := 5) rfl rfl rfl (
      r_aload (pc2 := 6) rfl rfl rfl (
      r_getA (pc2 := 9) rfl rfl (sh_T hs rfl rfl) (sh_A hs rfl rfl) (
      r_iload (pc2 := 10) rfl rfl rfl (
      jr_g fun h10 => r_iald (len := 30) (pc2 := 11) rfl rfl (sh_T hs rfl rfl) (sh_L hs rfl rfl) rfl h10 (
      jr_g fun h11 => r_cge (pc2 := 14) (t := 70) rfl h11.1 h11.2 rfl (fun _ =>
      r_ic (x := 8) (pc2 := 16) rfl ic_8 rfl (
      r_iload (pc2 := 17) rfl rfl rfl (
      r_imul (pc2 := 18) rfl rfl (
      r_iload (pc2 := 19) rfl rfl rfl (
      r_iadd (pc2 := 20) rfl rfl (
      r_istoreL (L3 := fun v12 => [some (.ref 44), some (gv c1), some (gv v2), some (gv v3), some (gv v12), j5]) (pc2 := 22) rfl rfl (fun _ => rfl) fun v12 => (
      r_aload (pc2 := 23) rfl rfl rfl (
      r_iload (pc2 := 24) rfl rfl rfl (
      r_iload (pc2 := 25) rfl rfl rfl (
      r_callVP (pc2 := 28) (args := [.ref 44, gv c1, gv v3]) (st2 := []) rfl rfl rfl rfl rfl rfl (rc_of (sh_T hs rfl rfl)) (rf_md_next hs d g c1 v3 ) fun v13 => (
      r_istore (L2 := [some (.ref 44), some (gv c1), some (gv v2), some (gv v3), some (gv v12), some (gv v13)]) (pc2 := 30) rfl rfl rfl (
      r_iload (pc2 := 31) rfl rfl rfl (
      r_aload (pc2 := 32) rfl rfl rfl (
      r_getA (pc2 := 35) rfl rfl (sh_T hs rfl rfl) (sh_A hs rfl rfl) (
      r_iload (pc2 := 37) rfl rfl rfl (
      jr_g fun h14 => r_iald (len := 240) (pc2 := 38) rfl rfl (sh_T hs rfl rfl) (sh_L hs rfl rfl) rfl h14 (
      r_aload (pc2 := 39) rfl rfl rfl (
      r_getA (pc2 := 42) rfl rfl (sh_T hs rfl rfl) (sh_A hs rfl rfl) (
      r_iload (pc2 := 44) rfl rfl rfl (
      r_iald (len := 240) (pc2 := 45) rfl rfl (sh_T hs rfl rfl) (sh_L hs rfl rfl) rfl h14 (
      r_aload (pc2 := 46) rfl rfl rfl (
      r_getA (pc2 := 49) rfl rfl (sh_T hs rfl rfl) (sh_A hs rfl rfl) (
      r_iload (pc2 := 51) rfl rfl rfl (
      jr_g fun h15 => r_iald (len := 240) (pc2 := 52) rfl rfl (sh_T hs rfl rfl) (sh_L hs rfl rfl) rfl h15 (
      r_aload (pc2 := 53) rfl rfl rfl (
      r_getA (pc2 := 56) rfl rfl (sh_T hs rfl rfl) (sh_A hs rfl rfl) (
      r_iload (pc2 := 58) rfl rfl rfl (
      r_iald (len := 240) (pc2 := 59) rfl rfl (sh_T hs rfl rfl) (sh_L hs rfl rfl) rfl h15 (
      r_callSP (pc2 := 62) (args := [gv (gm_I g 47 v12.toNat), gv (gm_I g 48 v12.toNat), gv (gm_I g 47 v13.toNat), gv (gm_I g 48 v13.toNat)]) (st2 := [gv v2]) rfl rfl rfl rfl rfl rfl (rf_md_cross hs d g (gm_I g 47 v12.toNat) (gm_I g 48 v12.toNat) (gm_I g 47 v13.toNat) (gm_I g 48 v13.toNat) ) fun v16 => (
      r_iadd (pc2 := 63) rfl rfl (
      r_istoreL (L3 := fun v17 => [some (.ref 44), some (gv c1), some (gv v17), some (gv v3), some (gv v12), some (gv v13)]) (pc2 := 64) rfl rfl (fun _ => rfl) fun v17 => (
      r_iinc (kk := 1) (L2 := [some (.ref 44), some (gv c1), some (gv v17), some (gv (v3 + 1)), some (gv v12), some (gv v13)]) (pc2 := 67) rfl ic_1 rfl rfl rfl (
      r_goto (t := 4) rfl (
      ih v17 (v3 + 1) _ _ rfl rfl)))))))))))))))))))))))))))))))))) (fun _ =>
      jr_leaf ⟨_, _, _, rfl, hj4, hj5, rfl⟩)))))))
theorem rf_md_areaOf {s : gm_S} {n m : Nat} (hs : gm_sh s n m) (d : Nat)  (g : gm_T) (a1 : Int)  : jr (pI s g) (md_areaOf g a1) (jm_cl jm_CD km_n (d + 2) 192 [.ref 44, gv a1] (gm_h s g)) := by
  unfold md_areaOf
  exact (r_ent (cd := cd_192) (n := 6) (L0 := [some (.ref 44), some (gv a1), none, none, none, none]) rfl rfl rfl rfl (
      r_ic (x := 0) (pc2 := 1) rfl ic_0 rfl (
      r_istore (L2 := [some (.ref 44), some (gv a1), some (gv 0), none, none, none]) (pc2 := 2) rfl rfl rfl (
      r_ic (x := 0) (pc2 := 3) rfl ic_0 rfl (
      r_istore (L2 := [some (.ref 44), some (gv a1), some (gv 0), some (gv 0), none, none]) (pc2 := 4) rfl rfl rfl (
      r_b1 (rl_md_areaOf_l4 hs d  g a1  fz 0 0 _ _ rfl rfl) (fun v19 c h => match c, h with | _, ⟨j20, j21, j22, hj20, hj21, hj22, rfl⟩ => (
      r_iload (pc2 := 71) rfl rfl rfl (
      r_iret rfl rfl)))))))))
theorem rl_md_isRing_l9 {s : gm_S} {n m : Nat} (hs : gm_sh s n m) (d : Nat)  (g : gm_T) (c3 : Int) (c4 : Int)  : ∀ (fuel : Nat) (v5 : Int), jr (fun (x : (Unit) ⊕ (Int)) (c : Option jm_R) => match x with | .inl q => (∃ (j6 : Option Value), jm_lg j6 = false ∧ c = jm_sup cd_193 (jm_cl jm_CD km_n (d + 5)) (40, [some (.ref 44), some (gv c3), some (gv c4), j6, none], [], gm_h s g)) | .inr r => pI s g r c) (md_isRing_l9 g c3 c4 fuel v5) (jm_sup cd_193 (jm_cl jm_CD km_n (d + 5)) (9, [some (.ref 44), some (gv c3), some (gv c4), some (gv v5), none], [], gm_h s g)) := by
  intro fuel
  induction fuel with
  | zero => intros; exact jr_none
  | succ fuel ih =>
    intro v5  
    unfold md_isRing_l9
    exact (
      r_iload (pc2 := 10) rfl rfl rfl (
      r_iload (pc2 := 11) rfl rfl rfl (
      jr_g fun h7 => r_cge (pc2 := 14) (t := 40) rfl h7.1 h7.2 rfl (fun _ =>
      r_aload (pc2 := 15) rfl rfl rfl (
      r_iload (pc2 := 16) rfl rfl rfl (
      r_iload (pc2 := 17) rfl rfl rfl (
      r_callVP (pc2 := 20) (args := [.ref 44, gv c3, gv v5]) (st2 := []) rfl rfl rfl rfl rfl rfl (rc_of (sh_T hs rfl rfl)) (rf_md_wayX hs (d + 3) g c3 v5 ) fun v8 => (
      jr_g fun h9 => r_ifne (pc2 := 23) (t := 34) rfl h9 rfl (fun _ =>
      r_aload (pc2 := 24) rfl rfl rfl (
      r_iload (pc2 := 25) rfl rfl rfl (
      r_iload (pc2 := 26) rfl rfl rfl (
      r_callVP (pc2 := 29) (args := [.ref 44, gv c3, gv v5]) (st2 := []) rfl rfl rfl rfl rfl rfl (rc_of (sh_T hs rfl rfl)) (rf_md_wayY hs (d + 3) g c3 v5 ) fun v10 => (
      jr_g fun h11 => r_ifne (pc2 := 32) (t := 34) rfl h11 rfl (fun _ =>
      r_ic (x := 0) (pc2 := 33) rfl ic_0 rfl (
      r_zret rfl (by decide) rfl)) (fun _ =>
      r_iinc (kk := 1) (L2 := [some (.ref 44), some (gv c3), some (gv c4), some (gv (v5 + 1)), none]) (pc2 := 37) rfl ic_1 rfl rfl rfl (
      r_goto (t := 9) rfl (
      ih (v5 + 1))))))))) (fun _ =>
      r_iinc (kk := 1) (L2 := [some (.ref 44), some (gv c3), some (gv c4), some (gv (v5 + 1)), none]) (pc2 := 37) rfl ic_1 rfl rfl rfl (
      r_goto (t := 9) rfl (
      ih (v5 + 1))))))))) (fun _ =>
      jr_leaf ⟨_, rfl, rfl⟩))))
theorem rl_md_isRing_l68 {s : gm_S} {n m : Nat} (hs : gm_sh s n m) (d : Nat)  (g : gm_T) (c25 : Int) (c26 : Int) (c27 : Int)  : ∀ (fuel : Nat) (v28 : Int), jr (fun (x : (Unit) ⊕ (Int)) (c : Option jm_R) => match x with | .inl q => (∃ (j29 : Option Value), jm_lg j29 = false ∧ c = jm_sup cd_193 (jm_cl jm_CD km_n (d + 5)) (105, [some (.ref 44), some (gv c25), some (gv c26), some (gv c27), j29], [], gm_h s g)) | .inr r => pI s g r c) (md_isRing_l68 g c25 c26 c27 fuel v28) (jm_sup cd_193 (jm_cl jm_CD km_n (d + 5)) (68, [some (.ref 44), some (gv c25), some (gv c26), some (gv c27), some (gv v28)], [], gm_h s g)) := by
  intro fuel
  induction fuel with
  | zero => intros; exact jr_none
  | succ fuel ih =>
    intro v28  
    unfold md_isRing_l68
    exact (
      r_iload (pc2 := 70) rfl rfl rfl (
      r_iload (pc2 := 71) rfl rfl rfl (
      jr_g fun h30 => r_cge (pc2 := 74) (t := 105) rfl h30.1 h30.2 rfl (fun _ =>
      r_iload (pc2 := 75) rfl rfl rfl (
      jr_g fun h31 => r_ifne (pc2 := 78) (t := 86) rfl h31 rfl (fun _ =>
      r_iload (pc2 := 80) rfl rfl rfl (
      r_iload (pc2 := 81) rfl rfl rfl (
      r_ic (x := 1) (pc2 := 82) rfl ic_1 rfl (
      r_isub (pc2 := 83) rfl rfl (
      jr_g fun h32 => r_ceq (pc2 := 86) (t := 99) rfl h30.1 h32 rfl (fun _ =>
      r_iinc (kk := 1) (L2 := [some (.ref 44), some (gv c25), some (gv c26), some (gv c27), some (gv (v28 + 1))]) (pc2 := 102) rfl ic_1 rfl rfl rfl (
      r_goto (t := 68) rfl (
      ih (v28 + 1)))) (fun _ =>
      r_aload (pc2 := 87) rfl rfl rfl (
      r_iload (pc2 := 88) rfl rfl rfl (
      r_iload (pc2 := 89) rfl rfl rfl (
      r_iload (pc2 := 91) rfl rfl rfl (
      r_callVP (pc2 := 94) (args := [.ref 44, gv c25, gv c27, gv v28]) (st2 := []) rfl rfl rfl rfl rfl rfl (rc_of (sh_T hs rfl rfl)) (rf_md_meet hs d g c25 c27 v28 ) fun v34 => (
      jr_g fun h35 => r_ifeq (pc2 := 97) (t := 99) rfl h35 rfl (fun _ =>
      r_iinc (kk := 1) (L2 := [some (.ref 44), some (gv c25), some (gv c26), some (gv c27), some (gv (v28 + 1))]) (pc2 := 102) rfl ic_1 rfl rfl rfl (
      r_goto (t := 68) rfl (
      ih (v28 + 1)))) (fun _ =>
      r_ic (x := 0) (pc2 := 98) rfl ic_0 rfl (
      r_zret rfl (by decide) rfl))))))))))))) (fun _ =>
      r_aload (pc2 := 87) rfl rfl rfl (
      r_iload (pc2 := 88) rfl rfl rfl (
      r_iload (pc2 := 89) rfl rfl rfl (
      r_iload (pc2 := 91) rfl rfl rfl (
      r_callVP (pc2 := 94) (args := [.ref 44, gv c25, gv c27, gv v28]) (st2 := []) rfl rfl rfl rfl rfl rfl (rc_of (sh_T hs rfl rfl)) (rf_md_meet hs d g c25 c27 v28 ) fun v37 => (
      jr_g fun h38 => r_ifeq (pc2 := 97) (t := 99) rfl h38 rfl (fun _ =>
      r_iinc (kk := 1) (L2 := [some (.ref 44), some (gv c25), some (gv c26), some (gv c27), some (gv (v28 + 1))]) (pc2 := 102) rfl ic_1 rfl rfl rfl (
      r_goto (t := 68) rfl (
      ih (v28 + 1)))) (fun _ =>
      r_ic (x := 0) (pc2 := 98) rfl ic_0 rfl (
      r_zret rfl (by decide) rfl)))))))))) (fun _ =>
      jr_leaf ⟨_, rfl, rfl⟩))))
theorem rl_md_isRing_l42 {s : gm_S} {n m : Nat} (hs : gm_sh s n m) (d : Nat)  (g : gm_T) (c15 : Int) (c16 : Int)  : ∀ (fuel : Nat) (v17 : Int) (j18 : Option Value) (hj18 : jm_lg j18 = false), jr (fun (x : (Unit) ⊕ (Int)) (c : Option jm_R) => match x with | .inl q => (∃ (j19 : Option Value) (j20 : Option Value), jm_lg j19 = false ∧ jm_lg j20 = false ∧ c = jm_sup cd_193 (jm_cl jm_CD km_n (d + 5)) (111, [some (.ref 44), some (gv c15), some (gv c16), j19, j20], [], gm_h s g)) | .inr r => pI s g r c) (md_isRing_l42 g c15 c16 fuel v17) (jm_sup cd_193 (jm_cl jm_CD km_n (d + 5)) (42, [some (.ref 44), some (gv c15), some (gv c16), some (gv v17), j18], [], gm_h s g)) := by
  intro fuel
  induction fuel with
  | zero => intros; exact jr_none
  | succ fuel ih =>
    intro v17 j18 hj18
    unfold md_isRing_l42
    exact (
      r_iload (pc2 := 43) rfl rfl rfl (
      r_iload (pc2 := 44) rfl rfl rfl (
      jr_g fun h21 => r_cge (pc2 := 47) (t := 111) rfl h21.1 h21.2 rfl (fun _ =>
      r_aload (pc2 := 48) rfl rfl rfl (
      r_iload (pc2 := 49) rfl rfl rfl (
      r_iload (pc2 := 50) rfl rfl rfl (
      r_iload (pc2 := 51) rfl rfl rfl (
      r_ic (x := 1) (pc2 := 52) rfl ic_1 rfl (
      r_iadd (pc2 := 53) rfl rfl (
      r_iload (pc2 := 54) rfl rfl rfl (
      jr_g fun hd => r_irem (pc2 := 55) rfl rfl hd.1 hd.2 (
      r_callVP (pc2 := 58) (args := [.ref 44, gv c15, gv v17, gv ((v17 + 1) % c16)]) (st2 := []) rfl rfl rfl rfl rfl rfl (rc_of (sh_T hs rfl rfl)) (rf_md_folds hs (d + 2) g c15 v17 ((v17 + 1) % c16) ) fun v22 => (
      jr_g fun h23 => r_ifeq (pc2 := 61) (t := 63) rfl h23 rfl (fun _ =>
      r_iload (pc2 := 64) rfl rfl rfl (
      r_ic (x := 2) (pc2 := 65) rfl ic_2 rfl (
      r_iadd (pc2 := 66) rfl rfl (
      r_istoreL (L3 := fun v24 => [some (.ref 44), some (gv c15), some (gv c16), some (gv v17), some (gv v24)]) (pc2 := 68) rfl rfl (fun _ => rfl) fun v24 => (
      r_c1 (rl_md_isRing_l68 hs d  g c15 c16 v17  fz v24  ) (fun r c h => jr_leaf h) (fun _u c h => match c, h with | _, ⟨j40, hj40, rfl⟩ => (
      r_iinc (kk := 1) (L2 := [some (.ref 44), some (gv c15), some (gv c16), some (gv (v17 + 1)), j40]) (pc2 := 108) rfl ic_1 rfl rfl rfl (
      r_goto (t := 42) rfl (
      ih (v17 + 1) _ hj40))))))))) (fun _ =>
      r_ic (x := 0) (pc2 := 62) rfl ic_0 rfl (
      r_zret rfl (by decide) rfl)))))))))))) (fun _ =>
      jr_leaf ⟨_, _, rfl, hj18, rfl⟩))))
theorem rf_md_isRing {s : gm_S} {n m : Nat} (hs : gm_sh s n m) (d : Nat)  (g : gm_T) (a1 : Int)  : jr (pI s g) (md_isRing g a1) (jm_cl jm_CD km_n (d + 6) 193 [.ref 44, gv a1] (gm_h s g)) := by
  unfold md_isRing
  exact (r_ent (cd := cd_193) (n := 5) (L0 := [some (.ref 44), some (gv a1), none, none, none]) rfl rfl rfl rfl (
      r_aload (pc2 := 1) rfl rfl rfl (
      r_getA (pc2 := 4) rfl rfl (sh_T hs rfl rfl) (sh_A hs rfl rfl) (
      r_iload (pc2 := 5) rfl rfl rfl (
      jr_g fun h1 => r_iald (len := 30) (pc2 := 6) rfl rfl (sh_T hs rfl rfl) (sh_L hs rfl rfl) rfl h1 (
      r_istoreL (L3 := fun v2 => [some (.ref 44), some (gv a1), some (gv v2), none, none]) (pc2 := 7) rfl rfl (fun _ => rfl) fun v2 => (
      r_ic (x := 0) (pc2 := 8) rfl ic_0 rfl (
      r_istore (L2 := [some (.ref 44), some (gv a1), some (gv v2), some (gv 0), none]) (pc2 := 9) rfl rfl rfl (
      r_c1 (rl_md_isRing_l9 hs d  g a1 v2  fz 0  ) (fun r c h => jr_leaf h) (fun _u c h => match c, h with | _, ⟨j14, hj14, rfl⟩ => (
      r_ic (x := 0) (pc2 := 41) rfl ic_0 rfl (
      r_istore (L2 := [some (.ref 44), some (gv a1), some (gv v2), some (gv 0), none]) (pc2 := 42) rfl rfl rfl (
      r_c1 (rl_md_isRing_l42 hs d  g a1 v2  fz 0 _ rfl) (fun r c h => jr_leaf h) (fun _u c h => match c, h with | _, ⟨j42, j43, hj42, hj43, rfl⟩ => (
      r_aload (pc2 := 112) rfl rfl rfl (
      r_iload (pc2 := 113) rfl rfl rfl (
      r_callVP (pc2 := 116) (args := [.ref 44, gv a1]) (st2 := []) rfl rfl rfl rfl rfl rfl (rc_of (sh_T hs rfl rfl)) (rf_md_areaOf hs (d + 3) g a1 ) fun v44 => (
      jr_g fun h45 => r_ifle (pc2 := 119) (t := 123) rfl h45 rfl (fun _ =>
      r_ic (x := 0) (pc2 := 124) rfl ic_0 rfl (
      r_zret rfl (by decide) rfl)) (fun _ =>
      r_ic (x := 1) (pc2 := 120) rfl ic_1 rfl (
      r_goto (t := 124) rfl (
      r_zret rfl (by decide) rfl)))))))))))))))))))))
theorem rl_md_isWithin_l20 {s : gm_S} {n m : Nat} (hs : gm_sh s n m) (d : Nat)  (g : gm_T) (c3 : Int) (c6 : Int) (c7 : Int)  : ∀ (fuel : Nat) (v8 : Int) (v9 : Int) (j4 : Option Value) (j5 : Option Value) (j10 : Option Value) (j11 : Option Value) (j12 : Option Value) (j13 : Option Value) (j14 : Option Value) (j15 : Option Value) (j16 : Option Value) (hj4 : jm_lg j4 = false) (hj5 : jm_lg j5 = false) (hj10 : jm_lg j10 = false) (hj11 : jm_lg j11 = false) (hj12 : jm_lg j12 = false) (hj13 : jm_lg j13 = false) (hj14 : jm_lg j14 = false) (hj15 : jm_lg j15 = false) (hj16 : jm_lg j16 = false), jr (pI s g) (md_isWithin_l20 g c3 c6 c7 fuel v8 v9) (jm_sup cd_194 (jm_cl jm_CD km_n (d + 1)) (20, [some (.ref 44), some (gv c3), j4, j5, some (gv c6), some (gv c7), some (gv v8), some (gv v9), j10, j11, j12, j13, j14, j15, j16], [], gm_h s g)) := by
  intro fuel
  induction fuel with
  | zero => intros; exact jr_none
  | succ fuel ih =>
    intro v8 v9 j4 j5 j10 j11 j12 j13 j14 j15 j16 hj4 hj5 hj10 hj11 hj12 hj13 hj14 hj15 hj16
    unfold md_isWithin_l20
    exact (
      r_iload (pc2 := 22) rfl rfl rfl (
      r_aload (pc2 := 23) rfl rfl rfl (
      r_getA (pc2 := 26) rfl rfl (sh_T hs rfl rfl) (sh_A hs rfl rfl) (
      r_iload (pc2 := 27) rfl rfl rfl (
      jr_g fun h17 => r_iald (len := 30) (pc2 := 28) rfl rfl (sh_T hs rfl rfl) (sh_L hs rfl rfl) rfl h17 (
      jr_g fun h18 => r_cge (pc2 := 31) (t := 256) rfl h18.1 h18.2 rfl (fun _ =>
      r_ic (x := 2) (pc2 := 32) rfl ic_2 rfl (
      r_aload (pc2 := 33) rfl rfl rfl (
      r_getA (pc2 := 36) rfl rfl (sh_T hs rfl rfl) (sh_A hs rfl rfl) (
      r_ic (x := 8) (pc2 := 38) rfl ic_8 rfl (
      r_iload (pc2 := 39) rfl rfl rfl (
      r_imul (pc2 := 40) rfl rfl (
      r_iload (pc2 := 42) rfl rfl rfl (
      r_iadd (pc2 := 43) rfl rfl (
      jr_g fun h19 => r_iald (len := 240) (pc2 := 44) rfl rfl (sh_T hs rfl rfl) (sh_L hs rfl rfl) rfl h19 (
      r_imul (pc2 := 45) rfl rfl (
      r_istoreL (L3 := fun v20 => [some (.ref 44), some (gv c3), j4, j5, some (gv c6), some (gv c7), some (gv v8), some (gv v9), some (gv v20), j11, j12, j13, j14, j15, j16]) (pc2 := 47) rfl rfl (fun _ => rfl) fun v20 => (
      r_ic (x := 2) (pc2 := 48) rfl ic_2 rfl (
      r_aload (pc2 := 49) rfl rfl rfl (
      r_getA (pc2 := 52) rfl rfl (sh_T hs rfl rfl) (sh_A hs rfl rfl) (
      r_ic (x := 8) (pc2 := 54) rfl ic_8 rfl (
      r_iload (pc2 := 55) rfl rfl rfl (
      r_imul (pc2 := 56) rfl rfl (
      r_iload (pc2 := 58) rfl rfl rfl (
      r_iadd (pc2 := 59) rfl rfl (
      r_iald (len := 240) (pc2 := 60) rfl rfl (sh_T hs rfl rfl) (sh_L hs rfl rfl) rfl h19 (
      r_imul (pc2 := 61) rfl rfl (
      r_istoreL (L3 := fun v21 => [some (.ref 44), some (gv c3), j4, j5, some (gv c6), some (gv c7), some (gv v8), some (gv v9), some (gv v20), some (gv v21), j12, j13, j14, j15, j16]) (pc2 := 63) rfl rfl (fun _ => rfl) fun v21 => (
      r_ic (x := 2) (pc2 := 64) rfl ic_2 rfl (
      r_aload (pc2 := 65) rfl rfl rfl (
      r_getA (pc2 := 68) rfl rfl (sh_T hs rfl rfl) (sh_A hs rfl rfl) (
      r_aload (pc2 := 69) rfl rfl rfl (
      r_iload (pc2 := 70) rfl rfl rfl (
      r_iload (pc2 := 72) rfl rfl rfl (
      r_callVP (pc2 := 75) (args := [.ref 44, gv c3, gv v9]) (st2 := [.ref 47, gv 2]) rfl rfl rfl rfl rfl rfl (rc_of (sh_T hs rfl rfl)) (rf_md_next hs d g c3 v9 ) fun v22 => (
      jr_g fun h23 => r_iald (len := 240) (pc2 := 76) rfl rfl (sh_T hs rfl rfl) (sh_L hs rfl rfl) rfl h23 (
      r_imul (pc2 := 77) rfl rfl (
      r_istoreL (L3 := fun v24 => [some (.ref 44), some (gv c3), j4, j5, some (gv c6), some (gv c7), some (gv v8), some (gv v9), some (gv v20), some (gv v21), some (gv v24), j13, j14, j15, j16]) (pc2 := 79) rfl rfl (fun _ => rfl) fun v24 => (
      r_ic (x := 2) (pc2 := 80) rfl ic_2 rfl (
      r_aload (pc2 := 81) rfl rfl rfl (
      r_getA (pc2 := 84) rfl rfl (sh_T hs rfl rfl) (sh_A hs rfl rfl) (
      r_aload (pc2 := 85) rfl rfl rfl (
      r_iload (pc2 := 86) rfl rfl rfl (
      r_iload (pc2 := 88) rfl rfl rfl (
      r_callVP (pc2 := 91) (args := [.ref 44, gv c3, gv v9]) (st2 := [.ref 48, gv 2]) rfl rfl rfl rfl rfl rfl (rc_of (sh_T hs rfl rfl)) (rf_md_next hs d g c3 v9 ) fun v25 => (
      jr_g fun h26 => r_iald (len := 240) (pc2 := 92) rfl rfl (sh_T hs rfl rfl) (sh_L hs rfl rfl) rfl h26 (
      r_imul (pc2 := 93) rfl rfl (
      r_istoreL (L3 := fun v27 => [some (.ref 44), some (gv c3), j4, j5, some (gv c6), some (gv c7), some (gv v8), some (gv v9), some (gv v20), some (gv v21), some (gv v24), some (gv v27), j14, j15, j16]) (pc2 := 95) rfl rfl (fun _ => rfl) fun v27 => (
      r_iload (pc2 := 97) rfl rfl rfl (
      r_iload (pc2 := 99) rfl rfl rfl (
      r_isub (pc2 := 100) rfl rfl (
      r_iload (pc2 := 102) rfl rfl rfl (
      r_iload (pc2 := 104) rfl rfl rfl (
      r_isub (pc2 := 105) rfl rfl (
      r_iload (pc2 := 107) rfl rfl rfl (
      r_iload (pc2 := 109) rfl rfl rfl (
      r_isub (pc2 := 110) rfl rfl (
      r_iload (pc2 := 112) rfl rfl rfl (
      r_iload (pc2 := 114) rfl rfl rfl (
      r_isub (pc2 := 115) rfl rfl (
      r_callSP (pc2 := 118) (args := [gv (v24 - v20), gv (v27 - v21), gv (c6 - v20), gv (c7 - v21)]) (st2 := []) rfl rfl rfl rfl rfl rfl (rf_md_cross hs d g (v24 - v20) (v27 - v21) (c6 - v20) (c7 - v21) ) fun v28 => (
      r_istore (L2 := [some (.ref 44), some (gv c3), j4, j5, some (gv c6), some (gv c7), some (gv v8), some (gv v9), some (gv v20), some (gv v21), some (gv v24), some (gv v27), some (gv v28), j15, j16]) (pc2 := 120) rfl rfl rfl (
      r_iload (pc2 := 122) rfl rfl rfl (
      jr_g fun h29 => r_ifne (pc2 := 125) (t := 171) rfl h29 rfl (fun _ =>
      r_iload (pc2 := 127) rfl rfl rfl (
      r_iload (pc2 := 129) rfl rfl rfl (
      r_iload (pc2 := 131) rfl rfl rfl (
      jr_g fun h30 => r_mmin (pc2 := 134) rfl rfl rfl h30.1 h30.2 (
      r_iload (pc2 := 136) rfl rfl rfl (
      r_iload (pc2 := 138) rfl rfl rfl (
      r_mmax (pc2 := 141) rfl rfl rfl h30.1 h30.2 (
      r_callSP (pc2 := 144) (args := [gv c6, gv (zmin v20 v24), gv (zmax v20 v24)]) (st2 := []) rfl rfl rfl rfl rfl rfl (rf_md_in hs d g c6 (zmin v20 v24) (zmax v20 v24) ) fun v31 => (
      jr_g fun h32 => r_ifeq (pc2 := 147) (t := 171) rfl h32 rfl (fun _ =>
      r_iload (pc2 := 173) rfl rfl rfl (
      r_iload (pc2 := 175) rfl rfl rfl (
      r_b1 (R1 := (fun (q : Int) (c : Option jm_R) => c = jm_sup cd_194 (jm_cl jm_CD km_n (d + 1)) (190, [some (.ref 44), some (gv c3), j4, j5, some (gv c6), some (gv c7), some (gv v8), some (gv v9), some (gv v20), some (gv v21), some (gv v24), some (gv v27), some (gv v28), j15, j16], [gv q], gm_h s g))) (
      jr_g fun h34 => r_cgt (pc2 := 178) (t := 189) rfl h34.1 h34.2 rfl (fun _ =>
      r_iload (pc2 := 180) rfl rfl rfl (
      r_iload (pc2 := 182) rfl rfl rfl (
      jr_g fun h35 => r_cle (pc2 := 185) (t := 189) rfl h35 h34.2 rfl (fun _ =>
      r_ic (x := 0) (pc2 := 190) rfl ic_0 rfl (
      jr_leaf rfl)) (fun _ =>
      r_ic (x := 1) (pc2 := 186) rfl ic_1 rfl (
      r_goto (t := 190) rfl (
      jr_leaf rfl)))))) (fun _ =>
      r_ic (x := 0) (pc2 := 190) rfl ic_0 rfl (
      jr_leaf rfl))) (fun v33 c h => match c, h with | _, rfl => (
      r_istore (L2 := [some (.ref 44), some (gv c3), j4, j5, some (gv c6), some (gv c7), some (gv v8), some (gv v9), some (gv v20), some (gv v21), some (gv v24), some (gv v27), some (gv v28), some (gv v33), j16]) (pc2 := 192) rfl rfl rfl (
      r_iload (pc2 := 194) rfl rfl rfl (
      r_iload (pc2 := 196) rfl rfl rfl (
      r_b1 (R1 := (fun (q : Int) (c : Option jm_R) => c = jm_sup cd_194 (jm_cl jm_CD km_n (d + 1)) (211, [some (.ref 44), some (gv c3), j4, j5, some (gv c6), some (gv c7), some (gv v8), some (gv v9), some (gv v20), some (gv v21), some (gv v24), some (gv v27), some (gv v28), some (gv v33), j16], [gv q], gm_h s g))) (
      jr_g fun h37 => r_cgt (pc2 := 199) (t := 210) rfl h37.1 h37.2 rfl (fun _ =>
      r_iload (pc2 := 201) rfl rfl rfl (
      r_iload (pc2 := 203) rfl rfl rfl (
      jr_g fun h38 => r_cle (pc2 := 206) (t := 210) rfl h38 h37.2 rfl (fun _ =>
      r_ic (x := 0) (pc2 := 211) rfl ic_0 rfl (
      jr_leaf rfl)) (fun _ =>
      r_ic (x := 1) (pc2 := 207) rfl ic_1 rfl (
      r_goto (t := 211) rfl (
      jr_leaf rfl)))))) (fun _ =>
      r_ic (x := 0) (pc2 := 211) rfl ic_0 rfl (
      jr_leaf rfl))) (fun v36 c h => match c, h with | _, rfl => (
      r_istore (L2 := [some (.ref 44), some (gv c3), j4, j5, some (gv c6), some (gv c7), some (gv v8), some (gv v9), some (gv v20), some (gv v21), some (gv v24), some (gv v27), some (gv v28), some (gv v33), some (gv v36)]) (pc2 := 213) rfl rfl rfl (
      r_iload (pc2 := 215) rfl rfl rfl (
      jr_g fun h39 => r_ifeq (pc2 := 218) (t := 223) rfl h39 rfl (fun _ =>
      r_iload (pc2 := 225) rfl rfl rfl (
      jr_g fun h40 => r_ifeq (pc2 := 228) (t := 246) rfl h40 rfl (fun _ =>
      r_iload (pc2 := 248) rfl rfl rfl (
      r_istore (L2 := [some (.ref 44), some (gv c3), j4, j5, some (gv c6), some (gv c7), some (gv v8), some (gv v9), some (gv v20), some (gv v21), some (gv v24), some (gv v27), some (gv v28), some (gv v33), some (gv v36)]) (pc2 := 250) rfl rfl rfl (
      r_iinc (kk := 1) (L2 := [some (.ref 44), some (gv c3), j4, j5, some (gv c6), some (gv c7), some (gv v8), some (gv (v9 + 1)), some (gv v20), some (gv v21), some (gv v24), some (gv v27), some (gv v28), some (gv v33), some (gv v36)]) (pc2 := 253) rfl ic_1 rfl rfl rfl (
      r_goto (t := 20) rfl (
      ih v8 (v9 + 1) _ _ _ _ _ _ _ _ _ hj4 hj5 rfl rfl rfl rfl rfl rfl rfl))))) (fun _ =>
      r_iload (pc2 := 230) rfl rfl rfl (
      r_ifge (pc2 := 233) (t := 246) rfl h29 rfl (fun _ =>
      r_iload (pc2 := 235) rfl rfl rfl (
      jr_g fun h42 => r_ifne (pc2 := 238) (t := 242) rfl h42 rfl (fun _ =>
      r_ic (x := 1) (pc2 := 239) rfl ic_1 rfl (
      r_goto (t := 248) rfl (
      r_istore (L2 := [some (.ref 44), some (gv c3), j4, j5, some (gv c6), some (gv c7), some (gv 1), some (gv v9), some (gv v20), some (gv v21), some (gv v24), some (gv v27), some (gv v28), some (gv v33), some (gv v36)]) (pc2 := 250) rfl rfl rfl (
      r_iinc (kk := 1) (L2 := [some (.ref 44), some (gv c3), j4, j5, some (gv c6), some (gv c7), some (gv 1), some (gv (v9 + 1)), some (gv v20), some (gv v21), some (gv v24), some (gv v27), some (gv v28), some (gv v33), some (gv v36)]) (pc2 := 253) rfl ic_1 rfl rfl rfl (
      r_goto (t := 20) rfl (
      ih 1 (v9 + 1) _ _ _ _ _ _ _ _ _ hj4 hj5 rfl rfl rfl rfl rfl rfl rfl)))))) (fun _ =>
      r_ic (x := 0) (pc2 := 243) rfl ic_0 rfl (
      r_goto (t := 248) rfl (
      r_istore (L2 := [some (.ref 44), some (gv c3), j4, j5, some (gv c6), some (gv c7), some (gv 0), some (gv v9), some (gv v20), some (gv v21), some (gv v24), some (gv v27), some (gv v28), some (gv v33), some (gv v36)]) (pc2 := 250) rfl rfl rfl (
      r_iinc (kk := 1) (L2 := [some (.ref 44), some (gv c3), j4, j5, some (gv c6), some (gv c7), some (gv 0), some (gv (v9 + 1)), some (gv v20), some (gv v21), some (gv v24), some (gv v27), some (gv v28), some (gv v33), some (gv v36)]) (pc2 := 253) rfl ic_1 rfl rfl rfl (
      r_goto (t := 20) rfl (
      ih 0 (v9 + 1) _ _ _ _ _ _ _ _ _ hj4 hj5 rfl rfl rfl rfl rfl rfl rfl)))))))) (fun _ =>
      r_iload (pc2 := 248) rfl rfl rfl (
      r_istore (L2 := [some (.ref 44), some (gv c3), j4, j5, some (gv c6), some (gv c7), some (gv v8), some (gv v9), some (gv v20), some (gv v21), some (gv v24), some (gv v27), some (gv v28), some (gv v33), some (gv v36)]) (pc2 := 250) rfl rfl rfl (
      r_iinc (kk := 1) (L2 := [some (.ref 44), some (gv c3), j4, j5, some (gv c6), some (gv c7), some (gv v8), some (gv (v9 + 1)), some (gv v20), some (gv v21), some (gv v24), some (gv v27), some (gv v28), some (gv v33), some (gv v36)]) (pc2 := 253) rfl ic_1 rfl rfl rfl (
      r_goto (t := 20) rfl (
      ih v8 (v9 + 1) _ _ _ _ _ _ _ _ _ hj4 hj5 rfl rfl rfl rfl rfl rfl rfl))))))))) (fun _ =>
      r_iload (pc2 := 220) rfl rfl rfl (
      r_ifgt (pc2 := 223) (t := 233) rfl h29 rfl (fun _ =>
      r_iload (pc2 := 225) rfl rfl rfl (
      jr_g fun h46 => r_ifeq (pc2 := 228) (t := 246) rfl h46 rfl (fun _ =>
      r_iload (pc2 := 248) rfl rfl rfl (
      r_istore (L2 := [some (.ref 44), some (gv c3), j4, j5, some (gv c6), some (gv c7), some (gv v8), some (gv v9), some (gv v20), some (gv v21), some (gv v24), some (gv v27), some (gv v28), some (gv v33), some (gv v36)]) (pc2 := 250) rfl rfl rfl (
      r_iinc (kk := 1) (L2 := [some (.ref 44), some (gv c3), j4, j5, some (gv c6), some (gv c7), some (gv v8), some (gv (v9 + 1)), some (gv v20), some (gv v21), some (gv v24), some (gv v27), some (gv v28), some (gv v33), some (gv v36)]) (pc2 := 253) rfl ic_1 rfl rfl rfl (
      r_goto (t := 20) rfl (
      ih v8 (v9 + 1) _ _ _ _ _ _ _ _ _ hj4 hj5 rfl rfl rfl rfl rfl rfl rfl))))) (fun _ =>
      r_iload (pc2 := 230) rfl rfl rfl (
      r_ifge (pc2 := 233) (t := 246) rfl h29 rfl (fun _ =>
      r_iload (pc2 := 235) rfl rfl rfl (
      jr_g fun h48 => r_ifne (pc2 := 238) (t := 242) rfl h48 rfl (fun _ =>
      r_ic (x := 1) (pc2 := 239) rfl ic_1 rfl (
      r_goto (t := 248) rfl (
      r_istore (L2 := [some (.ref 44), some (gv c3), j4, j5, some (gv c6), some (gv c7), some (gv 1), some (gv v9), some (gv v20), some (gv v21), some (gv v24), some (gv v27), some (gv v28), some (gv v33), some (gv v36)]) (pc2 := 250) rfl rfl rfl (
      r_iinc (kk := 1) (L2 := [some (.ref 44), some (gv c3), j4, j5, some (gv c6), some (gv c7), some (gv 1), some (gv (v9 + 1)), some (gv v20), some (gv v21), some (gv v24), some (gv v27), some (gv v28), some (gv v33), some (gv v36)]) (pc2 := 253) rfl ic_1 rfl rfl rfl (
      r_goto (t := 20) rfl (
      ih 1 (v9 + 1) _ _ _ _ _ _ _ _ _ hj4 hj5 rfl rfl rfl rfl rfl rfl rfl)))))) (fun _ =>
      r_ic (x := 0) (pc2 := 243) rfl ic_0 rfl (
      r_goto (t := 248) rfl (
      r_istore (L2 := [some (.ref 44), some (gv c3), j4, j5, some (gv c6), some (gv c7), some (gv 0), some (gv v9), some (gv v20), some (gv v21), some (gv v24), some (gv v27), some (gv v28), some (gv v33), some (gv v36)]) (pc2 := 250) rfl rfl rfl (
      r_iinc (kk := 1) (L2 := [some (.ref 44), some (gv c3), j4, j5, some (gv c6), some (gv c7), some (gv 0), some (gv (v9 + 1)), some (gv v20), some (gv v21), some (gv v24), some (gv v27), some (gv v28), some (gv v33), some (gv v36)]) (pc2 := 253) rfl ic_1 rfl rfl rfl (
      r_goto (t := 20) rfl (
      ih 0 (v9 + 1) _ _ _ _ _ _ _ _ _ hj4 hj5 rfl rfl rfl rfl rfl rfl rfl)))))))) (fun _ =>
      r_iload (pc2 := 248) rfl rfl rfl (
      r_istore (L2 := [some (.ref 44), some (gv c3), j4, j5, some (gv c6), some (gv c7), some (gv v8), some (gv v9), some (gv v20), some (gv v21), some (gv v24), some (gv v27), some (gv v28), some (gv v33), some (gv v36)]) (pc2 := 250) rfl rfl rfl (
      r_iinc (kk := 1) (L2 := [some (.ref 44), some (gv c3), j4, j5, some (gv c6), some (gv c7), some (gv v8), some (gv (v9 + 1)), some (gv v20), some (gv v21), some (gv v24), some (gv v27), some (gv v28), some (gv v33), some (gv v36)]) (pc2 := 253) rfl ic_1 rfl rfl rfl (
      r_goto (t := 20) rfl (
      ih v8 (v9 + 1) _ _ _ _ _ _ _ _ _ hj4 hj5 rfl rfl rfl rfl rfl rfl rfl))))))))) (fun _ =>
      r_iload (pc2 := 235) rfl rfl rfl (
      jr_g fun h52 => r_ifne (pc2 := 238) (t := 242) rfl h52 rfl (fun _ =>
      r_ic (x := 1) (pc2 := 239) rfl ic_1 rfl (
      r_goto (t := 248) rfl (
      r_istore (L2 := [some (.ref 44), some (gv c3), j4, j5, some (gv c6), some (gv c7), some (gv 1), some (gv v9), some (gv v20), some (gv v21), some (gv v24), some (gv v27), some (gv v28), some (gv v33), some (gv v36)]) (pc2 := 250) rfl rfl rfl (
      r_iinc (kk := 1) (L2 := [some (.ref 44), some (gv c3), j4, j5, some (gv c6), some (gv c7), some (gv 1), some (gv (v9 + 1)), some (gv v20), some (gv v21), some (gv v24), some (gv v27), some (gv v28), some (gv v33), some (gv v36)]) (pc2 := 253) rfl ic_1 rfl rfl rfl (
      r_goto (t := 20) rfl (
      ih 1 (v9 + 1) _ _ _ _ _ _ _ _ _ hj4 hj5 rfl rfl rfl rfl rfl rfl rfl)))))) (fun _ =>
      r_ic (x := 0) (pc2 := 243) rfl ic_0 rfl (
      r_goto (t := 248) rfl (
      r_istore (L2 := [some (.ref 44), some (gv c3), j4, j5, some (gv c6), some (gv c7), some (gv 0), some (gv v9), some (gv v20), some (gv v21), some (gv v24), some (gv v27), some (gv v28), some (gv v33), some (gv v36)]) (pc2 := 250) rfl rfl rfl (
      r_iinc (kk := 1) (L2 := [some (.ref 44), some (gv c3), j4, j5, some (gv c6), some (gv c7), some (gv 0), some (gv (v9 + 1)), some (gv v20), some (gv v21), some (gv v24), some (gv v27), some (gv v28), some (gv v33), some (gv v36)]) (pc2 := 253) rfl ic_1 rfl rfl rfl (
      r_goto (t := 20) rfl (
      ih 0 (v9 + 1) _ _ _ _ _ _ _ _ _ hj4 hj5 rfl rfl rfl rfl rfl rfl rfl)))))))))))))))))))))) (fun _ =>
      r_iload (pc2 := 149) rfl rfl rfl (
      r_iload (pc2 := 151) rfl rfl rfl (
      r_iload (pc2 := 153) rfl rfl rfl (
      jr_g fun h55 => r_mmin (pc2 := 156) rfl rfl rfl h55.1 h55.2 (
      r_iload (pc2 := 158) rfl rfl rfl (
      r_iload (pc2 := 160) rfl rfl rfl (
      r_mmax (pc2 := 163) rfl rfl rfl h55.1 h55.2 (
      r_callSP (pc2 := 166) (args := [gv c7, gv (zmin v21 v27), gv (zmax v21 v27)]) (st2 := []) rfl rfl rfl rfl rfl rfl (rf_md_in hs d g c7 (zmin v21 v27) (zmax v21 v27) ) fun v56 => (
      jr_g fun h57 => r_ifeq (pc2 := 169) (t := 171) rfl h57 rfl (fun _ =>
      r_iload (pc2 := 173) rfl rfl rfl (
      r_iload (pc2 := 175) rfl rfl rfl (
      r_b1 (R1 := (fun (q : Int) (c : Option jm_R) => c = jm_sup cd_194 (jm_cl jm_CD km_n (d + 1)) (190, [some (.ref 44), some (gv c3), j4, j5, some (gv c6), some (gv c7), some (gv v8), some (gv v9), some (gv v20), some (gv v21), some (gv v24), some (gv v27), some (gv v28), j15, j16], [gv q], gm_h s g))) (
      jr_g fun h59 => r_cgt (pc2 := 178) (t := 189) rfl h55.1 h59 rfl (fun _ =>
      r_iload (pc2 := 180) rfl rfl rfl (
      r_iload (pc2 := 182) rfl rfl rfl (
      r_cle (pc2 := 185) (t := 189) rfl h55.2 h59 rfl (fun _ =>
      r_ic (x := 0) (pc2 := 190) rfl ic_0 rfl (
      jr_leaf rfl)) (fun _ =>
      r_ic (x := 1) (pc2 := 186) rfl ic_1 rfl (
      r_goto (t := 190) rfl (
      jr_leaf rfl)))))) (fun _ =>
      r_ic (x := 0) (pc2 := 190) rfl ic_0 rfl (
      jr_leaf rfl))) (fun v58 c h => match c, h with | _, rfl => (
      r_istore (L2 := [some (.ref 44), some (gv c3), j4, j5, some (gv c6), some (gv c7), some (gv v8), some (gv v9), some (gv v20), some (gv v21), some (gv v24), some (gv v27), some (gv v28), some (gv v58), j16]) (pc2 := 192) rfl rfl rfl (
      r_iload (pc2 := 194) rfl rfl rfl (
      r_iload (pc2 := 196) rfl rfl rfl (
      r_b1 (R1 := (fun (q : Int) (c : Option jm_R) => c = jm_sup cd_194 (jm_cl jm_CD km_n (d + 1)) (211, [some (.ref 44), some (gv c3), j4, j5, some (gv c6), some (gv c7), some (gv v8), some (gv v9), some (gv v20), some (gv v21), some (gv v24), some (gv v27), some (gv v28), some (gv v58), j16], [gv q], gm_h s g))) (
      jr_g fun h61 => r_cgt (pc2 := 199) (t := 210) rfl h55.2 h61 rfl (fun _ =>
      r_iload (pc2 := 201) rfl rfl rfl (
      r_iload (pc2 := 203) rfl rfl rfl (
      r_cle (pc2 := 206) (t := 210) rfl h55.1 h61 rfl (fun _ =>
      r_ic (x := 0) (pc2 := 211) rfl ic_0 rfl (
      jr_leaf rfl)) (fun _ =>
      r_ic (x := 1) (pc2 := 207) rfl ic_1 rfl (
      r_goto (t := 211) rfl (
      jr_leaf rfl)))))) (fun _ =>
      r_ic (x := 0) (pc2 := 211) rfl ic_0 rfl (
      jr_leaf rfl))) (fun v60 c h => match c, h with | _, rfl => (
      r_istore (L2 := [some (.ref 44), some (gv c3), j4, j5, some (gv c6), some (gv c7), some (gv v8), some (gv v9), some (gv v20), some (gv v21), some (gv v24), some (gv v27), some (gv v28), some (gv v58), some (gv v60)]) (pc2 := 213) rfl rfl rfl (
      r_iload (pc2 := 215) rfl rfl rfl (
      jr_g fun h62 => r_ifeq (pc2 := 218) (t := 223) rfl h62 rfl (fun _ =>
      r_iload (pc2 := 225) rfl rfl rfl (
      jr_g fun h63 => r_ifeq (pc2 := 228) (t := 246) rfl h63 rfl (fun _ =>
      r_iload (pc2 := 248) rfl rfl rfl (
      r_istore (L2 := [some (.ref 44), some (gv c3), j4, j5, some (gv c6), some (gv c7), some (gv v8), some (gv v9), some (gv v20), some (gv v21), some (gv v24), some (gv v27), some (gv v28), some (gv v58), some (gv v60)]) (pc2 := 250) rfl rfl rfl (
      r_iinc (kk := 1) (L2 := [some (.ref 44), some (gv c3), j4, j5, some (gv c6), some (gv c7), some (gv v8), some (gv (v9 + 1)), some (gv v20), some (gv v21), some (gv v24), some (gv v27), some (gv v28), some (gv v58), some (gv v60)]) (pc2 := 253) rfl ic_1 rfl rfl rfl (
      r_goto (t := 20) rfl (
      ih v8 (v9 + 1) _ _ _ _ _ _ _ _ _ hj4 hj5 rfl rfl rfl rfl rfl rfl rfl))))) (fun _ =>
      r_iload (pc2 := 230) rfl rfl rfl (
      r_ifge (pc2 := 233) (t := 246) rfl h29 rfl (fun _ =>
      r_iload (pc2 := 235) rfl rfl rfl (
      jr_g fun h65 => r_ifne (pc2 := 238) (t := 242) rfl h65 rfl (fun _ =>
      r_ic (x := 1) (pc2 := 239) rfl ic_1 rfl (
      r_goto (t := 248) rfl (
      r_istore (L2 := [some (.ref 44), some (gv c3), j4, j5, some (gv c6), some (gv c7), some (gv 1), some (gv v9), some (gv v20), some (gv v21), some (gv v24), some (gv v27), some (gv v28), some (gv v58), some (gv v60)]) (pc2 := 250) rfl rfl rfl (
      r_iinc (kk := 1) (L2 := [some (.ref 44), some (gv c3), j4, j5, some (gv c6), some (gv c7), some (gv 1), some (gv (v9 + 1)), some (gv v20), some (gv v21), some (gv v24), some (gv v27), some (gv v28), some (gv v58), some (gv v60)]) (pc2 := 253) rfl ic_1 rfl rfl rfl (
      r_goto (t := 20) rfl (
      ih 1 (v9 + 1) _ _ _ _ _ _ _ _ _ hj4 hj5 rfl rfl rfl rfl rfl rfl rfl)))))) (fun _ =>
      r_ic (x := 0) (pc2 := 243) rfl ic_0 rfl (
      r_goto (t := 248) rfl (
      r_istore (L2 := [some (.ref 44), some (gv c3), j4, j5, some (gv c6), some (gv c7), some (gv 0), some (gv v9), some (gv v20), some (gv v21), some (gv v24), some (gv v27), some (gv v28), some (gv v58), some (gv v60)]) (pc2 := 250) rfl rfl rfl (
      r_iinc (kk := 1) (L2 := [some (.ref 44), some (gv c3), j4, j5, some (gv c6), some (gv c7), some (gv 0), some (gv (v9 + 1)), some (gv v20), some (gv v21), some (gv v24), some (gv v27), some (gv v28), some (gv v58), some (gv v60)]) (pc2 := 253) rfl ic_1 rfl rfl rfl (
      r_goto (t := 20) rfl (
      ih 0 (v9 + 1) _ _ _ _ _ _ _ _ _ hj4 hj5 rfl rfl rfl rfl rfl rfl rfl)))))))) (fun _ =>
      r_iload (pc2 := 248) rfl rfl rfl (
      r_istore (L2 := [some (.ref 44), some (gv c3), j4, j5, some (gv c6), some (gv c7), some (gv v8), some (gv v9), some (gv v20), some (gv v21), some (gv v24), some (gv v27), some (gv v28), some (gv v58), some (gv v60)]) (pc2 := 250) rfl rfl rfl (
      r_iinc (kk := 1) (L2 := [some (.ref 44), some (gv c3), j4, j5, some (gv c6), some (gv c7), some (gv v8), some (gv (v9 + 1)), some (gv v20), some (gv v21), some (gv v24), some (gv v27), some (gv v28), some (gv v58), some (gv v60)]) (pc2 := 253) rfl ic_1 rfl rfl rfl (
      r_goto (t := 20) rfl (
      ih v8 (v9 + 1) _ _ _ _ _ _ _ _ _ hj4 hj5 rfl rfl rfl rfl rfl rfl rfl))))))))) (fun _ =>
      r_iload (pc2 := 220) rfl rfl rfl (
      r_ifgt (pc2 := 223) (t := 233) rfl h29 rfl (fun _ =>
      r_iload (pc2 := 225) rfl rfl rfl (
      jr_g fun h69 => r_ifeq (pc2 := 228) (t := 246) rfl h69 rfl (fun _ =>
      r_iload (pc2 := 248) rfl rfl rfl (
      r_istore (L2 := [some (.ref 44), some (gv c3), j4, j5, some (gv c6), some (gv c7), some (gv v8), some (gv v9), some (gv v20), some (gv v21), some (gv v24), some (gv v27), some (gv v28), some (gv v58), some (gv v60)]) (pc2 := 250) rfl rfl rfl (
      r_iinc (kk := 1) (L2 := [some (.ref 44), some (gv c3), j4, j5, some (gv c6), some (gv c7), some (gv v8), some (gv (v9 + 1)), some (gv v20), some (gv v21), some (gv v24), some (gv v27), some (gv v28), some (gv v58), some (gv v60)]) (pc2 := 253) rfl ic_1 rfl rfl rfl (
      r_goto (t := 20) rfl (
      ih v8 (v9 + 1) _ _ _ _ _ _ _ _ _ hj4 hj5 rfl rfl rfl rfl rfl rfl rfl))))) (fun _ =>
      r_iload (pc2 := 230) rfl rfl rfl (
      r_ifge (pc2 := 233) (t := 246) rfl h29 rfl (fun _ =>
      r_iload (pc2 := 235) rfl rfl rfl (
      jr_g fun h71 => r_ifne (pc2 := 238) (t := 242) rfl h71 rfl (fun _ =>
      r_ic (x := 1) (pc2 := 239) rfl ic_1 rfl (
      r_goto (t := 248) rfl (
      r_istore (L2 := [some (.ref 44), some (gv c3), j4, j5, some (gv c6), some (gv c7), some (gv 1), some (gv v9), some (gv v20), some (gv v21), some (gv v24), some (gv v27), some (gv v28), some (gv v58), some (gv v60)]) (pc2 := 250) rfl rfl rfl (
      r_iinc (kk := 1) (L2 := [some (.ref 44), some (gv c3), j4, j5, some (gv c6), some (gv c7), some (gv 1), some (gv (v9 + 1)), some (gv v20), some (gv v21), some (gv v24), some (gv v27), some (gv v28), some (gv v58), some (gv v60)]) (pc2 := 253) rfl ic_1 rfl rfl rfl (
      r_goto (t := 20) rfl (
      ih 1 (v9 + 1) _ _ _ _ _ _ _ _ _ hj4 hj5 rfl rfl rfl rfl rfl rfl rfl)))))) (fun _ =>
      r_ic (x := 0) (pc2 := 243) rfl ic_0 rfl (
      r_goto (t := 248) rfl (
      r_istore (L2 := [some (.ref 44), some (gv c3), j4, j5, some (gv c6), some (gv c7), some (gv 0), some (gv v9), some (gv v20), some (gv v21), some (gv v24), some (gv v27), some (gv v28), some (gv v58), some (gv v60)]) (pc2 := 250) rfl rfl rfl (
      r_iinc (kk := 1) (L2 := [some (.ref 44), some (gv c3), j4, j5, some (gv c6), some (gv c7), some (gv 0), some (gv (v9 + 1)), some (gv v20), some (gv v21), some (gv v24), some (gv v27), some (gv v28), some (gv v58), some (gv v60)]) (pc2 := 253) rfl ic_1 rfl rfl rfl (
      r_goto (t := 20) rfl (
      ih 0 (v9 + 1) _ _ _ _ _ _ _ _ _ hj4 hj5 rfl rfl rfl rfl rfl rfl rfl)))))))) (fun _ =>
      r_iload (pc2 := 248) rfl rfl rfl (
      r_istore (L2 := [some (.ref 44), some (gv c3), j4, j5, some (gv c6), some (gv c7), some (gv v8), some (gv v9), some (gv v20), some (gv v21), some (gv v24), some (gv v27), some (gv v28), some (gv v58), some (gv v60)]) (pc2 := 250) rfl rfl rfl (
      r_iinc (kk := 1) (L2 := [some (.ref 44), some (gv c3), j4, j5, some (gv c6), some (gv c7), some (gv v8), some (gv (v9 + 1)), some (gv v20), some (gv v21), some (gv v24), some (gv v27), some (gv v28), some (gv v58), some (gv v60)]) (pc2 := 253) rfl ic_1 rfl rfl rfl (
      r_goto (t := 20) rfl (
      ih v8 (v9 + 1) _ _ _ _ _ _ _ _ _ hj4 hj5 rfl rfl rfl rfl rfl rfl rfl))))))))) (fun _ =>
      r_iload (pc2 := 235) rfl rfl rfl (
      jr_g fun h75 => r_ifne (pc2 := 238) (t := 242) rfl h75 rfl (fun _ =>
      r_ic (x := 1) (pc2 := 239) rfl ic_1 rfl (
      r_goto (t := 248) rfl (
      r_istore (L2 := [some (.ref 44), some (gv c3), j4, j5, some (gv c6), some (gv c7), some (gv 1), some (gv v9), some (gv v20), some (gv v21), some (gv v24), some (gv v27), some (gv v28), some (gv v58), some (gv v60)]) (pc2 := 250) rfl rfl rfl (
      r_iinc (kk := 1) (L2 := [some (.ref 44), some (gv c3), j4, j5, some (gv c6), some (gv c7), some (gv 1), some (gv (v9 + 1)), some (gv v20), some (gv v21), some (gv v24), some (gv v27), some (gv v28), some (gv v58), some (gv v60)]) (pc2 := 253) rfl ic_1 rfl rfl rfl (
      r_goto (t := 20) rfl (
      ih 1 (v9 + 1) _ _ _ _ _ _ _ _ _ hj4 hj5 rfl rfl rfl rfl rfl rfl rfl)))))) (fun _ =>
      r_ic (x := 0) (pc2 := 243) rfl ic_0 rfl (
      r_goto (t := 248) rfl (
      r_istore (L2 := [some (.ref 44), some (gv c3), j4, j5, some (gv c6), some (gv c7), some (gv 0), some (gv v9), some (gv v20), some (gv v21), some (gv v24), some (gv v27), some (gv v28), some (gv v58), some (gv v60)]) (pc2 := 250) rfl rfl rfl (
      r_iinc (kk := 1) (L2 := [some (.ref 44), some (gv c3), j4, j5, some (gv c6), some (gv c7), some (gv 0), some (gv (v9 + 1)), some (gv v20), some (gv v21), some (gv v24), some (gv v27), some (gv v28), some (gv v58), some (gv v60)]) (pc2 := 253) rfl ic_1 rfl rfl rfl (
      r_goto (t := 20) rfl (
      ih 0 (v9 + 1) _ _ _ _ _ _ _ _ _ hj4 hj5 rfl rfl rfl rfl rfl rfl rfl)))))))))))))))))))))) (fun _ =>
      r_ic (x := 0) (pc2 := 170) rfl ic_0 rfl (
      r_zret rfl (by decide) rfl)))))))))))))))))))) (fun _ =>
      r_iload (pc2 := 173) rfl rfl rfl (
      r_iload (pc2 := 175) rfl rfl rfl (
      r_b1 (R1 := (fun (q : Int) (c : Option jm_R) => c = jm_sup cd_194 (jm_cl jm_CD km_n (d + 1)) (190, [some (.ref 44), some (gv c3), j4, j5, some (gv c6), some (gv c7), some (gv v8), some (gv v9), some (gv v20), some (gv v21), some (gv v24), some (gv v27), some (gv v28), j15, j16], [gv q], gm_h s g))) (
      jr_g fun h79 => r_cgt (pc2 := 178) (t := 189) rfl h79.1 h79.2 rfl (fun _ =>
      r_iload (pc2 := 180) rfl rfl rfl (
      r_iload (pc2 := 182) rfl rfl rfl (
      jr_g fun h80 => r_cle (pc2 := 185) (t := 189) rfl h80 h79.2 rfl (fun _ =>
      r_ic (x := 0) (pc2 := 190) rfl ic_0 rfl (
      jr_leaf rfl)) (fun _ =>
      r_ic (x := 1) (pc2 := 186) rfl ic_1 rfl (
      r_goto (t := 190) rfl (
      jr_leaf rfl)))))) (fun _ =>
      r_ic (x := 0) (pc2 := 190) rfl ic_0 rfl (
      jr_leaf rfl))) (fun v78 c h => match c, h with | _, rfl => (
      r_istore (L2 := [some (.ref 44), some (gv c3), j4, j5, some (gv c6), some (gv c7), some (gv v8), some (gv v9), some (gv v20), some (gv v21), some (gv v24), some (gv v27), some (gv v28), some (gv v78), j16]) (pc2 := 192) rfl rfl rfl (
      r_iload (pc2 := 194) rfl rfl rfl (
      r_iload (pc2 := 196) rfl rfl rfl (
      r_b1 (R1 := (fun (q : Int) (c : Option jm_R) => c = jm_sup cd_194 (jm_cl jm_CD km_n (d + 1)) (211, [some (.ref 44), some (gv c3), j4, j5, some (gv c6), some (gv c7), some (gv v8), some (gv v9), some (gv v20), some (gv v21), some (gv v24), some (gv v27), some (gv v28), some (gv v78), j16], [gv q], gm_h s g))) (
      jr_g fun h82 => r_cgt (pc2 := 199) (t := 210) rfl h82.1 h82.2 rfl (fun _ =>
      r_iload (pc2 := 201) rfl rfl rfl (
      r_iload (pc2 := 203) rfl rfl rfl (
      jr_g fun h83 => r_cle (pc2 := 206) (t := 210) rfl h83 h82.2 rfl (fun _ =>
      r_ic (x := 0) (pc2 := 211) rfl ic_0 rfl (
      jr_leaf rfl)) (fun _ =>
      r_ic (x := 1) (pc2 := 207) rfl ic_1 rfl (
      r_goto (t := 211) rfl (
      jr_leaf rfl)))))) (fun _ =>
      r_ic (x := 0) (pc2 := 211) rfl ic_0 rfl (
      jr_leaf rfl))) (fun v81 c h => match c, h with | _, rfl => (
      r_istore (L2 := [some (.ref 44), some (gv c3), j4, j5, some (gv c6), some (gv c7), some (gv v8), some (gv v9), some (gv v20), some (gv v21), some (gv v24), some (gv v27), some (gv v28), some (gv v78), some (gv v81)]) (pc2 := 213) rfl rfl rfl (
      r_iload (pc2 := 215) rfl rfl rfl (
      jr_g fun h84 => r_ifeq (pc2 := 218) (t := 223) rfl h84 rfl (fun _ =>
      r_iload (pc2 := 225) rfl rfl rfl (
      jr_g fun h85 => r_ifeq (pc2 := 228) (t := 246) rfl h85 rfl (fun _ =>
      r_iload (pc2 := 248) rfl rfl rfl (
      r_istore (L2 := [some (.ref 44), some (gv c3), j4, j5, some (gv c6), some (gv c7), some (gv v8), some (gv v9), some (gv v20), some (gv v21), some (gv v24), some (gv v27), some (gv v28), some (gv v78), some (gv v81)]) (pc2 := 250) rfl rfl rfl (
      r_iinc (kk := 1) (L2 := [some (.ref 44), some (gv c3), j4, j5, some (gv c6), some (gv c7), some (gv v8), some (gv (v9 + 1)), some (gv v20), some (gv v21), some (gv v24), some (gv v27), some (gv v28), some (gv v78), some (gv v81)]) (pc2 := 253) rfl ic_1 rfl rfl rfl (
      r_goto (t := 20) rfl (
      ih v8 (v9 + 1) _ _ _ _ _ _ _ _ _ hj4 hj5 rfl rfl rfl rfl rfl rfl rfl))))) (fun _ =>
      r_iload (pc2 := 230) rfl rfl rfl (
      r_ifge (pc2 := 233) (t := 246) rfl h29 rfl (fun _ =>
      r_iload (pc2 := 235) rfl rfl rfl (
      jr_g fun h87 => r_ifne (pc2 := 238) (t := 242) rfl h87 rfl (fun _ =>
      r_ic (x := 1) (pc2 := 239) rfl ic_1 rfl (
      r_goto (t := 248) rfl (
      r_istore (L2 := [some (.ref 44), some (gv c3), j4, j5, some (gv c6), some (gv c7), some (gv 1), some (gv v9), some (gv v20), some (gv v21), some (gv v24), some (gv v27), some (gv v28), some (gv v78), some (gv v81)]) (pc2 := 250) rfl rfl rfl (
      r_iinc (kk := 1) (L2 := [some (.ref 44), some (gv c3), j4, j5, some (gv c6), some (gv c7), some (gv 1), some (gv (v9 + 1)), some (gv v20), some (gv v21), some (gv v24), some (gv v27), some (gv v28), some (gv v78), some (gv v81)]) (pc2 := 253) rfl ic_1 rfl rfl rfl (
      r_goto (t := 20) rfl (
      ih 1 (v9 + 1) _ _ _ _ _ _ _ _ _ hj4 hj5 rfl rfl rfl rfl rfl rfl rfl)))))) (fun _ =>
      r_ic (x := 0) (pc2 := 243) rfl ic_0 rfl (
      r_goto (t := 248) rfl (
      r_istore (L2 := [some (.ref 44), some (gv c3), j4, j5, some (gv c6), some (gv c7), some (gv 0), some (gv v9), some (gv v20), some (gv v21), some (gv v24), some (gv v27), some (gv v28), some (gv v78), some (gv v81)]) (pc2 := 250) rfl rfl rfl (
      r_iinc (kk := 1) (L2 := [some (.ref 44), some (gv c3), j4, j5, some (gv c6), some (gv c7), some (gv 0), some (gv (v9 + 1)), some (gv v20), some (gv v21), some (gv v24), some (gv v27), some (gv v28), some (gv v78), some (gv v81)]) (pc2 := 253) rfl ic_1 rfl rfl rfl (
      r_goto (t := 20) rfl (
      ih 0 (v9 + 1) _ _ _ _ _ _ _ _ _ hj4 hj5 rfl rfl rfl rfl rfl rfl rfl)))))))) (fun _ =>
      r_iload (pc2 := 248) rfl rfl rfl (
      r_istore (L2 := [some (.ref 44), some (gv c3), j4, j5, some (gv c6), some (gv c7), some (gv v8), some (gv v9), some (gv v20), some (gv v21), some (gv v24), some (gv v27), some (gv v28), some (gv v78), some (gv v81)]) (pc2 := 250) rfl rfl rfl (
      r_iinc (kk := 1) (L2 := [some (.ref 44), some (gv c3), j4, j5, some (gv c6), some (gv c7), some (gv v8), some (gv (v9 + 1)), some (gv v20), some (gv v21), some (gv v24), some (gv v27), some (gv v28), some (gv v78), some (gv v81)]) (pc2 := 253) rfl ic_1 rfl rfl rfl (
      r_goto (t := 20) rfl (
      ih v8 (v9 + 1) _ _ _ _ _ _ _ _ _ hj4 hj5 rfl rfl rfl rfl rfl rfl rfl))))))))) (fun _ =>
      r_iload (pc2 := 220) rfl rfl rfl (
      r_ifgt (pc2 := 223) (t := 233) rfl h29 rfl (fun _ =>
      r_iload (pc2 := 225) rfl rfl rfl (
      jr_g fun h91 => r_ifeq (pc2 := 228) (t := 246) rfl h91 rfl (fun _ =>
      r_iload (pc2 := 248) rfl rfl rfl (
      r_istore (L2 := [some (.ref 44), some (gv c3), j4, j5, some (gv c6), some (gv c7), some (gv v8), some (gv v9), some (gv v20), some (gv v21), some (gv v24), some (gv v27), some (gv v28), some (gv v78), some (gv v81)]) (pc2 := 250) rfl rfl rfl (
      r_iinc (kk := 1) (L2 := [some (.ref 44), some (gv c3), j4, j5, some (gv c6), some (gv c7), some (gv v8), some (gv (v9 + 1)), some (gv v20), some (gv v21), some (gv v24), some (gv v27), some (gv v28), some (gv v78), some (gv v81)]) (pc2 := 253) rfl ic_1 rfl rfl rfl (
      r_goto (t := 20) rfl (
      ih v8 (v9 + 1) _ _ _ _ _ _ _ _ _ hj4 hj5 rfl rfl rfl rfl rfl rfl rfl))))) (fun _ =>
      r_iload (pc2 := 230) rfl rfl rfl (
      r_ifge (pc2 := 233) (t := 246) rfl h29 rfl (fun _ =>
      r_iload (pc2 := 235) rfl rfl rfl (
      jr_g fun h93 => r_ifne (pc2 := 238) (t := 242) rfl h93 rfl (fun _ =>
      r_ic (x := 1) (pc2 := 239) rfl ic_1 rfl (
      r_goto (t := 248) rfl (
      r_istore (L2 := [some (.ref 44), some (gv c3), j4, j5, some (gv c6), some (gv c7), some (gv 1), some (gv v9), some (gv v20), some (gv v21), some (gv v24), some (gv v27), some (gv v28), some (gv v78), some (gv v81)]) (pc2 := 250) rfl rfl rfl (
      r_iinc (kk := 1) (L2 := [some (.ref 44), some (gv c3), j4, j5, some (gv c6), some (gv c7), some (gv 1), some (gv (v9 + 1)), some (gv v20), some (gv v21), some (gv v24), some (gv v27), some (gv v28), some (gv v78), some (gv v81)]) (pc2 := 253) rfl ic_1 rfl rfl rfl (
      r_goto (t := 20) rfl (
      ih 1 (v9 + 1) _ _ _ _ _ _ _ _ _ hj4 hj5 rfl rfl rfl rfl rfl rfl rfl)))))) (fun _ =>
      r_ic (x := 0) (pc2 := 243) rfl ic_0 rfl (
      r_goto (t := 248) rfl (
      r_istore (L2 := [some (.ref 44), some (gv c3), j4, j5, some (gv c6), some (gv c7), some (gv 0), some (gv v9), some (gv v20), some (gv v21), some (gv v24), some (gv v27), some (gv v28), some (gv v78), some (gv v81)]) (pc2 := 250) rfl rfl rfl (
      r_iinc (kk := 1) (L2 := [some (.ref 44), some (gv c3), j4, j5, some (gv c6), some (gv c7), some (gv 0), some (gv (v9 + 1)), some (gv v20), some (gv v21), some (gv v24), some (gv v27), some (gv v28), some (gv v78), some (gv v81)]) (pc2 := 253) rfl ic_1 rfl rfl rfl (
      r_goto (t := 20) rfl (
      ih 0 (v9 + 1) _ _ _ _ _ _ _ _ _ hj4 hj5 rfl rfl rfl rfl rfl rfl rfl)))))))) (fun _ =>
      r_iload (pc2 := 248) rfl rfl rfl (
      r_istore (L2 := [some (.ref 44), some (gv c3), j4, j5, some (gv c6), some (gv c7), some (gv v8), some (gv v9), some (gv v20), some (gv v21), some (gv v24), some (gv v27), some (gv v28), some (gv v78), some (gv v81)]) (pc2 := 250) rfl rfl rfl (
      r_iinc (kk := 1) (L2 := [some (.ref 44), some (gv c3), j4, j5, some (gv c6), some (gv c7), some (gv v8), some (gv (v9 + 1)), some (gv v20), some (gv v21), some (gv v24), some (gv v27), some (gv v28), some (gv v78), some (gv v81)]) (pc2 := 253) rfl ic_1 rfl rfl rfl (
      r_goto (t := 20) rfl (
      ih v8 (v9 + 1) _ _ _ _ _ _ _ _ _ hj4 hj5 rfl rfl rfl rfl rfl rfl rfl))))))))) (fun _ =>
      r_iload (pc2 := 235) rfl rfl rfl (
      jr_g fun h97 => r_ifne (pc2 := 238) (t := 242) rfl h97 rfl (fun _ =>
      r_ic (x := 1) (pc2 := 239) rfl ic_1 rfl (
      r_goto (t := 248) rfl (
      r_istore (L2 := [some (.ref 44), some (gv c3), j4, j5, some (gv c6), some (gv c7), some (gv 1), some (gv v9), some (gv v20), some (gv v21), some (gv v24), some (gv v27), some (gv v28), some (gv v78), some (gv v81)]) (pc2 := 250) rfl rfl rfl (
      r_iinc (kk := 1) (L2 := [some (.ref 44), some (gv c3), j4, j5, some (gv c6), some (gv c7), some (gv 1), some (gv (v9 + 1)), some (gv v20), some (gv v21), some (gv v24), some (gv v27), some (gv v28), some (gv v78), some (gv v81)]) (pc2 := 253) rfl ic_1 rfl rfl rfl (
      r_goto (t := 20) rfl (
      ih 1 (v9 + 1) _ _ _ _ _ _ _ _ _ hj4 hj5 rfl rfl rfl rfl rfl rfl rfl)))))) (fun _ =>
      r_ic (x := 0) (pc2 := 243) rfl ic_0 rfl (
      r_goto (t := 248) rfl (
      r_istore (L2 := [some (.ref 44), some (gv c3), j4, j5, some (gv c6), some (gv c7), some (gv 0), some (gv v9), some (gv v20), some (gv v21), some (gv v24), some (gv v27), some (gv v28), some (gv v78), some (gv v81)]) (pc2 := 250) rfl rfl rfl (
      r_iinc (kk := 1) (L2 := [some (.ref 44), some (gv c3), j4, j5, some (gv c6), some (gv c7), some (gv 0), some (gv (v9 + 1)), some (gv v20), some (gv v21), some (gv v24), some (gv v27), some (gv v28), some (gv v78), some (gv v81)]) (pc2 := 253) rfl ic_1 rfl rfl rfl (
      r_goto (t := 20) rfl (
      ih 0 (v9 + 1) _ _ _ _ _ _ _ _ _ hj4 hj5 rfl rfl rfl rfl rfl rfl rfl)))))))))))))))))))))))))))))))))))))))))))))))))))))))))))))))))))))))))))))))) (fun _ =>
      r_iload (pc2 := 258) rfl rfl rfl (
      jr_g fun hz => r_zret rfl hz rfl))))))))
theorem rf_md_isWithin {s : gm_S} {n m : Nat} (hs : gm_sh s n m) (d : Nat)  (g : gm_T) (a1 : Int) (a2 : Int) (a3 : Int)  : jr (pI s g) (md_isWithin g a1 a2 a3) (jm_cl jm_CD km_n (d + 2) 194 [.ref 44, gv a1, gv a2, gv a3] (gm_h s g)) := by
  unfold md_isWithin
  exact (r_ent (cd := cd_194) (n := 15) (L0 := [some (.ref 44), some (gv a1), some (gv a2), some (gv a3), none, none, none, none, none, none, none, none, none, none, none]) rfl rfl rfl rfl (
      r_ic (x := 2) (pc2 := 1) rfl ic_2 rfl (
      r_iload (pc2 := 2) rfl rfl rfl (
      r_imul (pc2 := 3) rfl rfl (
      r_ic (x := 1) (pc2 := 4) rfl ic_1 rfl (
      r_iadd (pc2 := 5) rfl rfl (
      r_istoreL (L3 := fun v1 => [some (.ref 44), some (gv a1), some (gv a2), some (gv a3), some (gv v1), none, none, none, none, none, none, none, none, none, none]) (pc2 := 7) rfl rfl (fun _ => rfl) fun v1 => (
      r_ic (x := 2) (pc2 := 8) rfl ic_2 rfl (
      r_iload (pc2 := 9) rfl rfl rfl (
      r_imul (pc2 := 10) rfl rfl (
      r_ic (x := 1) (pc2 := 11) rfl ic_1 rfl (
      r_iadd (pc2 := 12) rfl rfl (
      r_istoreL (L3 := fun v2 => [some (.ref 44), some (gv a1), some (gv a2), some (gv a3), some (gv v1), some (gv v2), none, none, none, none, none, none, none, none, none]) (pc2 := 14) rfl rfl (fun _ => rfl) fun v2 => (
      r_ic (x := 0) (pc2 := 15) rfl ic_0 rfl (
      r_istore (L2 := [some (.ref 44), some (gv a1), some (gv a2), some (gv a3), some (gv v1), some (gv v2), some (gv 0), none, none, none, none, none, none, none, none]) (pc2 := 17) rfl rfl rfl (
      r_ic (x := 0) (pc2 := 18) rfl ic_0 rfl (
      r_istore (L2 := [some (.ref 44), some (gv a1), some (gv a2), some (gv a3), some (gv v1), some (gv v2), some (gv 0), some (gv 0), none, none, none, none, none, none, none]) (pc2 := 20) rfl rfl rfl (
      rl_md_isWithin_l20 hs d  g a1 v1 v2  fz 0 0 _ _ _ _ _ _ _ _ _ rfl rfl rfl rfl rfl rfl rfl rfl rfl))))))))))))))))))
theorem rf_md_isGrid {s : gm_S} {n m : Nat} (hs : gm_sh s n m) (d : Nat)  (g : gm_T) (a0 : Int) (a1 : Int)  : jr (pI s g) (md_isGrid g a0 a1) (jm_cl jm_CD km_n (d + 2) 195 [gv a0, gv a1] (gm_h s g)) := by
  unfold md_isGrid
  exact (r_ent (cd := cd_195) (n := 2) (L0 := [some (gv a0), some (gv a1)]) rfl rfl rfl rfl (
      r_iload (pc2 := 1) rfl rfl rfl (
      r_ic (x := -20) (pc2 := 3) rfl ic_m20 rfl (
      r_ic (x := 19) (pc2 := 5) rfl ic_19 rfl (
      r_callSP (pc2 := 8) (args := [gv a0, gv (-20), gv 19]) (st2 := []) rfl rfl rfl rfl rfl rfl (rf_md_in hs d g a0 (-20) 19 ) fun v1 => (
      jr_g fun h2 => r_ifeq (pc2 := 11) (t := 26) rfl h2 rfl (fun _ =>
      r_ic (x := 0) (pc2 := 27) rfl ic_0 rfl (
      r_zret rfl (by decide) rfl)) (fun _ =>
      r_iload (pc2 := 12) rfl rfl rfl (
      r_ic (x := -20) (pc2 := 14) rfl ic_m20 rfl (
      r_ic (x := 19) (pc2 := 16) rfl ic_19 rfl (
      r_callSP (pc2 := 19) (args := [gv a1, gv (-20), gv 19]) (st2 := []) rfl rfl rfl rfl rfl rfl (rf_md_in hs d g a1 (-20) 19 ) fun v3 => (
      jr_g fun h4 => r_ifeq (pc2 := 22) (t := 26) rfl h4 rfl (fun _ =>
      r_ic (x := 0) (pc2 := 27) rfl ic_0 rfl (
      r_zret rfl (by decide) rfl)) (fun _ =>
      r_ic (x := 1) (pc2 := 23) rfl ic_1 rfl (
      r_goto (t := 27) rfl (
      r_zret rfl (by decide) rfl))))))))))))))
theorem rf_md_gridOf {s : gm_S} {n m : Nat} (hs : gm_sh s n m) (d : Nat)  (g : gm_T) (a0 : Int) (a1 : Int) (a2 : Int)  : jr (pI s g) (md_gridOf g a0 a1 a2) (jm_cl jm_CD km_n (d + 1) 196 [gv a0, gv a1, gv a2] (gm_h s g)) := by
  unfold md_gridOf
  exact (r_ent (cd := cd_196) (n := 3) (L0 := [some (gv a0), some (gv a1), some (gv a2)]) rfl rfl rfl rfl (
      r_ic (x := 1600) (pc2 := 3) rfl ic_1600 rfl (
      r_iload (pc2 := 4) rfl rfl rfl (
      r_imul (pc2 := 5) rfl rfl (
      r_ic (x := 40) (pc2 := 7) rfl ic_40 rfl (
      r_iload (pc2 := 8) rfl rfl rfl (
      r_ic (x := 20) (pc2 := 10) rfl ic_20 rfl (
      r_iadd (pc2 := 11) rfl rfl (
      r_imul (pc2 := 12) rfl rfl (
      r_iadd (pc2 := 13) rfl rfl (
      r_iload (pc2 := 14) rfl rfl rfl (
      r_iadd (pc2 := 15) rfl rfl (
      r_ic (x := 20) (pc2 := 17) rfl ic_20 rfl (
      r_iadd (pc2 := 18) rfl rfl (
      r_iret rfl rfl)))))))))))))))
theorem rf_md_hasCell {s : gm_S} {n m : Nat} (hs : gm_sh s n m) (d : Nat)  (g : gm_T) (a1 : Int) (a2 : Int) (a3 : Int)  : jr (pI s g) (md_hasCell g a1 a2 a3) (jm_cl jm_CD km_n (d + 3) 197 [.ref 44, gv a1, gv a2, gv a3] (gm_h s g)) := by
  unfold md_hasCell
  exact (r_ent (cd := cd_197) (n := 4) (L0 := [some (.ref 44), some (gv a1), some (gv a2), some (gv a3)]) rfl rfl rfl rfl (
      r_iload (pc2 := 1) rfl rfl rfl (
      r_iload (pc2 := 2) rfl rfl rfl (
      r_callSP (pc2 := 5) (args := [gv a2, gv a3]) (st2 := []) rfl rfl rfl rfl rfl rfl (rf_md_isGrid hs d g a2 a3 ) fun v1 => (
      jr_g fun h2 => r_ifeq (pc2 := 8) (t := 26) rfl h2 rfl (fun _ =>
      r_ic (x := 0) (pc2 := 27) rfl ic_0 rfl (
      r_zret rfl (by decide) rfl)) (fun _ =>
      r_aload (pc2 := 9) rfl rfl rfl (
      r_getA (pc2 := 12) rfl rfl (sh_T hs rfl rfl) (sh_A hs rfl rfl) (
      r_iload (pc2 := 13) rfl rfl rfl (
      r_iload (pc2 := 14) rfl rfl rfl (
      r_iload (pc2 := 15) rfl rfl rfl (
      r_callSP (pc2 := 18) (args := [gv a1, gv a2, gv a3]) (st2 := [.ref 61]) rfl rfl rfl rfl rfl rfl (rf_md_gridOf hs (d + 1) g a1 a2 a3 ) fun v3 => (
      jr_g fun h4 => r_iald (len := 48000) (pc2 := 19) rfl rfl (sh_T hs rfl rfl) (sh_L hs rfl rfl) rfl h4 (
      jr_g fun h5 => r_ifeq (pc2 := 22) (t := 26) rfl h5 rfl (fun _ =>
      r_ic (x := 0) (pc2 := 27) rfl ic_0 rfl (
      r_zret rfl (by decide) rfl)) (fun _ =>
      r_ic (x := 1) (pc2 := 23) rfl ic_1 rfl (
      r_goto (t := 27) rfl (
      r_zret rfl (by decide) rfl))))))))))))))))
theorem rl_md_lays_l19 {s : gm_S} {n m : Nat} (hs : gm_sh s n m) (d : Nat)  (c13 : Int) (c14 : Int)  : ∀ (fuel : Nat) (v15 : Int) (g17 : gm_T) (j16 : Option Value) (hj16 : jm_lg j16 = false), jr (fun (q : gm_T) (c : Option jm_R) => ∃ (j18 : Option Value) (j19 : Option Value), jm_lg j18 = false ∧ jm_lg j19 = false ∧ c = jm_sup cd_198 (jm_cl jm_CD km_n (d + 2)) (104, [some (.ref 44), some (gv c13), some (gv c14), j18, j19], [], gm_h s q)) (md_lays_l19  c13 c14 fuel v15 g17) (jm_sup cd_198 (jm_cl jm_CD km_n (d + 2)) (19, [some (.ref 44), some (gv c13), some (gv c14), some (gv v15), j16], [], gm_h s g17)) := by
  intro fuel
  induction fuel with
  | zero => intros; exact jr_none
  | succ fuel ih =>
    intro v15 g17 j16 hj16
    unfold md_lays_l19
    exact (
      r_iload (pc2 := 20) rfl rfl rfl (
      r_ic (x := 20) (pc2 := 22) rfl ic_20 rfl (
      jr_g fun h21 => r_cge (pc2 := 25) (t := 104) rfl h21 (rgk rfl) rfl (fun _ =>
      r_aload (pc2 := 26) rfl rfl rfl (
      r_iload (pc2 := 27) rfl rfl rfl (
      r_iload (pc2 := 28) rfl rfl rfl (
      r_iload (pc2 := 29) rfl rfl rfl (
      r_callVP (pc2 := 32) (args := [.ref 44, gv c13, gv v15, gv c14]) (st2 := []) rfl rfl rfl rfl rfl rfl (rc_of (sh_T hs rfl rfl)) (rf_md_isWithin hs d g17 c13 v15 c14 ) fun v22 => (
      r_istore (L2 := [some (.ref 44), some (gv c13), some (gv c14), some (gv v15), some (gv v22)]) (pc2 := 34) rfl rfl rfl (
      r_aload (pc2 := 35) rfl rfl rfl (
      r_getA (pc2 := 38) rfl rfl (sh_T hs rfl rfl) (sh_A hs rfl rfl) (
      r_iload (pc2 := 39) rfl rfl rfl (
      r_iload (pc2 := 40) rfl rfl rfl (
      r_iload (pc2 := 41) rfl rfl rfl (
      r_callSP (pc2 := 44) (args := [gv c13, gv v15, gv c14]) (st2 := [.ref 61]) rfl rfl rfl rfl rfl rfl (rf_md_gridOf hs (d + 1) g17 c13 v15 c14 ) fun v23 => (
      r_iload (pc2 := 46) rfl rfl rfl (
      jr_g fun h25 => jr_g fun hz => r_zast (len := 48000) (pc2 := 47) rfl rfl (sh_T hs rfl rfl) (sh_L hs rfl rfl) rfl h25 hz fun g24 => (
      r_iload (pc2 := 49) rfl rfl rfl (
      jr_g fun h26 => r_ifeq (pc2 := 52) (t := 98) rfl h26 rfl (fun _ =>
      r_iinc (kk := 1) (L2 := [some (.ref 44), some (gv c13), some (gv c14), some (gv (v15 + 1)), some (gv v22)]) (pc2 := 101) rfl ic_1 rfl rfl rfl (
      r_goto (t := 19) rfl (
      ih (v15 + 1) g24 _ rfl))) (fun _ =>
      r_aload (pc2 := 53) rfl rfl rfl (
      r_getA (pc2 := 56) rfl rfl (sh_T hs rfl rfl) (sh_A hs rfl rfl) (
      r_ic (x := 1600) (pc2 := 59) rfl ic_1600 rfl (
      r_iload (pc2 := 60) rfl rfl rfl (
      r_imul (pc2 := 61) rfl rfl (
      r_aload (pc2 := 62) rfl rfl rfl (
      r_getA (pc2 := 65) rfl rfl (sh_T hs rfl rfl) (sh_A hs rfl rfl) (
      r_iload (pc2 := 66) rfl rfl rfl (
      jr_g fun h28 => r_iald (len := 30) (pc2 := 67) rfl rfl (sh_T hs rfl rfl) (sh_L hs rfl rfl) rfl h28 (
      r_iadd (pc2 := 68) rfl rfl (
      r_iload (pc2 := 69) rfl rfl rfl (
      jr_g fun h30 => r_iast (len := 48000) (pc2 := 70) rfl rfl (sh_T hs rfl rfl) (sh_L hs rfl rfl) rfl h30 fun g29 => (
      r_aload (pc2 := 71) rfl rfl rfl (
      r_getA (pc2 := 74) rfl rfl (sh_T hs rfl rfl) (sh_A hs rfl rfl) (
      r_ic (x := 1600) (pc2 := 77) rfl ic_1600 rfl (
      r_iload (pc2 := 78) rfl rfl rfl (
      r_imul (pc2 := 79) rfl rfl (
      r_aload (pc2 := 80) rfl rfl rfl (
      r_getA (pc2 := 83) rfl rfl (sh_T hs rfl rfl) (sh_A hs rfl rfl) (
      r_iload (pc2 := 84) rfl rfl rfl (
      r_iald (len := 30) (pc2 := 85) rfl rfl (sh_T hs rfl rfl) (sh_L hs rfl rfl) rfl h28 (
      r_iadd (pc2 := 86) rfl rfl (
      r_iload (pc2 := 87) rfl rfl rfl (
      jr_g fun h32 => r_iast (len := 48000) (pc2 := 88) rfl rfl (sh_T hs rfl rfl) (sh_L hs rfl rfl) rfl h32 fun g31 => (
      r_aload (pc2 := 89) rfl rfl rfl (
      r_getA (pc2 := 92) rfl rfl (sh_T hs rfl rfl) (sh_A hs rfl rfl) (
      r_iload (pc2 := 93) rfl rfl rfl (
      r_dup2 (pc2 := 94) rfl rfl ⟨rfl, rfl⟩ (
      r_iald (len := 30) (pc2 := 95) rfl rfl (sh_T hs rfl rfl) (sh_L hs rfl rfl) rfl h28 (
      r_ic (x := 1) (pc2 := 96) rfl ic_1 rfl (
      r_iadd (pc2 := 97) rfl rfl (
      r_iast (len := 30) (pc2 := 98) rfl rfl (sh_T hs rfl rfl) (sh_L hs rfl rfl) rfl h28 fun g33 => (
      r_iinc (kk := 1) (L2 := [some (.ref 44), some (gv c13), some (gv c14), some (gv (v15 + 1)), some (gv v22)]) (pc2 := 101) rfl ic_1 rfl rfl rfl (
      r_goto (t := 19) rfl (
      ih (v15 + 1) g33 _ rfl))))))))))))))))))))))))))))))))))))))))))))))))))) (fun _ =>
      jr_leaf ⟨_, _, rfl, hj16, rfl⟩))))
theorem rl_md_lays_l10 {s : gm_S} {n m : Nat} (hs : gm_sh s n m) (d : Nat)  (c3 : Int)  : ∀ (fuel : Nat) (v4 : Int) (g7 : gm_T) (j5 : Option Value) (j6 : Option Value) (hj5 : jm_lg j5 = false) (hj6 : jm_lg j6 = false), jr (fun (q : gm_T) (c : Option jm_R) => ∃ (j8 : Option Value) (j9 : Option Value) (j10 : Option Value), jm_lg j8 = false ∧ jm_lg j9 = false ∧ jm_lg j10 = false ∧ c = jm_sup cd_198 (jm_cl jm_CD km_n (d + 2)) (110, [some (.ref 44), some (gv c3), j8, j9, j10], [], gm_h s q)) (md_lays_l10  c3 fuel v4 g7) (jm_sup cd_198 (jm_cl jm_CD km_n (d + 2)) (10, [some (.ref 44), some (gv c3), some (gv v4), j5, j6], [], gm_h s g7)) := by
  intro fuel
  induction fuel with
  | zero => intros; exact jr_none
  | succ fuel ih =>
    intro v4 g7 j5 j6 hj5 hj6
    unfold md_lays_l10
    exact (
      r_iload (pc2 := 11) rfl rfl rfl (
      r_ic (x := 20) (pc2 := 13) rfl ic_20 rfl (
      jr_g fun h12 => r_cge (pc2 := 16) (t := 110) rfl h12 (rgk rfl) rfl (fun _ =>
      r_ic (x := -20) (pc2 := 18) rfl ic_m20 rfl (
      r_istore (L2 := [some (.ref 44), some (gv c3), some (gv v4), some (gv (-20)), j6]) (pc2 := 19) rfl rfl rfl (
      r_b1 (rl_md_lays_l19 hs d   c3 v4  fz (-20) g7 _ hj6) (fun g37 c h => match c, h with | _, ⟨j35, j36, hj35, hj36, rfl⟩ => (
      r_iinc (kk := 1) (L2 := [some (.ref 44), some (gv c3), some (gv (v4 + 1)), j35, j36]) (pc2 := 107) rfl ic_1 rfl rfl rfl (
      r_goto (t := 10) rfl (
      ih (v4 + 1) g37 _ _ hj35 hj36))))))) (fun _ =>
      jr_leaf ⟨_, _, _, rfl, hj5, hj6, rfl⟩))))
theorem rf_md_lays {s : gm_S} {n m : Nat} (hs : gm_sh s n m) (d : Nat)  (g : gm_T) (a1 : Int)  : jr (eV s) (md_lays g a1) (jm_cl jm_CD km_n (d + 3) 198 [.ref 44, gv a1] (gm_h s g)) := by
  unfold md_lays
  exact (r_ent (cd := cd_198) (n := 5) (L0 := [some (.ref 44), some (gv a1), none, none, none]) rfl rfl rfl rfl (
      r_aload (pc2 := 1) rfl rfl rfl (
      r_getA (pc2 := 4) rfl rfl (sh_T hs rfl rfl) (sh_A hs rfl rfl) (
      r_iload (pc2 := 5) rfl rfl rfl (
      r_ic (x := 0) (pc2 := 6) rfl ic_0 rfl (
      jr_g fun h2 => r_iast (len := 30) (pc2 := 7) rfl rfl (sh_T hs rfl rfl) (sh_L hs rfl rfl) rfl h2 fun g1 => (
      r_ic (x := -20) (pc2 := 9) rfl ic_m20 rfl (
      r_istore (L2 := [some (.ref 44), some (gv a1), some (gv (-20)), none, none]) (pc2 := 10) rfl rfl rfl (
      r_b1 (rl_md_lays_l10 hs d   a1  fz (-20) g1 _ _ rfl rfl) (fun g42 c h => match c, h with | _, ⟨j39, j40, j41, hj39, hj40, hj41, rfl⟩ => (
      r_aload (pc2 := 111) rfl rfl rfl (
      r_getA (pc2 := 114) rfl rfl (sh_T hs rfl rfl) (sh_A hs rfl rfl) (
      r_iload (pc2 := 115) rfl rfl rfl (
      r_aload (pc2 := 116) rfl rfl rfl (
      r_iload (pc2 := 117) rfl rfl rfl (
      r_callVP (pc2 := 120) (args := [.ref 44, gv a1]) (st2 := [gv a1, .ref 58]) rfl rfl rfl rfl rfl rfl (rc_of (sh_T hs rfl rfl)) (rf_md_areaOf hs d g42 a1 ) fun v43 => (
      r_iast (len := 30) (pc2 := 121) rfl rfl (sh_T hs rfl rfl) (sh_L hs rfl rfl) rfl h2 fun g44 => (
      r_vret rfl rfl))))))))))))))))))
theorem rl_md_areSpots_l25 {s : gm_S} {n m : Nat} (hs : gm_sh s n m) (d : Nat)  (g : gm_T) (c9 : Int) (c10 : Int)  : ∀ (fuel : Nat) (v11 : Int) (v12 : Int), jr (fun (q : Int) (c : Option jm_R) => ∃ (j14 : Option Value), jm_lg j14 = false ∧ c = jm_sup cd_199 (jm_cl jm_CD km_n (d + 3)) (79, [some (.ref 44), some (gv c9), some (gv c10), some (gv q), j14], [], gm_h s g)) (md_areSpots_l25 g c9 c10 fuel v11 v12) (jm_sup cd_199 (jm_cl jm_CD km_n (d + 3)) (25, [some (.ref 44), some (gv c9), some (gv c10), some (gv v11), some (gv v12)], [], gm_h s g)) := by
  intro fuel
  induction fuel with
  | zero => intros; exact jr_none
  | succ fuel ih =>
    intro v11 v12  
    unfold md_areSpots_l25
    exact (
      r_iload (pc2 := 27) rfl rfl rfl (
      r_iload (pc2 := 28) rfl rfl rfl (
      jr_g fun h15 => r_cge (pc2 := 31) (t := 79) rfl h15.1 h15.2 rfl (fun _ =>
      r_iload (pc2 := 32) rfl rfl rfl (
      jr_g fun h16 => r_ifne (pc2 := 35) (t := 67) rfl h16 rfl (fun _ =>
      r_aload (pc2 := 36) rfl rfl rfl (
      r_getA (pc2 := 39) rfl rfl (sh_T hs rfl rfl) (sh_A hs rfl rfl) (
      r_iload (pc2 := 40) rfl rfl rfl (
      jr_g fun h17 => r_iald (len := 150) (pc2 := 41) rfl rfl (sh_T hs rfl rfl) (sh_L hs rfl rfl) rfl h17 (
      r_aload (pc2 := 42) rfl rfl rfl (
      r_getA (pc2 := 45) rfl rfl (sh_T hs rfl rfl) (sh_A hs rfl rfl) (
      r_iload (pc2 := 47) rfl rfl rfl (
      jr_g fun h18 => r_iald (len := 150) (pc2 := 48) rfl rfl (sh_T hs rfl rfl) (sh_L hs rfl rfl) rfl h18 (
      jr_g fun h19 => r_cne (pc2 := 51) (t := 71) rfl h19.1 h19.2 rfl (fun _ =>
      r_aload (pc2 := 52) rfl rfl rfl (
      r_getA (pc2 := 55) rfl rfl (sh_T hs rfl rfl) (sh_A hs rfl rfl) (
      r_iload (pc2 := 56) rfl rfl rfl (
      r_iald (len := 150) (pc2 := 57) rfl rfl (sh_T hs rfl rfl) (sh_L hs rfl rfl) rfl h17 (
      r_aload (pc2 := 58) rfl rfl rfl (
      r_getA (pc2 := 61) rfl rfl (sh_T hs rfl rfl) (sh_A hs rfl rfl) (
      r_iload (pc2 := 63) rfl rfl rfl (
      r_iald (len := 150) (pc2 := 64) rfl rfl (sh_T hs rfl rfl) (sh_L hs rfl rfl) rfl h18 (
      jr_g fun h20 => r_cne (pc2 := 67) (t := 71) rfl h20.1 h20.2 rfl (fun _ =>
      r_ic (x := 1) (pc2 := 68) rfl ic_1 rfl (
      r_goto (t := 72) rfl (
      r_istore (L2 := [some (.ref 44), some (gv c9), some (gv c10), some (gv 1), some (gv v12)]) (pc2 := 73) rfl rfl rfl (
      r_iinc (kk := 1) (L2 := [some (.ref 44), some (gv c9), some (gv c10), some (gv 1), some (gv (v12 + 1))]) (pc2 := 76) rfl ic_1 rfl rfl rfl (
      r_goto (t := 25) rfl (
      ih 1 (v12 + 1))))))) (fun _ =>
      r_ic (x := 0) (pc2 := 72) rfl ic_0 rfl (
      r_istore (L2 := [some (.ref 44), some (gv c9), some (gv c10), some (gv 0), some (gv v12)]) (pc2 := 73) rfl rfl rfl (
      r_iinc (kk := 1) (L2 := [some (.ref 44), some (gv c9), some (gv c10), some (gv 0), some (gv (v12 + 1))]) (pc2 := 76) rfl ic_1 rfl rfl rfl (
      r_goto (t := 25) rfl (
      ih 0 (v12 + 1))))))))))))))) (fun _ =>
      r_ic (x := 0) (pc2 := 72) rfl ic_0 rfl (
      r_istore (L2 := [some (.ref 44), some (gv c9), some (gv c10), some (gv 0), some (gv v12)]) (pc2 := 73) rfl rfl rfl (
      r_iinc (kk := 1) (L2 := [some (.ref 44), some (gv c9), some (gv c10), some (gv 0), some (gv (v12 + 1))]) (pc2 := 76) rfl ic_1 rfl rfl rfl (
      r_goto (t := 25) rfl (
      ih 0 (v12 + 1))))))))))))))) (fun _ =>
      r_ic (x := 1) (pc2 := 68) rfl ic_1 rfl (
      r_goto (t := 72) rfl (
      r_istore (L2 := [some (.ref 44), some (gv c9), some (gv c10), some (gv 1), some (gv v12)]) (pc2 := 73) rfl rfl rfl (
      r_iinc (kk := 1) (L2 := [some (.ref 44), some (gv c9), some (gv c10), some (gv 1), some (gv (v12 + 1))]) (pc2 := 76) rfl ic_1 rfl rfl rfl (
      r_goto (t := 25) rfl (
      ih 1 (v12 + 1))))))))) (fun _ =>
      jr_leaf ⟨_, rfl, rfl⟩))))
theorem rl_md_areSpots_l4 {s : gm_S} {n m : Nat} (hs : gm_sh s n m) (d : Nat)  (g : gm_T) (c2 : Int)  : ∀ (fuel : Nat) (v3 : Int) (j4 : Option Value) (j5 : Option Value) (hj4 : jm_lg j4 = false) (hj5 : jm_lg j5 = false), jr (pI s g) (md_areSpots_l4 g c2 fuel v3) (jm_sup cd_199 (jm_cl jm_CD km_n (d + 3)) (4, [some (.ref 44), some (gv c2), some (gv v3), j4, j5], [], gm_h s g)) := by
  intro fuel
  induction fuel with
  | zero => intros; exact jr_none
  | succ fuel ih =>
    intro v3 j4 j5 hj4 hj5
    unfold md_areSpots_l4
    exact (
      r_iload (pc2 := 5) rfl rfl rfl (
      r_ic (x := 5) (pc2 := 6) rfl ic_5 rfl (
      r_iload (pc2 := 7) rfl rfl rfl (
      r_imul (pc2 := 8) rfl rfl (
      r_aload (pc2 := 9) rfl rfl rfl (
      r_getA (pc2 := 12) rfl rfl (sh_T hs rfl rfl) (sh_A hs rfl rfl) (
      r_iload (pc2 := 13) rfl rfl rfl (
      jr_g fun h6 => r_iald (len := 30) (pc2 := 14) rfl rfl (sh_T hs rfl rfl) (sh_L hs rfl rfl) rfl h6 (
      r_iadd (pc2 := 15) rfl rfl (
      jr_g fun h7 => r_cge (pc2 := 18) (t := 111) rfl h7.1 h7.2 rfl (fun _ =>
      r_ic (x := 0) (pc2 := 19) rfl ic_0 rfl (
      r_istore (L2 := [some (.ref 44), some (gv c2), some (gv v3), some (gv 0), j5]) (pc2 := 20) rfl rfl rfl (
      r_ic (x := 5) (pc2 := 21) rfl ic_5 rfl (
      r_iload (pc2 := 22) rfl rfl rfl (
      r_imul (pc2 := 23) rfl rfl (
      r_istoreL (L3 := fun v8 => [some (.ref 44), some (gv c2), some (gv v3), some (gv 0), some (gv v8)]) (pc2 := 25) rfl rfl (fun _ => rfl) fun v8 => (
      r_b1 (rl_md_areSpots_l25 hs d  g c2 v3  fz 0 v8  ) (fun v25 c h => match c, h with | _, ⟨j26, hj26, rfl⟩ => (
      r_iload (pc2 := 80) rfl rfl rfl (
      jr_g fun h27 => r_ifne (pc2 := 83) (t := 103) rfl h27 rfl (fun _ =>
      r_aload (pc2 := 84) rfl rfl rfl (
      r_iload (pc2 := 85) rfl rfl rfl (
      r_aload (pc2 := 86) rfl rfl rfl (
      r_getA (pc2 := 89) rfl rfl (sh_T hs rfl rfl) (sh_A hs rfl rfl) (
      r_iload (pc2 := 90) rfl rfl rfl (
      jr_g fun h28 => r_iald (len := 150) (pc2 := 91) rfl rfl (sh_T hs rfl rfl) (sh_L hs rfl rfl) rfl h28 (
      r_aload (pc2 := 92) rfl rfl rfl (
      r_getA (pc2 := 95) rfl rfl (sh_T hs rfl rfl) (sh_A hs rfl rfl) (
      r_iload (pc2 := 96) rfl rfl rfl (
      r_iald (len := 150) (pc2 := 97) rfl rfl (sh_T hs rfl rfl) (sh_L hs rfl rfl) rfl h28 (
      r_callVP (pc2 := 100) (args := [.ref 44, gv c2, gv (gm_I g 51 v3.toNat), gv (gm_I g 52 v3.toNat)]) (st2 := []) rfl rfl rfl rfl rfl rfl (rc_of (sh_T hs rfl rfl)) (rf_md_hasCell hs d g c2 (gm_I g 51 v3.toNat) (gm_I g 52 v3.toNat) ) fun v29 => (
      jr_g fun h30 => r_ifne (pc2 := 103) (t := 105) rfl h30 rfl (fun _ =>
      r_ic (x := 0) (pc2 := 104) rfl ic_0 rfl (
      r_zret rfl (by decide) rfl)) (fun _ =>
      r_iinc (kk := 1) (L2 := [some (.ref 44), some (gv c2), some (gv (v3 + 1)), some (gv v25), j26]) (pc2 := 108) rfl ic_1 rfl rfl rfl (
      r_goto (t := 4) rfl (
      ih (v3 + 1) _ _ rfl hj26))))))))))))))) (fun _ =>
      r_ic (x := 0) (pc2 := 104) rfl ic_0 rfl (
      r_zret rfl (by decide) rfl)))))))))))) (fun _ =>
      r_ic (x := 1) (pc2 := 112) rfl ic_1 rfl (
      r_zret rfl (by decide) rfl))))))))))))
theorem rf_md_areSpots {s : gm_S} {n m : Nat} (hs : gm_sh s n m) (d : Nat)  (g : gm_T) (a1 : Int)  : jr (pI s g) (md_areSpots g a1) (jm_cl jm_CD km_n (d + 4) 199 [.ref 44, gv a1] (gm_h s g)) := by
  unfold md_areSpots
  exact (r_ent (cd := cd_199) (n := 5) (L0 := [some (.ref 44), some (gv a1), none, none, none]) rfl rfl rfl rfl (
      r_ic (x := 5) (pc2 := 1) rfl ic_5 rfl (
      r_iload (pc2 := 2) rfl rfl rfl (
      r_imul (pc2 := 3) rfl rfl (
      r_istoreL (L3 := fun v1 => [some (.ref 44), some (gv a1), some (gv v1), none, none]) (pc2 := 4) rfl rfl (fun _ => rfl) fun v1 => (
      rl_md_areSpots_l4 hs d  g a1  fz v1 _ _ rfl rfl))))))
theorem rf_md_turnedX {s : gm_S} {n m : Nat} (hs : gm_sh s n m) (d : Nat)  (g : gm_T) (a0 : Int) (a1 : Int) (a2 : Int)  : jr (pI s g) (md_turnedX g a0 a1 a2) (jm_cl jm_CD km_n (d + 1) 203 [gv a0, gv a1, gv a2] (gm_h s g)) := by
  unfold md_turnedX
  exact (r_ent (cd := cd_203) (n := 3) (L0 := [some (gv a0), some (gv a1), some (gv a2)]) rfl rfl rfl rfl (
      r_iload (pc2 := 1) rfl rfl rfl (
      jr_g fun h1 => r_ifne (pc2 := 4) (t := 8) rfl h1 rfl (fun _ =>
      r_iload (pc2 := 5) rfl rfl rfl (
      r_goto (t := 29) rfl (
      r_iret rfl rfl))) (fun _ =>
      r_iload (pc2 := 9) rfl rfl rfl (
      r_ic (x := 1) (pc2 := 10) rfl ic_1 rfl (
      r_cne (pc2 := 13) (t := 18) rfl h1 (rgk rfl) rfl (fun _ =>
      r_iload (pc2 := 14) rfl rfl rfl (
      r_inegN (pc2 := 15) rfl rfl (
      r_goto (t := 29) rfl (
      r_iret rfl rfl)))) (fun _ =>
      r_iload (pc2 := 19) rfl rfl rfl (
      r_ic (x := 2) (pc2 := 20) rfl ic_2 rfl (
      r_cne (pc2 := 23) (t := 28) rfl h1 (rgk rfl) rfl (fun _ =>
      r_iload (pc2 := 24) rfl rfl rfl (
      r_inegN (pc2 := 25) rfl rfl (
      r_goto (t := 29) rfl (
      r_iret rfl rfl)))) (fun _ =>
      r_iload (pc2 := 29) rfl rfl rfl (
      r_iret rfl rfl)))))))))))
theorem rf_md_turnedY {s : gm_S} {n m : Nat} (hs : gm_sh s n m) (d : Nat)  (g : gm_T) (a0 : Int) (a1 : Int) (a2 : Int)  : jr (pI s g) (md_turnedY g a0 a1 a2) (jm_cl jm_CD km_n (d + 1) 204 [gv a0, gv a1, gv a2] (gm_h s g)) := by
  unfold md_turnedY
  exact (r_ent (cd := cd_204) (n := 3) (L0 := [some (gv a0), some (gv a1), some (gv a2)]) rfl rfl rfl rfl (
      r_iload (pc2 := 1) rfl rfl rfl (
      jr_g fun h1 => r_ifne (pc2 := 4) (t := 8) rfl h1 rfl (fun _ =>
      r_iload (pc2 := 5) rfl rfl rfl (
      r_goto (t := 29) rfl (
      r_iret rfl rfl))) (fun _ =>
      r_iload (pc2 := 9) rfl rfl rfl (
      r_ic (x := 1) (pc2 := 10) rfl ic_1 rfl (
      r_cne (pc2 := 13) (t := 17) rfl h1 (rgk rfl) rfl (fun _ =>
      r_iload (pc2 := 14) rfl rfl rfl (
      r_goto (t := 29) rfl (
      r_iret rfl rfl))) (fun _ =>
      r_iload (pc2 := 18) rfl rfl rfl (
      r_ic (x := 2) (pc2 := 19) rfl ic_2 rfl (
      r_cne (pc2 := 22) (t := 27) rfl h1 (rgk rfl) rfl (fun _ =>
      r_iload (pc2 := 23) rfl rfl rfl (
      r_inegN (pc2 := 24) rfl rfl (
      r_goto (t := 29) rfl (
      r_iret rfl rfl)))) (fun _ =>
      r_iload (pc2 := 28) rfl rfl rfl (
      r_inegN (pc2 := 29) rfl rfl (
      r_iret rfl rfl))))))))))))
theorem rf_md_entry {s : gm_S} {n m : Nat} (hs : gm_sh s n m) (d : Nat)  (g : gm_T) (a1 : Int) (a2 : Int) (a3 : Int) (a4 : Int)  : jr (pI s g) (md_entry g a1 a2 a3 a4) (jm_cl jm_CD km_n (d + 1) 211 [.ref 44, gv a1, gv a2, gv a3, gv a4] (gm_h s g)) := by
  unfold md_entry
  exact (r_ent (cd := cd_211) (n := 5) (L0 := [some (.ref 44), some (gv a1), some (gv a2), some (gv a3), some (gv a4)]) rfl rfl rfl rfl (
      r_ic (x := 240) (pc2 := 3) rfl ic_240 rfl (
      r_ic (x := 8) (pc2 := 5) rfl ic_8 rfl (
      r_iload (pc2 := 6) rfl rfl rfl (
      r_imul (pc2 := 7) rfl rfl (
      r_iload (pc2 := 8) rfl rfl rfl (
      r_iadd (pc2 := 9) rfl rfl (
      r_imul (pc2 := 10) rfl rfl (
      r_ic (x := 8) (pc2 := 12) rfl ic_8 rfl (
      r_iload (pc2 := 13) rfl rfl rfl (
      r_imul (pc2 := 14) rfl rfl (
      r_iadd (pc2 := 15) rfl rfl (
      r_iload (pc2 := 17) rfl rfl rfl (
      r_iadd (pc2 := 18) rfl rfl (
      r_iret rfl rfl)))))))))))))))
theorem rf_md_fitX {s : gm_S} {n m : Nat} (hs : gm_sh s n m) (d : Nat)  (g : gm_T) (a1 : Int) (a2 : Int) (a3 : Int) (a4 : Int)  : jr (pI s g) (md_fitX g a1 a2 a3 a4) (jm_cl jm_CD km_n (d + 2) 212 [.ref 44, gv a1, gv a2, gv a3, gv a4] (gm_h s g)) := by
  unfold md_fitX
  exact (r_ent (cd := cd_212) (n := 6) (L0 := [some (.ref 44), some (gv a1), some (gv a2), some (gv a3), some (gv a4), none]) rfl rfl rfl rfl (
      r_ic (x := 8) (pc2 := 2) rfl ic_8 rfl (
      r_iload (pc2 := 3) rfl rfl rfl (
      r_imul (pc2 := 4) rfl rfl (
      r_iload (pc2 := 6) rfl rfl rfl (
      r_iadd (pc2 := 7) rfl rfl (
      r_istoreL (L3 := fun v1 => [some (.ref 44), some (gv a1), some (gv a2), some (gv a3), some (gv a4), some (gv v1)]) (pc2 := 9) rfl rfl (fun _ => rfl) fun v1 => (
      r_aload (pc2 := 10) rfl rfl rfl (
      r_getA (pc2 := 13) rfl rfl (sh_T hs rfl rfl) (sh_A hs rfl rfl) (
      r_aload (pc2 := 14) rfl rfl rfl (
      r_iload (pc2 := 15) rfl rfl rfl (
      r_iload (pc2 := 16) rfl rfl rfl (
      r_callVP (pc2 := 19) (args := [.ref 44, gv a1, gv a2]) (st2 := [.ref 47]) rfl rfl rfl rfl rfl rfl (rc_of (sh_T hs rfl rfl)) (rf_md_next hs d g a1 a2 ) fun v2 => (
      jr_g fun h3 => r_iald (len := 240) (pc2 := 20) rfl rfl (sh_T hs rfl rfl) (sh_L hs rfl rfl) rfl h3 (
      r_aload (pc2 := 21) rfl rfl rfl (
      r_getA (pc2 := 24) rfl rfl (sh_T hs rfl rfl) (sh_A hs rfl rfl) (
      r_aload (pc2 := 25) rfl rfl rfl (
      r_iload (pc2 := 26) rfl rfl rfl (
      r_iload (pc2 := 27) rfl rfl rfl (
      r_iload (pc2 := 28) rfl rfl rfl (
      r_iload (pc2 := 30) rfl rfl rfl (
      r_callVP (pc2 := 33) (args := [.ref 44, gv a1, gv a2, gv a3, gv a4]) (st2 := [.ref 63, gv (gm_I g 47 v2.toNat)]) rfl rfl rfl rfl rfl rfl (rc_of (sh_T hs rfl rfl)) (rf_md_entry hs d g a1 a2 a3 a4 ) fun v4 => (
      jr_g fun h5 => r_iald (len := 57600) (pc2 := 34) rfl rfl (sh_T hs rfl rfl) (sh_L hs rfl rfl) rfl h5 (
      r_aload (pc2 := 35) rfl rfl rfl (
      r_getA (pc2 := 38) rfl rfl (sh_T hs rfl rfl) (sh_A hs rfl rfl) (
      r_iload (pc2 := 40) rfl rfl rfl (
      jr_g fun h6 => r_iald (len := 240) (pc2 := 41) rfl rfl (sh_T hs rfl rfl) (sh_L hs rfl rfl) rfl h6 (
      r_aload (pc2 := 42) rfl rfl rfl (
      r_getA (pc2 := 45) rfl rfl (sh_T hs rfl rfl) (sh_A hs rfl rfl) (
      r_iload (pc2 := 47) rfl rfl rfl (
      r_iald (len := 240) (pc2 := 48) rfl rfl (sh_T hs rfl rfl) (sh_L hs rfl rfl) rfl h6 (
      r_callSP (pc2 := 51) (args := [gv (gm_I g 63 v4.toNat), gv (gm_I g 47 v1.toNat), gv (gm_I g 48 v1.toNat)]) (st2 := [gv (gm_I g 47 v2.toNat)]) rfl rfl rfl rfl rfl rfl (rf_md_turnedX hs d g (gm_I g 63 v4.toNat) (gm_I g 47 v1.toNat) (gm_I g 48 v1.toNat) ) fun v7 => (
      r_isub (pc2 := 52) rfl rfl (
      r_iret rfl rfl))))))))))))))))))))))))))))))))))
theorem rf_md_fitY {s : gm_S} {n m : Nat} (hs : gm_sh s n m) (d : Nat)  (g : gm_T) (a1 : Int) (a2 : Int) (a3 : Int) (a4 : Int)  : jr (pI s g) (md_fitY g a1 a2 a3 a4) (jm_cl jm_CD km_n (d + 2) 213 [.ref 44, gv a1, gv a2, gv a3, gv a4] (gm_h s g)) := by
  unfold md_fitY
  exact (r_ent (cd := cd_213) (n := 6) (L0 := [some (.ref 44), some (gv a1), some (gv a2), some (gv a3), some (gv a4), none]) rfl rfl rfl rfl (
      r_ic (x := 8) (pc2 := 2) rfl ic_8 rfl (
      r_iload (pc2 := 3) rfl rfl rfl (
      r_imul (pc2 := 4) rfl rfl (
      r_iload (pc2 := 6) rfl rfl rfl (
      r_iadd (pc2 := 7) rfl rfl (
      r_istoreL (L3 := fun v1 => [some (.ref 44), some (gv a1), some (gv a2), some (gv a3), some (gv a4), some (gv v1)]) (pc2 := 9) rfl rfl (fun _ => rfl) fun v1 => (
      r_aload (pc2 := 10) rfl rfl rfl (
      r_getA (pc2 := 13) rfl rfl (sh_T hs rfl rfl) (sh_A hs rfl rfl) (
      r_aload (pc2 := 14) rfl rfl rfl (
      r_iload (pc2 := 15) rfl rfl rfl (
      r_iload (pc2 := 16) rfl rfl rfl (
      r_callVP (pc2 := 19) (args := [.ref 44, gv a1, gv a2]) (st2 := [.ref 48]) rfl rfl rfl rfl rfl rfl (rc_of (sh_T hs rfl rfl)) (rf_md_next hs d g a1 a2 ) fun v2 => (
      jr_g fun h3 => r_iald (len := 240) (pc2 := 20) rfl rfl (sh_T hs rfl rfl) (sh_L hs rfl rfl) rfl h3 (
      r_aload (pc2 := 21) rfl rfl rfl (
      r_getA (pc2 := 24) rfl rfl (sh_T hs rfl rfl) (sh_A hs rfl rfl) (
      r_aload (pc2 := 25) rfl rfl rfl (
      r_iload (pc2 := 26) rfl rfl rfl (
      r_iload (pc2 := 27) rfl rfl rfl (
      r_iload (pc2 := 28) rfl rfl rfl (
      r_iload (pc2 := 30) rfl rfl rfl (
      r_callVP (pc2 := 33) (args := [.ref 44, gv a1, gv a2, gv a3, gv a4]) (st2 := [.ref 63, gv (gm_I g 48 v2.toNat)]) rfl rfl rfl rfl rfl rfl (rc_of (sh_T hs rfl rfl)) (rf_md_entry hs d g a1 a2 a3 a4 ) fun v4 => (
      jr_g fun h5 => r_iald (len := 57600) (pc2 := 34) rfl rfl (sh_T hs rfl rfl) (sh_L hs rfl rfl) rfl h5 (
      r_aload (pc2 := 35) rfl rfl rfl (
      r_getA (pc2 := 38) rfl rfl (sh_T hs rfl rfl) (sh_A hs rfl rfl) (
      r_iload (pc2 := 40) rfl rfl rfl (
      jr_g fun h6 => r_iald (len := 240) (pc2 := 41) rfl rfl (sh_T hs rfl rfl) (sh_L hs rfl rfl) rfl h6 (
      r_aload (pc2 := 42) rfl rfl rfl (
      r_getA (pc2 := 45) rfl rfl (sh_T hs rfl rfl) (sh_A hs rfl rfl) (
      r_iload (pc2 := 47) rfl rfl rfl (
      r_iald (len := 240) (pc2 := 48) rfl rfl (sh_T hs rfl rfl) (sh_L hs rfl rfl) rfl h6 (
      r_callSP (pc2 := 51) (args := [gv (gm_I g 63 v4.toNat), gv (gm_I g 47 v1.toNat), gv (gm_I g 48 v1.toNat)]) (st2 := [gv (gm_I g 48 v2.toNat)]) rfl rfl rfl rfl rfl rfl (rf_md_turnedY hs d g (gm_I g 63 v4.toNat) (gm_I g 47 v1.toNat) (gm_I g 48 v1.toNat) ) fun v7 => (
      r_isub (pc2 := 52) rfl rfl (
      r_iret rfl rfl))))))))))))))))))))))))))))))))))
theorem rf_md_cellTurnedX {s : gm_S} {n m : Nat} (hs : gm_sh s n m) (d : Nat)  (g : gm_T) (a0 : Int) (a1 : Int) (a2 : Int)  : jr (pI s g) (md_cellTurnedX g a0 a1 a2) (jm_cl jm_CD km_n (d + 2) 205 [gv a0, gv a1, gv a2] (gm_h s g)) := by
  unfold md_cellTurnedX
  exact (r_ent (cd := cd_205) (n := 3) (L0 := [some (gv a0), some (gv a1), some (gv a2)]) rfl rfl rfl rfl (
      r_iload (pc2 := 1) rfl rfl rfl (
      r_iload (pc2 := 2) rfl rfl rfl (
      r_iload (pc2 := 3) rfl rfl rfl (
      r_callSP (pc2 := 6) (args := [gv a0, gv a1, gv a2]) (st2 := []) rfl rfl rfl rfl rfl rfl (rf_md_turnedX hs d g a0 a1 a2 ) fun v1 => (
      r_iload (pc2 := 7) rfl rfl rfl (
      r_ic (x := 1) (pc2 := 8) rfl ic_1 rfl (
      jr_g fun h2 => r_ceq (pc2 := 11) (t := 16) rfl h2 (rgk rfl) rfl (fun _ =>
      r_ic (x := 1) (pc2 := 17) rfl ic_1 rfl (
      r_goto (t := 21) rfl (
      r_isubN (pc2 := 22) rfl rfl (
      r_iret rfl rfl)))) (fun _ =>
      r_iload (pc2 := 12) rfl rfl rfl (
      r_ic (x := 2) (pc2 := 13) rfl ic_2 rfl (
      r_cne (pc2 := 16) (t := 20) rfl h2 (rgk rfl) rfl (fun _ =>
      r_ic (x := 1) (pc2 := 17) rfl ic_1 rfl (
      r_goto (t := 21) rfl (
      r_isubN (pc2 := 22) rfl rfl (
      r_iret rfl rfl)))) (fun _ =>
      r_ic (x := 0) (pc2 := 21) rfl ic_0 rfl (
      r_isubN (pc2 := 22) rfl rfl (
      r_iret rfl rfl))))))))))))))
theorem rf_md_cellTurnedY {s : gm_S} {n m : Nat} (hs : gm_sh s n m) (d : Nat)  (g : gm_T) (a0 : Int) (a1 : Int) (a2 : Int)  : jr (pI s g) (md_cellTurnedY g a0 a1 a2) (jm_cl jm_CD km_n (d + 2) 206 [gv a0, gv a1, gv a2] (gm_h s g)) := by
  unfold md_cellTurnedY
  exact (r_ent (cd := cd_206) (n := 3) (L0 := [some (gv a0), some (gv a1), some (gv a2)]) rfl rfl rfl rfl (
      r_iload (pc2 := 1) rfl rfl rfl (
      r_iload (pc2 := 2) rfl rfl rfl (
      r_iload (pc2 := 3) rfl rfl rfl (
      r_callSP (pc2 := 6) (args := [gv a0, gv a1, gv a2]) (st2 := []) rfl rfl rfl rfl rfl rfl (rf_md_turnedY hs d g a0 a1 a2 ) fun v1 => (
      r_iload (pc2 := 7) rfl rfl rfl (
      r_ic (x := 2) (pc2 := 8) rfl ic_2 rfl (
      jr_g fun h2 => r_ceq (pc2 := 11) (t := 16) rfl h2 (rgk rfl) rfl (fun _ =>
      r_ic (x := 1) (pc2 := 17) rfl ic_1 rfl (
      r_goto (t := 21) rfl (
      r_isubN (pc2 := 22) rfl rfl (
      r_iret rfl rfl)))) (fun _ =>
      r_iload (pc2 := 12) rfl rfl rfl (
      r_ic (x := 3) (pc2 := 13) rfl ic_3 rfl (
      r_cne (pc2 := 16) (t := 20) rfl h2 (rgk rfl) rfl (fun _ =>
      r_ic (x := 1) (pc2 := 17) rfl ic_1 rfl (
      r_goto (t := 21) rfl (
      r_isubN (pc2 := 22) rfl rfl (
      r_iret rfl rfl)))) (fun _ =>
      r_ic (x := 0) (pc2 := 21) rfl ic_0 rfl (
      r_isubN (pc2 := 22) rfl rfl (
      r_iret rfl rfl))))))))))))))
theorem rl_md_overlaps_l10 {s : gm_S} {n m : Nat} (hs : gm_sh s n m) (d : Nat)  (g : gm_T) (c2 : Int) (c3 : Int) (c4 : Int) (c5 : Int) (c6 : Int)  : ∀ (fuel : Nat) (v7 : Int) (v8 : Int), jr (fun (q : Int) (c : Option jm_R) => ∃ (j10 : Option Value), jm_lg j10 = false ∧ c = jm_sup cd_207 (jm_cl jm_CD km_n (d + 3)) (93, [some (.ref 44), some (gv c2), some (gv c3), some (gv c4), some (gv c5), some (gv c6), some (gv q), j10], [], gm_h s g)) (md_overlaps_l10 g c2 c3 c4 c5 c6 fuel v7 v8) (jm_sup cd_207 (jm_cl jm_CD km_n (d + 3)) (10, [some (.ref 44), some (gv c2), some (gv c3), some (gv c4), some (gv c5), some (gv c6), some (gv v7), some (gv v8)], [], gm_h s g)) := by
  intro fuel
  induction fuel with
  | zero => intros; exact jr_none
  | succ fuel ih =>
    intro v7 v8  
    unfold md_overlaps_l10
    exact (
      r_iload (pc2 := 12) rfl rfl rfl (
      r_ic (x := 1600) (pc2 := 15) rfl ic_1600 rfl (
      r_iload (pc2 := 16) rfl rfl rfl (
      r_imul (pc2 := 17) rfl rfl (
      r_aload (pc2 := 18) rfl rfl rfl (
      r_getA (pc2 := 21) rfl rfl (sh_T hs rfl rfl) (sh_A hs rfl rfl) (
      r_iload (pc2 := 22) rfl rfl rfl (
      jr_g fun h11 => r_iald (len := 30) (pc2 := 23) rfl rfl (sh_T hs rfl rfl) (sh_L hs rfl rfl) rfl h11 (
      r_iadd (pc2 := 24) rfl rfl (
      jr_g fun h12 => r_cge (pc2 := 27) (t := 93) rfl h12.1 h12.2 rfl (fun _ =>
      r_iload (pc2 := 29) rfl rfl rfl (
      r_aload (pc2 := 30) rfl rfl rfl (
      r_iload (pc2 := 31) rfl rfl rfl (
      r_iload (pc2 := 32) rfl rfl rfl (
      r_aload (pc2 := 33) rfl rfl rfl (
      r_getA (pc2 := 36) rfl rfl (sh_T hs rfl rfl) (sh_A hs rfl rfl) (
      r_iload (pc2 := 38) rfl rfl rfl (
      jr_g fun h13 => r_iald (len := 48000) (pc2 := 39) rfl rfl (sh_T hs rfl rfl) (sh_L hs rfl rfl) rfl h13 (
      r_aload (pc2 := 40) rfl rfl rfl (
      r_getA (pc2 := 43) rfl rfl (sh_T hs rfl rfl) (sh_A hs rfl rfl) (
      r_iload (pc2 := 45) rfl rfl rfl (
      r_iald (len := 48000) (pc2 := 46) rfl rfl (sh_T hs rfl rfl) (sh_L hs rfl rfl) rfl h13 (
      r_callSP (pc2 := 49) (args := [gv c4, gv (gm_I g 59 v8.toNat), gv (gm_I g 60 v8.toNat)]) (st2 := [gv c2, .ref 44, gv v7]) rfl rfl rfl rfl rfl rfl (rf_md_cellTurnedX hs (d + 1) g c4 (gm_I g 59 v8.toNat) (gm_I g 60 v8.toNat) ) fun v14 => (
      r_iload (pc2 := 51) rfl rfl rfl (
      r_iadd (pc2 := 52) rfl rfl (
      r_iload (pc2 := 53) rfl rfl rfl (
      r_aload (pc2 := 54) rfl rfl rfl (
      r_getA (pc2 := 57) rfl rfl (sh_T hs rfl rfl) (sh_A hs rfl rfl) (
      r_iload (pc2 := 59) rfl rfl rfl (
      r_iald (len := 48000) (pc2 := 60) rfl rfl (sh_T hs rfl rfl) (sh_L hs rfl rfl) rfl h13 (
      r_aload (pc2 := 61) rfl rfl rfl (
      r_getA (pc2 := 64) rfl rfl (sh_T hs rfl rfl) (sh_A hs rfl rfl) (
      r_iload (pc2 := 66) rfl rfl rfl (
      r_iald (len := 48000) (pc2 := 67) rfl rfl (sh_T hs rfl rfl) (sh_L hs rfl rfl) rfl h13 (
      r_callSP (pc2 := 70) (args := [gv c4, gv (gm_I g 59 v8.toNat), gv (gm_I g 60 v8.toNat)]) (st2 := [gv (v14 + c5), gv c2, .ref 44, gv v7]) rfl rfl rfl rfl rfl rfl (rf_md_cellTurnedY hs (d + 1) g c4 (gm_I g 59 v8.toNat) (gm_I g 60 v8.toNat) ) fun v15 => (
      r_iload (pc2 := 72) rfl rfl rfl (
      r_iadd (pc2 := 73) rfl rfl (
      r_callVP (pc2 := 76) (args := [.ref 44, gv c2, gv (v14 + c5), gv (v15 + c6)]) (st2 := [gv v7]) rfl rfl rfl rfl rfl rfl (rc_of (sh_T hs rfl rfl)) (rf_md_hasCell hs d g c2 (v14 + c5) (v15 + c6) ) fun v16 => (
      jr_g fun h17 => r_ifeq (pc2 := 79) (t := 83) rfl h17 rfl (fun _ =>
      r_ic (x := 0) (pc2 := 84) rfl ic_0 rfl (
      r_iadd (pc2 := 85) rfl rfl (
      r_istoreL (L3 := fun v18 => [some (.ref 44), some (gv c2), some (gv c3), some (gv c4), some (gv c5), some (gv c6), some (gv v18), some (gv v8)]) (pc2 := 87) rfl rfl (fun _ => rfl) fun v18 => (
      r_iinc (kk := 1) (L2 := [some (.ref 44), some (gv c2), some (gv c3), some (gv c4), some (gv c5), some (gv c6), some (gv v18), some (gv (v8 + 1))]) (pc2 := 90) rfl ic_1 rfl rfl rfl (
      r_goto (t := 10) rfl (
      ih v18 (v8 + 1))))))) (fun _ =>
      r_ic (x := 1) (pc2 := 80) rfl ic_1 rfl (
      r_goto (t := 84) rfl (
      r_iadd (pc2 := 85) rfl rfl (
      r_istoreL (L3 := fun v20 => [some (.ref 44), some (gv c2), some (gv c3), some (gv c4), some (gv c5), some (gv c6), some (gv v20), some (gv v8)]) (pc2 := 87) rfl rfl (fun _ => rfl) fun v20 => (
      r_iinc (kk := 1) (L2 := [some (.ref 44), some (gv c2), some (gv c3), some (gv c4), some (gv c5), some (gv c6), some (gv v20), some (gv (v8 + 1))]) (pc2 := 90) rfl ic_1 rfl rfl rfl (
      r_goto (t := 10) rfl (
      ih v20 (v8 + 1))))))))))))))))))))))))))))))))))))) (fun _ =>
      jr_leaf ⟨_, rfl, rfl⟩)))))))))))
theorem rf_md_overlaps {s : gm_S} {n m : Nat} (hs : gm_sh s n m) (d : Nat)  (g : gm_T) (a1 : Int) (a2 : Int) (a3 : Int) (a4 : Int) (a5 : Int)  : jr (pI s g) (md_overlaps g a1 a2 a3 a4 a5) (jm_cl jm_CD km_n (d + 4) 207 [.ref 44, gv a1, gv a2, gv a3, gv a4, gv a5] (gm_h s g)) := by
  unfold md_overlaps
  exact (r_ent (cd := cd_207) (n := 8) (L0 := [some (.ref 44), some (gv a1), some (gv a2), some (gv a3), some (gv a4), some (gv a5), none, none]) rfl rfl rfl rfl (
      r_ic (x := 0) (pc2 := 1) rfl ic_0 rfl (
      r_istore (L2 := [some (.ref 44), some (gv a1), some (gv a2), some (gv a3), some (gv a4), some (gv a5), some (gv 0), none]) (pc2 := 3) rfl rfl rfl (
      r_ic (x := 1600) (pc2 := 6) rfl ic_1600 rfl (
      r_iload (pc2 := 7) rfl rfl rfl (
      r_imul (pc2 := 8) rfl rfl (
      r_istoreL (L3 := fun v1 => [some (.ref 44), some (gv a1), some (gv a2), some (gv a3), some (gv a4), some (gv a5), some (gv 0), some (gv v1)]) (pc2 := 10) rfl rfl (fun _ => rfl) fun v1 => (
      r_b1 (rl_md_overlaps_l10 hs d  g a1 a2 a3 a4 a5  fz 0 v1  ) (fun v22 c h => match c, h with | _, ⟨j23, hj23, rfl⟩ => (
      r_iload (pc2 := 95) rfl rfl rfl (
      r_iret rfl rfl)))))))))))
theorem rl_md_compares_l57 {s : gm_S} {n m : Nat} (hs : gm_sh s n m) (d : Nat)  (c35 : Int) (c36 : Int) (c37 : Int) (c38 : Int) (c39 : Int)  : ∀ (fuel : Nat) (v40 : Int) (g42 : gm_T) (j41 : Option Value) (hj41 : jm_lg j41 = false), jr (fun (q : gm_T) (c : Option jm_R) => ∃ (j43 : Option Value) (j44 : Option Value), jm_lg j43 = false ∧ jm_lg j44 = false ∧ c = jm_sup cd_210 (jm_cl jm_CD km_n (d + 4)) (173, [some (.ref 44), some (gv c35), some (gv c36), some (gv c37), some (gv c38), some (gv c39), j43, j44], [], gm_h s q)) (md_compares_l57  c35 c36 c37 c38 c39 fuel v40 g42) (jm_sup cd_210 (jm_cl jm_CD km_n (d + 4)) (57, [some (.ref 44), some (gv c35), some (gv c36), some (gv c37), some (gv c38), some (gv c39), some (gv v40), j41], [], gm_h s g42)) := by
  intro fuel
  induction fuel with
  | zero => intros; exact jr_none
  | succ fuel ih =>
    intro v40 g42 j41 hj41
    unfold md_compares_l57
    exact (
      r_iload (pc2 := 59) rfl rfl rfl (
      r_ic (x := 4) (pc2 := 60) rfl ic_4 rfl (
      jr_g fun h46 => r_cge (pc2 := 63) (t := 173) rfl h46 (rgk rfl) rfl (fun _ =>
      r_aload (pc2 := 64) rfl rfl rfl (
      r_getA (pc2 := 67) rfl rfl (sh_T hs rfl rfl) (sh_A hs rfl rfl) (
      r_iload (pc2 := 68) rfl rfl rfl (
      jr_g fun h47 => r_iald (len := 30) (pc2 := 69) rfl rfl (sh_T hs rfl rfl) (sh_L hs rfl rfl) rfl h47 (
      r_aload (pc2 := 70) rfl rfl rfl (
      r_getA (pc2 := 73) rfl rfl (sh_T hs rfl rfl) (sh_A hs rfl rfl) (
      r_iload (pc2 := 74) rfl rfl rfl (
      jr_g fun h48 => r_iald (len := 30) (pc2 := 75) rfl rfl (sh_T hs rfl rfl) (sh_L hs rfl rfl) rfl h48 (
      jr_g fun h49 => r_cne (pc2 := 78) (t := 173) rfl h49.1 h49.2 rfl (fun _ =>
      r_iload (pc2 := 80) rfl rfl rfl (
      r_aload (pc2 := 81) rfl rfl rfl (
      r_iload (pc2 := 82) rfl rfl rfl (
      r_iload (pc2 := 84) rfl rfl rfl (
      r_callVP (pc2 := 87) (args := [.ref 44, gv c36, gv c38]) (st2 := [gv v40]) rfl rfl rfl rfl rfl rfl (rc_of (sh_T hs rfl rfl)) (rf_md_wayX hs (d + 2) g42 c36 c38 ) fun v50 => (
      r_aload (pc2 := 88) rfl rfl rfl (
      r_iload (pc2 := 89) rfl rfl rfl (
      r_iload (pc2 := 91) rfl rfl rfl (
      r_callVP (pc2 := 94) (args := [.ref 44, gv c36, gv c38]) (st2 := [gv v50, gv v40]) rfl rfl rfl rfl rfl rfl (rc_of (sh_T hs rfl rfl)) (rf_md_wayY hs (d + 2) g42 c36 c38 ) fun v51 => (
      r_callSP (pc2 := 97) (args := [gv v40, gv v50, gv v51]) (st2 := []) rfl rfl rfl rfl rfl rfl (rf_md_turnedX hs (d + 3) g42 v40 v50 v51 ) fun v52 => (
      r_aload (pc2 := 98) rfl rfl rfl (
      r_iload (pc2 := 99) rfl rfl rfl (
      r_iload (pc2 := 100) rfl rfl rfl (
      r_callVP (pc2 := 103) (args := [.ref 44, gv c35, gv c37]) (st2 := [gv v52]) rfl rfl rfl rfl rfl rfl (rc_of (sh_T hs rfl rfl)) (rf_md_wayX hs (d + 2) g42 c35 c37 ) fun v53 => (
      r_ineg (pc2 := 104) rfl rfl (
      r_b1 (R1 := (fun (q : Int) (c : Option jm_R) => c = jm_sup cd_210 (jm_cl jm_CD km_n (d + 4)) (141, [some (.ref 44), some (gv c35), some (gv c36), some (gv c37), some (gv c38), some (gv c39), some (gv v40), j41], [gv q], gm_h s g42))) (
      jr_g fun h55 => r_cne (pc2 := 107) (t := 140) rfl h55.1 h55.2 rfl (fun _ =>
      r_iload (pc2 := 109) rfl rfl rfl (
      r_aload (pc2 := 110) rfl rfl rfl (
      r_iload (pc2 := 111) rfl rfl rfl (
      r_iload (pc2 := 113) rfl rfl rfl (
      r_callVP (pc2 := 116) (args := [.ref 44, gv c36, gv c38]) (st2 := [gv v40]) rfl rfl rfl rfl rfl rfl (rc_of (sh_T hs rfl rfl)) (rf_md_wayX hs (d + 2) g42 c36 c38 ) fun v56 => (
      r_aload (pc2 := 117) rfl rfl rfl (
      r_iload (pc2 := 118) rfl rfl rfl (
      r_iload (pc2 := 120) rfl rfl rfl (
      r_callVP (pc2 := 123) (args := [.ref 44, gv c36, gv c38]) (st2 := [gv v56, gv v40]) rfl rfl rfl rfl rfl rfl (rc_of (sh_T hs rfl rfl)) (rf_md_wayY hs (d + 2) g42 c36 c38 ) fun v57 => (
      r_callSP (pc2 := 126) (args := [gv v40, gv v56, gv v57]) (st2 := []) rfl rfl rfl rfl rfl rfl (rf_md_turnedY hs (d + 3) g42 v40 v56 v57 ) fun v58 => (
      r_aload (pc2 := 127) rfl rfl rfl (
      r_iload (pc2 := 128) rfl rfl rfl (
      r_iload (pc2 := 129) rfl rfl rfl (
      r_callVP (pc2 := 132) (args := [.ref 44, gv c35, gv c37]) (st2 := [gv v58]) rfl rfl rfl rfl rfl rfl (rc_of (sh_T hs rfl rfl)) (rf_md_wayY hs (d + 2) g42 c35 c37 ) fun v59 => (
      r_ineg (pc2 := 133) rfl rfl (
      jr_g fun h60 => r_cne (pc2 := 136) (t := 140) rfl h60.1 h60.2 rfl (fun _ =>
      r_ic (x := 1) (pc2 := 137) rfl ic_1 rfl (
      r_goto (t := 141) rfl (
      jr_leaf rfl))) (fun _ =>
      r_ic (x := 0) (pc2 := 141) rfl ic_0 rfl (
      jr_leaf rfl)))))))))))))))))) (fun _ =>
      r_ic (x := 0) (pc2 := 141) rfl ic_0 rfl (
      jr_leaf rfl))) (fun v54 c h => match c, h with | _, rfl => (
      r_istore (L2 := [some (.ref 44), some (gv c35), some (gv c36), some (gv c37), some (gv c38), some (gv c39), some (gv v40), some (gv v54)]) (pc2 := 143) rfl rfl rfl (
      r_aload (pc2 := 144) rfl rfl rfl (
      r_getA (pc2 := 147) rfl rfl (sh_T hs rfl rfl) (sh_A hs rfl rfl) (
      r_iload (pc2 := 149) rfl rfl rfl (
      r_iload (pc2 := 151) rfl rfl rfl (
      jr_g fun h61 => r_ifeq (pc2 := 154) (t := 159) rfl h61 rfl (fun _ =>
      r_aload (pc2 := 160) rfl rfl rfl (
      r_getA (pc2 := 163) rfl rfl (sh_T hs rfl rfl) (sh_A hs rfl rfl) (
      r_iload (pc2 := 165) rfl rfl rfl (
      jr_g fun h62 => r_iald (len := 57600) (pc2 := 166) rfl rfl (sh_T hs rfl rfl) (sh_L hs rfl rfl) rfl h62 (
      r_iast (len := 57600) (pc2 := 167) rfl rfl (sh_T hs rfl rfl) (sh_L hs rfl rfl) rfl h62 fun g63 => (
      r_iinc (kk := 1) (L2 := [some (.ref 44), some (gv c35), some (gv c36), some (gv c37), some (gv c38), some (gv c39), some (gv (v40 + 1)), some (gv v54)]) (pc2 := 170) rfl ic_1 rfl rfl rfl (
      r_goto (t := 57) rfl (
      ih (v40 + 1) g63 _ rfl)))))))) (fun _ =>
      r_iload (pc2 := 156) rfl rfl rfl (
      r_goto (t := 166) rfl (
      jr_g fun h66 => r_iast (len := 57600) (pc2 := 167) rfl rfl (sh_T hs rfl rfl) (sh_L hs rfl rfl) rfl h66 fun g65 => (
      r_iinc (kk := 1) (L2 := [some (.ref 44), some (gv c35), some (gv c36), some (gv c37), some (gv c38), some (gv c39), some (gv (v40 + 1)), some (gv v54)]) (pc2 := 170) rfl ic_1 rfl rfl rfl (
      r_goto (t := 57) rfl (
      ih (v40 + 1) g65 _ rfl))))))))))))))))))))))))))))) (fun _ =>
      jr_leaf ⟨_, _, rfl, hj41, rfl⟩)))))))))) (fun _ =>
      jr_leaf ⟨_, _, rfl, hj41, rfl⟩))))
theorem rl_md_compares_l15 {s : gm_S} {n m : Nat} (hs : gm_sh s n m) (d : Nat)  (c17 : Int) (c18 : Int) (c19 : Int)  : ∀ (fuel : Nat) (v20 : Int) (g24 : gm_T) (j21 : Option Value) (j22 : Option Value) (j23 : Option Value) (hj21 : jm_lg j21 = false) (hj22 : jm_lg j22 = false) (hj23 : jm_lg j23 = false), jr (fun (q : gm_T) (c : Option jm_R) => ∃ (j25 : Option Value) (j26 : Option Value) (j27 : Option Value) (j28 : Option Value), jm_lg j25 = false ∧ jm_lg j26 = false ∧ jm_lg j27 = false ∧ jm_lg j28 = false ∧ c = jm_sup cd_210 (jm_cl jm_CD km_n (d + 4)) (228, [some (.ref 44), some (gv c17), some (gv c18), some (gv c19), j25, j26, j27, j28], [], gm_h s q)) (md_compares_l15  c17 c18 c19 fuel v20 g24) (jm_sup cd_210 (jm_cl jm_CD km_n (d + 4)) (15, [some (.ref 44), some (gv c17), some (gv c18), some (gv c19), some (gv v20), j21, j22, j23], [], gm_h s g24)) := by
  intro fuel
  induction fuel with
  | zero => intros; exact jr_none
  | succ fuel ih =>
    intro v20 g24 j21 j22 j23 hj21 hj22 hj23
    unfold md_compares_l15
    exact (
      r_iload (pc2 := 17) rfl rfl rfl (
      r_aload (pc2 := 18) rfl rfl rfl (
      r_getA (pc2 := 21) rfl rfl (sh_T hs rfl rfl) (sh_A hs rfl rfl) (
      r_iload (pc2 := 22) rfl rfl rfl (
      jr_g fun h30 => r_iald (len := 30) (pc2 := 23) rfl rfl (sh_T hs rfl rfl) (sh_L hs rfl rfl) rfl h30 (
      jr_g fun h31 => r_cge (pc2 := 26) (t := 228) rfl h31.1 h31.2 rfl (fun _ =>
      r_ic (x := 240) (pc2 := 29) rfl ic_240 rfl (
      r_ic (x := 8) (pc2 := 31) rfl ic_8 rfl (
      r_iload (pc2 := 32) rfl rfl rfl (
      r_imul (pc2 := 33) rfl rfl (
      r_iload (pc2 := 34) rfl rfl rfl (
      r_iadd (pc2 := 35) rfl rfl (
      r_imul (pc2 := 36) rfl rfl (
      r_ic (x := 8) (pc2 := 38) rfl ic_8 rfl (
      r_iload (pc2 := 39) rfl rfl rfl (
      r_imul (pc2 := 40) rfl rfl (
      r_iadd (pc2 := 41) rfl rfl (
      r_iload (pc2 := 43) rfl rfl rfl (
      r_iadd (pc2 := 44) rfl rfl (
      r_istoreL (L3 := fun v32 => [some (.ref 44), some (gv c17), some (gv c18), some (gv c19), some (gv v20), some (gv v32), j22, j23]) (pc2 := 46) rfl rfl (fun _ => rfl) fun v32 => (
      r_aload (pc2 := 47) rfl rfl rfl (
      r_getA (pc2 := 50) rfl rfl (sh_T hs rfl rfl) (sh_A hs rfl rfl) (
      r_iload (pc2 := 52) rfl rfl rfl (
      r_ic (x := -1) (pc2 := 53) rfl ic_m1 rfl (
      jr_g fun h34 => r_iast (len := 57600) (pc2 := 54) rfl rfl (sh_T hs rfl rfl) (sh_L hs rfl rfl) rfl h34 fun g33 => (
      r_ic (x := 0) (pc2 := 55) rfl ic_0 rfl (
      r_istore (L2 := [some (.ref 44), some (gv c17), some (gv c18), some (gv c19), some (gv v20), some (gv v32), some (gv 0), j23]) (pc2 := 57) rfl rfl rfl (
      r_b1 (rl_md_compares_l57 hs d   c17 c18 c19 v20 v32  fz 0 g33 _ hj23) (fun g70 c h => match c, h with | _, ⟨j68, j69, hj68, hj69, rfl⟩ => (
      r_aload (pc2 := 174) rfl rfl rfl (
      r_getA (pc2 := 177) rfl rfl (sh_T hs rfl rfl) (sh_A hs rfl rfl) (
      r_iload (pc2 := 179) rfl rfl rfl (
      r_iald (len := 57600) (pc2 := 180) rfl rfl (sh_T hs rfl rfl) (sh_L hs rfl rfl) rfl h34 (
      r_ic (x := -1) (pc2 := 181) rfl ic_m1 rfl (
      jr_g fun h71 => r_ceq (pc2 := 184) (t := 222) rfl h71 (rgk rfl) rfl (fun _ =>
      r_iinc (kk := 1) (L2 := [some (.ref 44), some (gv c17), some (gv c18), some (gv c19), some (gv (v20 + 1)), some (gv v32), j68, j69]) (pc2 := 225) rfl ic_1 rfl rfl rfl (
      r_goto (t := 15) rfl (
      ih (v20 + 1) g70 _ _ _ rfl hj68 hj69))) (fun _ =>
      r_aload (pc2 := 185) rfl rfl rfl (
      r_getA (pc2 := 188) rfl rfl (sh_T hs rfl rfl) (sh_A hs rfl rfl) (
      r_iload (pc2 := 190) rfl rfl rfl (
      r_aload (pc2 := 191) rfl rfl rfl (
      r_iload (pc2 := 192) rfl rfl rfl (
      r_iload (pc2 := 193) rfl rfl rfl (
      r_aload (pc2 := 194) rfl rfl rfl (
      r_getA (pc2 := 197) rfl rfl (sh_T hs rfl rfl) (sh_A hs rfl rfl) (
      r_iload (pc2 := 199) rfl rfl rfl (
      r_iald (len := 57600) (pc2 := 200) rfl rfl (sh_T hs rfl rfl) (sh_L hs rfl rfl) rfl h34 (
      r_aload (pc2 := 201) rfl rfl rfl (
      r_iload (pc2 := 202) rfl rfl rfl (
      r_iload (pc2 := 203) rfl rfl rfl (
      r_iload (pc2 := 204) rfl rfl rfl (
      r_iload (pc2 := 206) rfl rfl rfl (
      r_callVP (pc2 := 209) (args := [.ref 44, gv c17, gv c19, gv c18, gv v20]) (st2 := [gv (gm_I g70 63 v32.toNat), gv c18, gv c17, .ref 44, gv v32, .ref 64]) rfl rfl rfl rfl rfl rfl (rc_of (sh_T hs rfl rfl)) (rf_md_fitX hs (d + 2) g70 c17 c19 c18 v20 ) fun v73 => (
      r_aload (pc2 := 210) rfl rfl rfl (
      r_iload (pc2 := 211) rfl rfl rfl (
      r_iload (pc2 := 212) rfl rfl rfl (
      r_iload (pc2 := 213) rfl rfl rfl (
      r_iload (pc2 := 215) rfl rfl rfl (
      r_callVP (pc2 := 218) (args := [.ref 44, gv c17, gv c19, gv c18, gv v20]) (st2 := [gv v73, gv (gm_I g70 63 v32.toNat), gv c18, gv c17, .ref 44, gv v32, .ref 64]) rfl rfl rfl rfl rfl rfl (rc_of (sh_T hs rfl rfl)) (rf_md_fitY hs (d + 2) g70 c17 c19 c18 v20 ) fun v74 => (
      r_callVP (pc2 := 221) (args := [.ref 44, gv c17, gv c18, gv (gm_I g70 63 v32.toNat), gv v73, gv v74]) (st2 := [gv v32, .ref 64]) rfl rfl rfl rfl rfl rfl (rc_of (sh_T hs rfl rfl)) (rf_md_overlaps hs d g70 c17 c18 (gm_I g70 63 v32.toNat) v73 v74 ) fun v75 => (
      r_iast (len := 57600) (pc2 := 222) rfl rfl (sh_T hs rfl rfl) (sh_L hs rfl rfl) rfl h34 fun g76 => (
      r_iinc (kk := 1) (L2 := [some (.ref 44), some (gv c17), some (gv c18), some (gv c19), some (gv (v20 + 1)), some (gv v32), j68, j69]) (pc2 := 225) rfl ic_1 rfl rfl rfl (
      r_goto (t := 15) rfl (
      ih (v20 + 1) g76 _ _ _ rfl hj68 hj69)))))))))))))))))))))))))))))))))))))))))))))))))))))))) (fun _ =>
      jr_leaf ⟨_, _, _, _, rfl, hj21, hj22, hj23, rfl⟩)))))))
theorem rl_md_compares_l2 {s : gm_S} {n m : Nat} (hs : gm_sh s n m) (d : Nat)  (c1 : Int) (c2 : Int)  : ∀ (fuel : Nat) (v3 : Int) (g8 : gm_T) (j4 : Option Value) (j5 : Option Value) (j6 : Option Value) (j7 : Option Value) (hj4 : jm_lg j4 = false) (hj5 : jm_lg j5 = false) (hj6 : jm_lg j6 = false) (hj7 : jm_lg j7 = false), jr (fun (q : gm_T) (c : Option jm_R) => ∃ (j9 : Option Value) (j10 : Option Value) (j11 : Option Value) (j12 : Option Value) (j13 : Option Value), jm_lg j9 = false ∧ jm_lg j10 = false ∧ jm_lg j11 = false ∧ jm_lg j12 = false ∧ jm_lg j13 = false ∧ c = jm_sup cd_210 (jm_cl jm_CD km_n (d + 4)) (234, [some (.ref 44), some (gv c1), some (gv c2), j9, j10, j11, j12, j13], [], gm_h s q)) (md_compares_l2  c1 c2 fuel v3 g8) (jm_sup cd_210 (jm_cl jm_CD km_n (d + 4)) (2, [some (.ref 44), some (gv c1), some (gv c2), some (gv v3), j4, j5, j6, j7], [], gm_h s g8)) := by
  intro fuel
  induction fuel with
  | zero => intros; exact jr_none
  | succ fuel ih =>
    intro v3 g8 j4 j5 j6 j7 hj4 hj5 hj6 hj7
    unfold md_compares_l2
    exact (
      r_iload (pc2 := 3) rfl rfl rfl (
      r_aload (pc2 := 4) rfl rfl rfl (
      r_getA (pc2 := 7) rfl rfl (sh_T hs rfl rfl) (sh_A hs rfl rfl) (
      r_iload (pc2 := 8) rfl rfl rfl (
      jr_g fun h15 => r_iald (len := 30) (pc2 := 9) rfl rfl (sh_T hs rfl rfl) (sh_L hs rfl rfl) rfl h15 (
      jr_g fun h16 => r_cge (pc2 := 12) (t := 234) rfl h16.1 h16.2 rfl (fun _ =>
      r_ic (x := 0) (pc2 := 13) rfl ic_0 rfl (
      r_istore (L2 := [some (.ref 44), some (gv c1), some (gv c2), some (gv v3), some (gv 0), j5, j6, j7]) (pc2 := 15) rfl rfl rfl (
      r_b1 (rl_md_compares_l15 hs d   c1 c2 v3  fz 0 g8 _ _ _ hj5 hj6 hj7) (fun g82 c h => match c, h with | _, ⟨j78, j79, j80, j81, hj78, hj79, hj80, hj81, rfl⟩ => (
      r_iinc (kk := 1) (L2 := [some (.ref 44), some (gv c1), some (gv c2), some (gv (v3 + 1)), j78, j79, j80, j81]) (pc2 := 231) rfl ic_1 rfl rfl rfl (
      r_goto (t := 2) rfl (
      ih (v3 + 1) g82 _ _ _ _ hj78 hj79 hj80 hj81))))))) (fun _ =>
      jr_leaf ⟨_, _, _, _, _, rfl, hj4, hj5, hj6, hj7, rfl⟩)))))))
theorem rf_md_compares {s : gm_S} {n m : Nat} (hs : gm_sh s n m) (d : Nat)  (g : gm_T) (a1 : Int) (a2 : Int)  : jr (eV s) (md_compares g a1 a2) (jm_cl jm_CD km_n (d + 5) 210 [.ref 44, gv a1, gv a2] (gm_h s g)) := by
  unfold md_compares
  exact (r_ent (cd := cd_210) (n := 8) (L0 := [some (.ref 44), some (gv a1), some (gv a2), none, none, none, none, none]) rfl rfl rfl rfl (
      r_ic (x := 0) (pc2 := 1) rfl ic_0 rfl (
      r_istore (L2 := [some (.ref 44), some (gv a1), some (gv a2), some (gv 0), none, none, none, none]) (pc2 := 2) rfl rfl rfl (
      r_b1 (rl_md_compares_l2 hs d   a1 a2  fz 0 g _ _ _ _ rfl rfl rfl rfl) (fun g89 c h => match c, h with | _, ⟨j84, j85, j86, j87, j88, hj84, hj85, hj86, hj87, hj88, rfl⟩ => (
      r_vret rfl rfl))))))
theorem rl_md_bit_l167 {s : gm_S} {n m : Nat} (hs : gm_sh s n m) (d : Nat)    : ∀ (fuel : Nat) (v30 : Int) (g31 : gm_T) (j27 : Option Value) (j28 : Option Value) (j29 : Option Value) (hj27 : jm_lg j27 = false) (hj28 : jm_lg j28 = false) (hj29 : jm_lg j29 = false), jr (fun (q : gm_T) (c : Option jm_R) => ∃ (j32 : Option Value), jm_lg j32 = false ∧ c = jm_sup cd_200 (jm_cl jm_CD km_n (d + 6)) (208, [some (.ref 44), j27, j28, j29, j32], [], gm_h s q)) (md_bit_l167   fuel v30 g31) (jm_sup cd_200 (jm_cl jm_CD km_n (d + 6)) (167, [some (.ref 44), j27, j28, j29, some (gv v30)], [], gm_h s g31)) := by
  intro fuel
  induction fuel with
  | zero => intros; exact jr_none
  | succ fuel ih =>
    intro v30 g31 j27 j28 j29 hj27 hj28 hj29
    unfold md_bit_l167
    exact (
      r_iload (pc2 := 169) rfl rfl rfl (
      r_aload (pc2 := 170) rfl rfl rfl (
      r_getI (pc2 := 173) rfl rfl (sh_T hs rfl rfl) (
      r_ic (x := 1) (pc2 := 174) rfl ic_1 rfl (
      r_isub (pc2 := 175) rfl rfl (
      jr_g fun h34 => r_cge (pc2 := 178) (t := 208) rfl h34.1 h34.2 rfl (fun _ =>
      r_aload (pc2 := 179) rfl rfl rfl (
      r_iload (pc2 := 181) rfl rfl rfl (
      r_aload (pc2 := 182) rfl rfl rfl (
      r_getI (pc2 := 185) rfl rfl (sh_T hs rfl rfl) (
      r_ic (x := 1) (pc2 := 186) rfl ic_1 rfl (
      r_isub (pc2 := 187) rfl rfl (
      r_callVV (pc2 := 190) (args := [.ref 44, gv v30, gv ((gm_I g31 44 3) - 1)]) (st2 := []) rfl rfl rfl rfl rfl rfl (rc_of (sh_T hs rfl rfl)) (rf_md_compares hs (d + 1) g31 v30 ((gm_I g31 44 3) - 1) ) fun g35 => (
      r_aload (pc2 := 191) rfl rfl rfl (
      r_aload (pc2 := 192) rfl rfl rfl (
      r_getI (pc2 := 195) rfl rfl (sh_T hs rfl rfl) (
      r_ic (x := 1) (pc2 := 196) rfl ic_1 rfl (
      r_isub (pc2 := 197) rfl rfl (
      r_iload (pc2 := 199) rfl rfl rfl (
      r_callVV (pc2 := 202) (args := [.ref 44, gv ((gm_I g35 44 3) - 1), gv v30]) (st2 := []) rfl rfl rfl rfl rfl rfl (rc_of (sh_T hs rfl rfl)) (rf_md_compares hs (d + 1) g35 ((gm_I g35 44 3) - 1) v30 ) fun g36 => (
      r_iinc (kk := 1) (L2 := [some (.ref 44), j27, j28, j29, some (gv (v30 + 1))]) (pc2 := 205) rfl ic_1 rfl rfl (jm_st1j hj29 rfl ⟨rfl, rfl⟩) (
      r_goto (t := 167) rfl (
      ih (v30 + 1) g36 _ _ _ hj27 hj28 hj29))))))))))))))))) (fun _ =>
      jr_leaf ⟨_, rfl, rfl⟩)))))))
theorem rf_md_bit {s : gm_S} {n m : Nat} (hs : gm_sh s n m) (d : Nat)  (g : gm_T) (a1 : Int) (a2 : Int) (a3 : Int)  : jr (eI s) (md_bit g a1 a2 a3) (jm_cl jm_CD km_n (d + 7) 200 [.ref 44, gv a1, gv a2, gv a3] (gm_h s g)) := by
  unfold md_bit
  exact (r_ent (cd := cd_200) (n := 5) (L0 := [some (.ref 44), some (gv a1), some (gv a2), some (gv a3), none]) rfl rfl rfl rfl (
      r_iload (pc2 := 1) rfl rfl rfl (
      r_ic (x := 1) (pc2 := 2) rfl ic_1 rfl (
      r_ic (x := 99) (pc2 := 4) rfl ic_99 rfl (
      r_callSP (pc2 := 7) (args := [gv a1, gv 1, gv 99]) (st2 := []) rfl rfl rfl rfl rfl rfl (rf_md_in hs (d + 5) g a1 1 99 ) fun v1 => (
      jr_g fun h2 => r_ifeq (pc2 := 10) (t := 29) rfl h2 rfl (fun _ =>
      r_ic (x := -2) (pc2 := 31) rfl ic_m2 rfl (
      r_iret rfl rfl)) (fun _ =>
      r_iload (pc2 := 11) rfl rfl rfl (
      r_ic (x := -1) (pc2 := 12) rfl ic_m1 rfl (
      r_ic (x := 3) (pc2 := 13) rfl ic_3 rfl (
      r_callSP (pc2 := 16) (args := [gv a2, gv (-1), gv 3]) (st2 := []) rfl rfl rfl rfl rfl rfl (rf_md_in hs (d + 5) g a2 (-1) 3 ) fun v3 => (
      jr_g fun h4 => r_ifeq (pc2 := 19) (t := 29) rfl h4 rfl (fun _ =>
      r_ic (x := -2) (pc2 := 31) rfl ic_m2 rfl (
      r_iret rfl rfl)) (fun _ =>
      r_iload (pc2 := 20) rfl rfl rfl (
      r_ic (x := 0) (pc2 := 21) rfl ic_0 rfl (
      r_ic (x := 9) (pc2 := 23) rfl ic_9 rfl (
      r_callSP (pc2 := 26) (args := [gv a3, gv 0, gv 9]) (st2 := []) rfl rfl rfl rfl rfl rfl (rf_md_in hs (d + 5) g a3 0 9 ) fun v5 => (
      jr_g fun h6 => r_ifne (pc2 := 29) (t := 32) rfl h6 rfl (fun _ =>
      r_ic (x := -2) (pc2 := 31) rfl ic_m2 rfl (
      r_iret rfl rfl)) (fun _ =>
      r_aload (pc2 := 33) rfl rfl rfl (
      r_getI (pc2 := 36) rfl rfl (sh_T hs rfl rfl) (
      r_ic (x := 30) (pc2 := 38) rfl ic_30 rfl (
      jr_g fun h7 => r_cne (pc2 := 41) (t := 44) rfl h7 (rgk rfl) rfl (fun _ =>
      r_ic (x := -4) (pc2 := 43) rfl ic_m4 rfl (
      r_iret rfl rfl)) (fun _ =>
      r_aload (pc2 := 45) rfl rfl rfl (
      r_callVV (pc2 := 48) (args := [.ref 44]) (st2 := []) rfl rfl rfl rfl rfl rfl (rc_of (sh_T hs rfl rfl)) (rf_md_readsBit hs d g ) fun g8 => (
      r_aload (pc2 := 49) rfl rfl rfl (
      r_ic (x := 0) (pc2 := 50) rfl ic_0 rfl (
      r_putI (pc2 := 53) rfl rfl (sh_T hs rfl rfl) fun g9 => (
      r_aload (pc2 := 54) rfl rfl rfl (
      r_getI (pc2 := 57) rfl rfl (sh_T hs rfl rfl) (
      jr_g fun h10 => r_ifeq (pc2 := 60) (t := 68) rfl h10 rfl (fun _ =>
      r_aload (pc2 := 69) rfl rfl rfl (
      r_aload (pc2 := 70) rfl rfl rfl (
      r_getI (pc2 := 73) rfl rfl (sh_T hs rfl rfl) (
      r_callVP (pc2 := 76) (args := [.ref 44, gv (gm_I g9 44 3)]) (st2 := []) rfl rfl rfl rfl rfl rfl (rc_of (sh_T hs rfl rfl)) (rf_md_isRing hs d g9 (gm_I g9 44 3) ) fun v11 => (
      jr_g fun h12 => r_ifne (pc2 := 79) (t := 82) rfl h12 rfl (fun _ =>
      r_ic (x := -5) (pc2 := 81) rfl ic_m5 rfl (
      r_iret rfl rfl)) (fun _ =>
      r_aload (pc2 := 83) rfl rfl rfl (
      r_aload (pc2 := 84) rfl rfl rfl (
      r_getI (pc2 := 87) rfl rfl (sh_T hs rfl rfl) (
      r_callVV (pc2 := 90) (args := [.ref 44, gv (gm_I g9 44 3)]) (st2 := []) rfl rfl rfl rfl rfl rfl (rc_of (sh_T hs rfl rfl)) (rf_md_lays hs (d + 3) g9 (gm_I g9 44 3) ) fun g13 => (
      r_aload (pc2 := 91) rfl rfl rfl (
      r_aload (pc2 := 92) rfl rfl rfl (
      r_getI (pc2 := 95) rfl rfl (sh_T hs rfl rfl) (
      r_callVP (pc2 := 98) (args := [.ref 44, gv (gm_I g13 44 3)]) (st2 := []) rfl rfl rfl rfl rfl rfl (rc_of (sh_T hs rfl rfl)) (rf_md_areSpots hs (d + 2) g13 (gm_I g13 44 3) ) fun v14 => (
      jr_g fun h15 => r_ifne (pc2 := 101) (t := 104) rfl h15 rfl (fun _ =>
      r_ic (x := -6) (pc2 := 103) rfl ic_m6 rfl (
      r_iret rfl rfl)) (fun _ =>
      r_aload (pc2 := 105) rfl rfl rfl (
      r_getA (pc2 := 108) rfl rfl (sh_T hs rfl rfl) (sh_A hs rfl rfl) (
      r_aload (pc2 := 109) rfl rfl rfl (
      r_getI (pc2 := 112) rfl rfl (sh_T hs rfl rfl) (
      r_iload (pc2 := 113) rfl rfl rfl (
      jr_g fun h17 => r_iast (len := 30) (pc2 := 114) rfl rfl (sh_T hs rfl rfl) (sh_L hs rfl rfl) rfl h17 fun g16 => (
      r_aload (pc2 := 115) rfl rfl rfl (
      r_getA (pc2 := 118) rfl rfl (sh_T hs rfl rfl) (sh_A hs rfl rfl) (
      r_aload (pc2 := 119) rfl rfl rfl (
      r_getI (pc2 := 122) rfl rfl (sh_T hs rfl rfl) (
      r_iload (pc2 := 123) rfl rfl rfl (
      jr_g fun h19 => r_iast (len := 30) (pc2 := 124) rfl rfl (sh_T hs rfl rfl) (sh_L hs rfl rfl) rfl h19 fun g18 => (
      r_aload (pc2 := 125) rfl rfl rfl (
      r_getA (pc2 := 128) rfl rfl (sh_T hs rfl rfl) (sh_A hs rfl rfl) (
      r_aload (pc2 := 129) rfl rfl rfl (
      r_getI (pc2 := 132) rfl rfl (sh_T hs rfl rfl) (
      r_iload (pc2 := 133) rfl rfl rfl (
      jr_g fun h21 => r_iast (len := 30) (pc2 := 134) rfl rfl (sh_T hs rfl rfl) (sh_L hs rfl rfl) rfl h21 fun g20 => (
      r_aload (pc2 := 135) rfl rfl rfl (
      r_getA (pc2 := 138) rfl rfl (sh_T hs rfl rfl) (sh_A hs rfl rfl) (
      r_aload (pc2 := 139) rfl rfl rfl (
      r_getI (pc2 := 142) rfl rfl (sh_T hs rfl rfl) (
      r_ic (x := 0) (pc2 := 143) rfl ic_0 rfl (
      jr_g fun h23 => r_zast (len := 30) (pc2 := 144) rfl rfl (sh_T hs rfl rfl) (sh_L hs rfl rfl) rfl h23 (by decide) fun g22 => (
      r_aload (pc2 := 145) rfl rfl rfl (
      r_getA (pc2 := 148) rfl rfl (sh_T hs rfl rfl) (sh_A hs rfl rfl) (
      r_aload (pc2 := 149) rfl rfl rfl (
      r_getI (pc2 := 152) rfl rfl (sh_T hs rfl rfl) (
      r_ic (x := 0) (pc2 := 153) rfl ic_0 rfl (
      jr_g fun h25 => r_zast (len := 30) (pc2 := 154) rfl rfl (sh_T hs rfl rfl) (sh_L hs rfl rfl) rfl h25 (by decide) fun g24 => (
      r_aload (pc2 := 155) rfl rfl rfl (
      r_dup (pc2 := 156) rfl rfl rfl (
      r_getI (pc2 := 159) rfl rfl (sh_T hs rfl rfl) (
      r_ic (x := 1) (pc2 := 160) rfl ic_1 rfl (
      r_iadd (pc2 := 161) rfl rfl (
      r_putI (pc2 := 164) rfl rfl (sh_T hs rfl rfl) fun g26 => (
      r_ic (x := 0) (pc2 := 165) rfl ic_0 rfl (
      r_istore (L2 := [some (.ref 44), some (gv a1), some (gv a2), some (gv a3), some (gv 0)]) (pc2 := 167) rfl rfl rfl (
      r_b1 (rl_md_bit_l167 hs d     fz 0 g26 _ _ _ rfl rfl rfl) (fun g42 c h => match c, h with | _, ⟨j41, hj41, rfl⟩ => (
      r_aload (pc2 := 209) rfl rfl rfl (
      r_getI (pc2 := 212) rfl rfl (sh_T hs rfl rfl) (
      r_ic (x := 1) (pc2 := 213) rfl ic_1 rfl (
      r_isub (pc2 := 214) rfl rfl (
      r_iret rfl rfl))))))))))))))))))))))))))))))))))))))))))))))))))))))))))) (fun _ =>
      r_ic (x := -10) (pc2 := 62) rfl ic_m10 rfl (
      r_aload (pc2 := 63) rfl rfl rfl (
      r_getI (pc2 := 66) rfl rfl (sh_T hs rfl rfl) (
      r_isub (pc2 := 67) rfl rfl (
      r_iret rfl rfl)))))))))))))))))))))))))))))))))
theorem rf_md_about {s : gm_S} {n m : Nat} (hs : gm_sh s n m) (d : Nat)  (g : gm_T) (a1 : Int) (a2 : Int)  : jr (pI s g) (md_about g a1 a2) (jm_cl jm_CD km_n (d + 3) 201 [.ref 44, gv a1, gv a2] (gm_h s g)) := by
  unfold md_about
  exact (r_ent (cd := cd_201) (n := 3) (L0 := [some (.ref 44), some (gv a1), some (gv a2)]) rfl rfl rfl rfl (
      r_aload (pc2 := 1) rfl rfl rfl (
      r_iload (pc2 := 2) rfl rfl rfl (
      r_callVP (pc2 := 5) (args := [.ref 44, gv a1]) (st2 := []) rfl rfl rfl rfl rfl rfl (rc_of (sh_T hs rfl rfl)) (rf_md_isBit hs d g a1 ) fun v1 => (
      jr_g fun h2 => r_ifne (pc2 := 8) (t := 12) rfl h2 rfl (fun _ =>
      r_ic (x := -100000) (pc2 := 11) rfl ic_m100000 rfl (
      r_iret rfl rfl)) (fun _ =>
      r_iload (pc2 := 13) rfl rfl rfl (
      jr_g fun h3 => (jr_ite (fun h4 => r_sw (pc2 := 56) rfl (sw_yes ic_0 h4) (
      r_aload (pc2 := 57) rfl rfl rfl (
      r_getA (pc2 := 60) rfl rfl (sh_T hs rfl rfl) (sh_A hs rfl rfl) (
      r_iload (pc2 := 61) rfl rfl rfl (
      jr_g fun h17 => r_iald (len := 30) (pc2 := 62) rfl rfl (sh_T hs rfl rfl) (sh_L hs rfl rfl) rfl h17 (
      r_iret rfl rfl)))))) (fun h4 =>
      jr_ite (fun h5 => r_sw (pc2 := 63) rfl (sw_no ic_0 h3 (rgk rfl) h4 (sw_yes ic_1 h5)) (
      r_aload (pc2 := 64) rfl rfl rfl (
      r_getA (pc2 := 67) rfl rfl (sh_T hs rfl rfl) (sh_A hs rfl rfl) (
      r_iload (pc2 := 68) rfl rfl rfl (
      jr_g fun h16 => r_iald (len := 30) (pc2 := 69) rfl rfl (sh_T hs rfl rfl) (sh_L hs rfl rfl) rfl h16 (
      r_iret rfl rfl)))))) (fun h5 =>
      jr_ite (fun h6 => r_sw (pc2 := 70) rfl (sw_no ic_0 h3 (rgk rfl) h4 (sw_no ic_1 h3 (rgk rfl) h5 (sw_yes ic_2 h6))) (
      r_aload (pc2 := 71) rfl rfl rfl (
      r_getA (pc2 := 74) rfl rfl (sh_T hs rfl rfl) (sh_A hs rfl rfl) (
      r_iload (pc2 := 75) rfl rfl rfl (
      jr_g fun h15 => r_iald (len := 30) (pc2 := 76) rfl rfl (sh_T hs rfl rfl) (sh_L hs rfl rfl) rfl h15 (
      r_iret rfl rfl)))))) (fun h6 =>
      jr_ite (fun h7 => r_sw (pc2 := 77) rfl (sw_no ic_0 h3 (rgk rfl) h4 (sw_no ic_1 h3 (rgk rfl) h5 (sw_no ic_2 h3 (rgk rfl) h6 (sw_yes ic_3 h7)))) (
      r_aload (pc2 := 78) rfl rfl rfl (
      r_getA (pc2 := 81) rfl rfl (sh_T hs rfl rfl) (sh_A hs rfl rfl) (
      r_iload (pc2 := 82) rfl rfl rfl (
      jr_g fun h14 => r_iald (len := 30) (pc2 := 83) rfl rfl (sh_T hs rfl rfl) (sh_L hs rfl rfl) rfl h14 (
      r_iret rfl rfl)))))) (fun h7 =>
      jr_ite (fun h8 => r_sw (pc2 := 84) rfl (sw_no ic_0 h3 (rgk rfl) h4 (sw_no ic_1 h3 (rgk rfl) h5 (sw_no ic_2 h3 (rgk rfl) h6 (sw_no ic_3 h3 (rgk rfl) h7 (sw_yes ic_4 h8))))) (
      r_aload (pc2 := 85) rfl rfl rfl (
      r_getA (pc2 := 88) rfl rfl (sh_T hs rfl rfl) (sh_A hs rfl rfl) (
      r_iload (pc2 := 89) rfl rfl rfl (
      jr_g fun h13 => r_iald (len := 30) (pc2 := 90) rfl rfl (sh_T hs rfl rfl) (sh_L hs rfl rfl) rfl h13 (
      r_iret rfl rfl)))))) (fun h8 =>
      jr_ite (fun h9 => r_sw (pc2 := 91) rfl (sw_no ic_0 h3 (rgk rfl) h4 (sw_no ic_1 h3 (rgk rfl) h5 (sw_no ic_2 h3 (rgk rfl) h6 (sw_no ic_3 h3 (rgk rfl) h7 (sw_no ic_4 h3 (rgk rfl) h8 (sw_yes ic_5 h9)))))) (
      r_aload (pc2 := 92) rfl rfl rfl (
      r_getA (pc2 := 95) rfl rfl (sh_T hs rfl rfl) (sh_A hs rfl rfl) (
      r_iload (pc2 := 96) rfl rfl rfl (
      jr_g fun h12 => r_iald (len := 30) (pc2 := 97) rfl rfl (sh_T hs rfl rfl) (sh_L hs rfl rfl) rfl h12 (
      r_iret rfl rfl)))))) (fun h9 =>
      jr_ite (fun h10 => r_sw (pc2 := 98) rfl (sw_no ic_0 h3 (rgk rfl) h4 (sw_no ic_1 h3 (rgk rfl) h5 (sw_no ic_2 h3 (rgk rfl) h6 (sw_no ic_3 h3 (rgk rfl) h7 (sw_no ic_4 h3 (rgk rfl) h8 (sw_no ic_5 h3 (rgk rfl) h9 (sw_yes ic_6 h10))))))) (
      r_aload (pc2 := 99) rfl rfl rfl (
      r_getA (pc2 := 102) rfl rfl (sh_T hs rfl rfl) (sh_A hs rfl rfl) (
      r_iload (pc2 := 103) rfl rfl rfl (
      jr_g fun h11 => r_iald (len := 30) (pc2 := 104) rfl rfl (sh_T hs rfl rfl) (sh_L hs rfl rfl) rfl h11 (
      r_iret rfl rfl)))))) (fun h10 =>
      r_sw (pc2 := 105) rfl (sw_no ic_0 h3 (rgk rfl) h4 (sw_no ic_1 h3 (rgk rfl) h5 (sw_no ic_2 h3 (rgk rfl) h6 (sw_no ic_3 h3 (rgk rfl) h7 (sw_no ic_4 h3 (rgk rfl) h8 (sw_no ic_5 h3 (rgk rfl) h9 (sw_no ic_6 h3 (rgk rfl) h10 rfl))))))) (
      r_ic (x := -100000) (pc2 := 108) rfl ic_m100000 rfl (
      r_iret rfl rfl)))))))))))))))))
theorem rf_md_corner {s : gm_S} {n m : Nat} (hs : gm_sh s n m) (d : Nat)  (g : gm_T) (a1 : Int) (a2 : Int) (a3 : Int)  : jr (pI s g) (md_corner g a1 a2 a3) (jm_cl jm_CD km_n (d + 4) 202 [.ref 44, gv a1, gv a2, gv a3] (gm_h s g)) := by
  unfold md_corner
  exact (r_ent (cd := cd_202) (n := 5) (L0 := [some (.ref 44), some (gv a1), some (gv a2), some (gv a3), none]) rfl rfl rfl rfl (
      r_aload (pc2 := 1) rfl rfl rfl (
      r_iload (pc2 := 2) rfl rfl rfl (
      r_iload (pc2 := 3) rfl rfl rfl (
      r_callVP (pc2 := 6) (args := [.ref 44, gv a1, gv a2]) (st2 := []) rfl rfl rfl rfl rfl rfl (rc_of (sh_T hs rfl rfl)) (rf_md_isEdge hs d g a1 a2 ) fun v1 => (
      jr_g fun h2 => r_ifne (pc2 := 9) (t := 13) rfl h2 rfl (fun _ =>
      r_ic (x := -100000) (pc2 := 12) rfl ic_m100000 rfl (
      r_iret rfl rfl)) (fun _ =>
      r_ic (x := 8) (pc2 := 15) rfl ic_8 rfl (
      r_iload (pc2 := 16) rfl rfl rfl (
      r_imul (pc2 := 17) rfl rfl (
      r_iload (pc2 := 18) rfl rfl rfl (
      r_iadd (pc2 := 19) rfl rfl (
      r_istoreL (L3 := fun v3 => [some (.ref 44), some (gv a1), some (gv a2), some (gv a3), some (gv v3)]) (pc2 := 21) rfl rfl (fun _ => rfl) fun v3 => (
      r_iload (pc2 := 22) rfl rfl rfl (
      jr_g fun h4 => r_ifne (pc2 := 25) (t := 35) rfl h4 rfl (fun _ =>
      r_aload (pc2 := 26) rfl rfl rfl (
      r_getA (pc2 := 29) rfl rfl (sh_T hs rfl rfl) (sh_A hs rfl rfl) (
      r_iload (pc2 := 31) rfl rfl rfl (
      jr_g fun h5 => r_iald (len := 240) (pc2 := 32) rfl rfl (sh_T hs rfl rfl) (sh_L hs rfl rfl) rfl h5 (
      r_goto (t := 68) rfl (
      r_iret rfl rfl)))))) (fun _ =>
      r_iload (pc2 := 36) rfl rfl rfl (
      r_ic (x := 1) (pc2 := 37) rfl ic_1 rfl (
      r_cne (pc2 := 40) (t := 50) rfl h4 (rgk rfl) rfl (fun _ =>
      r_aload (pc2 := 41) rfl rfl rfl (
      r_getA (pc2 := 44) rfl rfl (sh_T hs rfl rfl) (sh_A hs rfl rfl) (
      r_iload (pc2 := 46) rfl rfl rfl (
      jr_g fun h6 => r_iald (len := 240) (pc2 := 47) rfl rfl (sh_T hs rfl rfl) (sh_L hs rfl rfl) rfl h6 (
      r_goto (t := 68) rfl (
      r_iret rfl rfl)))))) (fun _ =>
      r_iload (pc2 := 51) rfl rfl rfl (
      r_ic (x := 2) (pc2 := 52) rfl ic_2 rfl (
      r_cne (pc2 := 55) (t := 65) rfl h4 (rgk rfl) rfl (fun _ =>
      r_aload (pc2 := 56) rfl rfl rfl (
      r_getA (pc2 := 59) rfl rfl (sh_T hs rfl rfl) (sh_A hs rfl rfl) (
      r_iload (pc2 := 61) rfl rfl rfl (
      jr_g fun h7 => r_iald (len := 240) (pc2 := 62) rfl rfl (sh_T hs rfl rfl) (sh_L hs rfl rfl) rfl h7 (
      r_goto (t := 68) rfl (
      r_iret rfl rfl)))))) (fun _ =>
      r_ic (x := -100000) (pc2 := 68) rfl ic_m100000 rfl (
      r_iret rfl rfl))))))))))))))))))))))
theorem rf_md_overlap {s : gm_S} {n m : Nat} (hs : gm_sh s n m) (d : Nat)  (g : gm_T) (a1 : Int) (a2 : Int) (a3 : Int) (a4 : Int) (a5 : Int)  : jr (pI s g) (md_overlap g a1 a2 a3 a4 a5) (jm_cl jm_CD km_n (d + 5) 208 [.ref 44, gv a1, gv a2, gv a3, gv a4, gv a5] (gm_h s g)) := by
  unfold md_overlap
  exact (r_ent (cd := cd_208) (n := 6) (L0 := [some (.ref 44), some (gv a1), some (gv a2), some (gv a3), some (gv a4), some (gv a5)]) rfl rfl rfl rfl (
      r_aload (pc2 := 1) rfl rfl rfl (
      r_iload (pc2 := 2) rfl rfl rfl (
      r_callVP (pc2 := 5) (args := [.ref 44, gv a1]) (st2 := []) rfl rfl rfl rfl rfl rfl (rc_of (sh_T hs rfl rfl)) (rf_md_isBit hs (d + 2) g a1 ) fun v1 => (
      jr_g fun h2 => r_ifeq (pc2 := 8) (t := 16) rfl h2 rfl (fun _ =>
      r_ic (x := -1) (pc2 := 17) rfl ic_m1 rfl (
      r_iret rfl rfl)) (fun _ =>
      r_aload (pc2 := 9) rfl rfl rfl (
      r_iload (pc2 := 10) rfl rfl rfl (
      r_callVP (pc2 := 13) (args := [.ref 44, gv a2]) (st2 := []) rfl rfl rfl rfl rfl rfl (rc_of (sh_T hs rfl rfl)) (rf_md_isBit hs (d + 2) g a2 ) fun v3 => (
      jr_g fun h4 => r_ifne (pc2 := 16) (t := 18) rfl h4 rfl (fun _ =>
      r_ic (x := -1) (pc2 := 17) rfl ic_m1 rfl (
      r_iret rfl rfl)) (fun _ =>
      r_iload (pc2 := 19) rfl rfl rfl (
      r_iload (pc2 := 20) rfl rfl rfl (
      jr_g fun h5 => r_ceq (pc2 := 23) (t := 60) rfl h5.1 h5.2 rfl (fun _ =>
      r_ic (x := -2) (pc2 := 62) rfl ic_m2 rfl (
      r_iret rfl rfl)) (fun _ =>
      r_iload (pc2 := 24) rfl rfl rfl (
      r_ic (x := 0) (pc2 := 25) rfl ic_0 rfl (
      r_ic (x := 3) (pc2 := 26) rfl ic_3 rfl (
      r_callSP (pc2 := 29) (args := [gv a3, gv 0, gv 3]) (st2 := []) rfl rfl rfl rfl rfl rfl (rf_md_in hs (d + 3) g a3 0 3 ) fun v6 => (
      jr_g fun h7 => r_ifeq (pc2 := 32) (t := 60) rfl h7 rfl (fun _ =>
      r_ic (x := -2) (pc2 := 62) rfl ic_m2 rfl (
      r_iret rfl rfl)) (fun _ =>
      r_iload (pc2 := 34) rfl rfl rfl (
      r_ic (x := -500) (pc2 := 37) rfl ic_m500 rfl (
      r_ic (x := 500) (pc2 := 40) rfl ic_500 rfl (
      r_callSP (pc2 := 43) (args := [gv a4, gv (-500), gv 500]) (st2 := []) rfl rfl rfl rfl rfl rfl (rf_md_in hs (d + 3) g a4 (-500) 500 ) fun v8 => (
      jr_g fun h9 => r_ifeq (pc2 := 46) (t := 60) rfl h9 rfl (fun _ =>
      r_ic (x := -2) (pc2 := 62) rfl ic_m2 rfl (
      r_iret rfl rfl)) (fun _ =>
      r_iload (pc2 := 48) rfl rfl rfl (
      r_ic (x := -500) (pc2 := 51) rfl ic_m500 rfl (
      r_ic (x := 500) (pc2 := 54) rfl ic_500 rfl (
      r_callSP (pc2 := 57) (args := [gv a5, gv (-500), gv 500]) (st2 := []) rfl rfl rfl rfl rfl rfl (rf_md_in hs (d + 3) g a5 (-500) 500 ) fun v10 => (
      jr_g fun h11 => r_ifne (pc2 := 60) (t := 63) rfl h11 rfl (fun _ =>
      r_ic (x := -2) (pc2 := 62) rfl ic_m2 rfl (
      r_iret rfl rfl)) (fun _ =>
      r_aload (pc2 := 64) rfl rfl rfl (
      r_iload (pc2 := 65) rfl rfl rfl (
      r_iload (pc2 := 66) rfl rfl rfl (
      r_iload (pc2 := 67) rfl rfl rfl (
      r_iload (pc2 := 69) rfl rfl rfl (
      r_iload (pc2 := 71) rfl rfl rfl (
      r_callVP (pc2 := 74) (args := [.ref 44, gv a1, gv a2, gv a3, gv a4, gv a5]) (st2 := []) rfl rfl rfl rfl rfl rfl (rc_of (sh_T hs rfl rfl)) (rf_md_overlaps hs d g a1 a2 a3 a4 a5 ) fun v12 => (
      r_iret rfl rfl)))))))))))))))))))))))))))))))))))
theorem rf_md_tolerance {s : gm_S} {n m : Nat} (hs : gm_sh s n m) (d : Nat)  (g : gm_T) (a1 : Int)  : jr (eI s) (md_tolerance g a1) (jm_cl jm_CD km_n (d + 2) 209 [.ref 44, gv a1] (gm_h s g)) := by
  unfold md_tolerance
  exact (r_ent (cd := cd_209) (n := 3) (L0 := [some (.ref 44), some (gv a1), none]) rfl rfl rfl rfl (
      r_iload (pc2 := 1) rfl rfl rfl (
      r_ic (x := 0) (pc2 := 2) rfl ic_0 rfl (
      r_ic (x := 30) (pc2 := 4) rfl ic_30 rfl (
      r_callSP (pc2 := 7) (args := [gv a1, gv 0, gv 30]) (st2 := []) rfl rfl rfl rfl rfl rfl (rf_md_in hs d g a1 0 30 ) fun v1 => (
      jr_g fun h2 => r_ifne (pc2 := 10) (t := 13) rfl h2 rfl (fun _ =>
      r_ic (x := -2) (pc2 := 12) rfl ic_m2 rfl (
      r_iret rfl rfl)) (fun _ =>
      r_aload (pc2 := 14) rfl rfl rfl (
      r_getI (pc2 := 17) rfl rfl (sh_T hs rfl rfl) (
      r_istoreL (L3 := fun v3 => [some (.ref 44), some (gv a1), some (gv v3)]) (pc2 := 18) rfl rfl (fun _ => rfl) fun v3 => (
      r_aload (pc2 := 19) rfl rfl rfl (
      r_iload (pc2 := 20) rfl rfl rfl (
      r_putI (pc2 := 23) rfl rfl (sh_T hs rfl rfl) fun g4 => (
      r_iload (pc2 := 24) rfl rfl rfl (
      r_iret rfl rfl))))))))))))))
theorem rf_md_isFit {s : gm_S} {n m : Nat} (hs : gm_sh s n m) (d : Nat)  (g : gm_T) (a1 : Int) (a2 : Int) (a3 : Int) (a4 : Int)  : jr (pI s g) (md_isFit g a1 a2 a3 a4) (jm_cl jm_CD km_n (d + 2) 214 [.ref 44, gv a1, gv a2, gv a3, gv a4] (gm_h s g)) := by
  unfold md_isFit
  exact (r_ent (cd := cd_214) (n := 6) (L0 := [some (.ref 44), some (gv a1), some (gv a2), some (gv a3), some (gv a4), none]) rfl rfl rfl rfl (
      r_aload (pc2 := 1) rfl rfl rfl (
      r_iload (pc2 := 2) rfl rfl rfl (
      r_iload (pc2 := 3) rfl rfl rfl (
      r_iload (pc2 := 4) rfl rfl rfl (
      r_iload (pc2 := 6) rfl rfl rfl (
      r_callVP (pc2 := 9) (args := [.ref 44, gv a1, gv a2, gv a3, gv a4]) (st2 := []) rfl rfl rfl rfl rfl rfl (rc_of (sh_T hs rfl rfl)) (rf_md_entry hs d g a1 a2 a3 a4 ) fun v1 => (
      r_istore (L2 := [some (.ref 44), some (gv a1), some (gv a2), some (gv a3), some (gv a4), some (gv v1)]) (pc2 := 11) rfl rfl rfl (
      r_iload (pc2 := 12) rfl rfl rfl (
      r_iload (pc2 := 13) rfl rfl rfl (
      jr_g fun h2 => r_ceq (pc2 := 16) (t := 45) rfl h2.1 h2.2 rfl (fun _ =>
      r_ic (x := 0) (pc2 := 46) rfl ic_0 rfl (
      r_zret rfl (by decide) rfl)) (fun _ =>
      r_aload (pc2 := 17) rfl rfl rfl (
      r_getA (pc2 := 20) rfl rfl (sh_T hs rfl rfl) (sh_A hs rfl rfl) (
      r_iload (pc2 := 22) rfl rfl rfl (
      jr_g fun h3 => r_iald (len := 57600) (pc2 := 23) rfl rfl (sh_T hs rfl rfl) (sh_L hs rfl rfl) rfl h3 (
      r_ic (x := -1) (pc2 := 24) rfl ic_m1 rfl (
      jr_g fun h4 => r_ceq (pc2 := 27) (t := 45) rfl h4 (rgk rfl) rfl (fun _ =>
      r_ic (x := 0) (pc2 := 46) rfl ic_0 rfl (
      r_zret rfl (by decide) rfl)) (fun _ =>
      r_aload (pc2 := 28) rfl rfl rfl (
      r_getA (pc2 := 31) rfl rfl (sh_T hs rfl rfl) (sh_A hs rfl rfl) (
      r_iload (pc2 := 33) rfl rfl rfl (
      r_iald (len := 57600) (pc2 := 34) rfl rfl (sh_T hs rfl rfl) (sh_L hs rfl rfl) rfl h3 (
      r_aload (pc2 := 35) rfl rfl rfl (
      r_getI (pc2 := 38) rfl rfl (sh_T hs rfl rfl) (
      jr_g fun h5 => r_cgt (pc2 := 41) (t := 45) rfl h5.1 h5.2 rfl (fun _ =>
      r_ic (x := 1) (pc2 := 42) rfl ic_1 rfl (
      r_goto (t := 46) rfl (
      r_zret rfl (by decide) rfl))) (fun _ =>
      r_ic (x := 0) (pc2 := 46) rfl ic_0 rfl (
      r_zret rfl (by decide) rfl))))))))))))))))))))))))))
theorem rf_md_scoreOf {s : gm_S} {n m : Nat} (hs : gm_sh s n m) (d : Nat)  (g : gm_T) (a1 : Int) (a2 : Int) (a3 : Int) (a4 : Int)  : jr (pI s g) (md_scoreOf g a1 a2 a3 a4) (jm_cl jm_CD km_n (d + 2) 215 [.ref 44, gv a1, gv a2, gv a3, gv a4] (gm_h s g)) := by
  unfold md_scoreOf
  exact (r_ent (cd := cd_215) (n := 7) (L0 := [some (.ref 44), some (gv a1), some (gv a2), some (gv a3), some (gv a4), none, none]) rfl rfl rfl rfl (
      r_aload (pc2 := 1) rfl rfl rfl (
      r_getA (pc2 := 4) rfl rfl (sh_T hs rfl rfl) (sh_A hs rfl rfl) (
      r_iload (pc2 := 5) rfl rfl rfl (
      jr_g fun h1 => r_iald (len := 30) (pc2 := 6) rfl rfl (sh_T hs rfl rfl) (sh_L hs rfl rfl) rfl h1 (
      r_aload (pc2 := 7) rfl rfl rfl (
      r_getA (pc2 := 10) rfl rfl (sh_T hs rfl rfl) (sh_A hs rfl rfl) (
      r_iload (pc2 := 11) rfl rfl rfl (
      jr_g fun h2 => r_iald (len := 30) (pc2 := 12) rfl rfl (sh_T hs rfl rfl) (sh_L hs rfl rfl) rfl h2 (
      r_b1 (R1 := (fun (q : Int) (c : Option jm_R) => c = jm_sup cd_215 (jm_cl jm_CD km_n (d + 1)) (44, [some (.ref 44), some (gv a1), some (gv a2), some (gv a3), some (gv a4), none, none], [gv q], gm_h s g))) (
      jr_g fun h4 => r_cge (pc2 := 15) (t := 31) rfl h4.1 h4.2 rfl (fun _ =>
      r_aload (pc2 := 16) rfl rfl rfl (
      r_getA (pc2 := 19) rfl rfl (sh_T hs rfl rfl) (sh_A hs rfl rfl) (
      r_iload (pc2 := 20) rfl rfl rfl (
      r_iald (len := 30) (pc2 := 21) rfl rfl (sh_T hs rfl rfl) (sh_L hs rfl rfl) rfl h2 (
      r_aload (pc2 := 22) rfl rfl rfl (
      r_getA (pc2 := 25) rfl rfl (sh_T hs rfl rfl) (sh_A hs rfl rfl) (
      r_iload (pc2 := 26) rfl rfl rfl (
      r_iald (len := 30) (pc2 := 27) rfl rfl (sh_T hs rfl rfl) (sh_L hs rfl rfl) rfl h1 (
      r_isub (pc2 := 28) rfl rfl (
      r_goto (t := 44) rfl (
      jr_leaf rfl))))))))))) (fun _ =>
      r_aload (pc2 := 32) rfl rfl rfl (
      r_getA (pc2 := 35) rfl rfl (sh_T hs rfl rfl) (sh_A hs rfl rfl) (
      r_iload (pc2 := 36) rfl rfl rfl (
      r_iald (len := 30) (pc2 := 37) rfl rfl (sh_T hs rfl rfl) (sh_L hs rfl rfl) rfl h1 (
      r_aload (pc2 := 38) rfl rfl rfl (
      r_getA (pc2 := 41) rfl rfl (sh_T hs rfl rfl) (sh_A hs rfl rfl) (
      r_iload (pc2 := 42) rfl rfl rfl (
      r_iald (len := 30) (pc2 := 43) rfl rfl (sh_T hs rfl rfl) (sh_L hs rfl rfl) rfl h2 (
      r_isub (pc2 := 44) rfl rfl (
      jr_leaf rfl))))))))))) (fun v3 c h => match c, h with | _, rfl => (
      r_istore (L2 := [some (.ref 44), some (gv a1), some (gv a2), some (gv a3), some (gv a4), some (gv v3), none]) (pc2 := 46) rfl rfl rfl (
      r_aload (pc2 := 47) rfl rfl rfl (
      r_getA (pc2 := 50) rfl rfl (sh_T hs rfl rfl) (sh_A hs rfl rfl) (
      r_iload (pc2 := 51) rfl rfl rfl (
      r_iald (len := 30) (pc2 := 52) rfl rfl (sh_T hs rfl rfl) (sh_L hs rfl rfl) rfl h1 (
      r_ic (x := -1) (pc2 := 53) rfl ic_m1 rfl (
      r_b1 (R1 := (fun (q : Int) (c : Option jm_R) => c = jm_sup cd_215 (jm_cl jm_CD km_n (d + 1)) (105, [some (.ref 44), some (gv a1), some (gv a2), some (gv a3), some (gv a4), some (gv v3), none], [gv q], gm_h s g))) (
      jr_g fun h6 => r_ceq (pc2 := 56) (t := 104) rfl h6 (rgk rfl) rfl (fun _ =>
      r_ic (x := 0) (pc2 := 105) rfl ic_0 rfl (
      jr_leaf rfl)) (fun _ =>
      r_aload (pc2 := 57) rfl rfl rfl (
      r_getA (pc2 := 60) rfl rfl (sh_T hs rfl rfl) (sh_A hs rfl rfl) (
      r_iload (pc2 := 61) rfl rfl rfl (
      r_iald (len := 30) (pc2 := 62) rfl rfl (sh_T hs rfl rfl) (sh_L hs rfl rfl) rfl h2 (
      r_ic (x := -1) (pc2 := 63) rfl ic_m1 rfl (
      jr_g fun h7 => r_ceq (pc2 := 66) (t := 104) rfl h7 (rgk rfl) rfl (fun _ =>
      r_ic (x := 0) (pc2 := 105) rfl ic_0 rfl (
      jr_leaf rfl)) (fun _ =>
      r_aload (pc2 := 67) rfl rfl rfl (
      r_getA (pc2 := 70) rfl rfl (sh_T hs rfl rfl) (sh_A hs rfl rfl) (
      r_iload (pc2 := 71) rfl rfl rfl (
      r_iald (len := 30) (pc2 := 72) rfl rfl (sh_T hs rfl rfl) (sh_L hs rfl rfl) rfl h1 (
      r_aload (pc2 := 73) rfl rfl rfl (
      r_getA (pc2 := 76) rfl rfl (sh_T hs rfl rfl) (sh_A hs rfl rfl) (
      r_iload (pc2 := 77) rfl rfl rfl (
      r_iald (len := 30) (pc2 := 78) rfl rfl (sh_T hs rfl rfl) (sh_L hs rfl rfl) rfl h2 (
      r_ic (x := 2) (pc2 := 79) rfl ic_2 rfl (
      r_aload (pc2 := 80) rfl rfl rfl (
      r_getA (pc2 := 83) rfl rfl (sh_T hs rfl rfl) (sh_A hs rfl rfl) (
      r_aload (pc2 := 84) rfl rfl rfl (
      r_iload (pc2 := 85) rfl rfl rfl (
      r_iload (pc2 := 86) rfl rfl rfl (
      r_iload (pc2 := 87) rfl rfl rfl (
      r_iload (pc2 := 89) rfl rfl rfl (
      r_callVP (pc2 := 92) (args := [.ref 44, gv a1, gv a2, gv a3, gv a4]) (st2 := [.ref 63, gv 2, gv (gm_I g 55 a3.toNat), gv (gm_I g 55 a1.toNat)]) rfl rfl rfl rfl rfl rfl (rc_of (sh_T hs rfl rfl)) (rf_md_entry hs d g a1 a2 a3 a4 ) fun v8 => (
      jr_g fun h9 => r_iald (len := 57600) (pc2 := 93) rfl rfl (sh_T hs rfl rfl) (sh_L hs rfl rfl) rfl h9 (
      r_imul (pc2 := 94) rfl rfl (
      r_iadd (pc2 := 95) rfl rfl (
      r_ic (x := 4) (pc2 := 96) rfl ic_4 rfl (
      jr_g fun hd => r_irem (pc2 := 97) rfl rfl hd ⟨by decide, by decide⟩ (
      jr_g fun h10 => r_cne (pc2 := 100) (t := 104) rfl h6 h10 rfl (fun _ =>
      r_ic (x := 1) (pc2 := 101) rfl ic_1 rfl (
      r_goto (t := 105) rfl (
      jr_leaf rfl))) (fun _ =>
      r_ic (x := 0) (pc2 := 105) rfl ic_0 rfl (
      jr_leaf rfl)))))))))))))))))))))))))))))))) (fun v5 c h => match c, h with | _, rfl => (
      r_istore (L2 := [some (.ref 44), some (gv a1), some (gv a2), some (gv a3), some (gv a4), some (gv v3), some (gv v5)]) (pc2 := 107) rfl rfl rfl (
      r_ic (x := 2) (pc2 := 108) rfl ic_2 rfl (
      r_aload (pc2 := 109) rfl rfl rfl (
      r_getA (pc2 := 112) rfl rfl (sh_T hs rfl rfl) (sh_A hs rfl rfl) (
      r_ic (x := 10) (pc2 := 114) rfl ic_10 rfl (
      r_aload (pc2 := 115) rfl rfl rfl (
      r_getA (pc2 := 118) rfl rfl (sh_T hs rfl rfl) (sh_A hs rfl rfl) (
      r_ic (x := 8) (pc2 := 120) rfl ic_8 rfl (
      r_iload (pc2 := 121) rfl rfl rfl (
      r_imul (pc2 := 122) rfl rfl (
      r_iload (pc2 := 123) rfl rfl rfl (
      r_iadd (pc2 := 124) rfl rfl (
      jr_g fun h11 => r_iald (len := 240) (pc2 := 125) rfl rfl (sh_T hs rfl rfl) (sh_L hs rfl rfl) rfl h11 (
      r_imul (pc2 := 126) rfl rfl (
      r_aload (pc2 := 127) rfl rfl rfl (
      r_getA (pc2 := 130) rfl rfl (sh_T hs rfl rfl) (sh_A hs rfl rfl) (
      r_ic (x := 8) (pc2 := 132) rfl ic_8 rfl (
      r_iload (pc2 := 133) rfl rfl rfl (
      r_imul (pc2 := 134) rfl rfl (
      r_iload (pc2 := 136) rfl rfl rfl (
      r_iadd (pc2 := 137) rfl rfl (
      jr_g fun h12 => r_iald (len := 240) (pc2 := 138) rfl rfl (sh_T hs rfl rfl) (sh_L hs rfl rfl) rfl h12 (
      r_iadd (pc2 := 139) rfl rfl (
      jr_g fun h13 => r_iald (len := 100) (pc2 := 140) rfl rfl (sh_T hs rfl rfl) (sh_L hs rfl rfl) rfl h13 (
      r_imul (pc2 := 141) rfl rfl (
      r_iload (pc2 := 143) rfl rfl rfl (
      r_ic (x := 9) (pc2 := 145) rfl ic_9 rfl (
      r_b1 (R1 := (fun (q : Int) (c : Option jm_R) => c = jm_sup cd_215 (jm_cl jm_CD km_n (d + 1)) (157, [some (.ref 44), some (gv a1), some (gv a2), some (gv a3), some (gv a4), some (gv v3), some (gv v5)], [gv q, gv (2 * (gm_I g 62 (((10 * (gm_I g 49 (((8 * a1) + a2)).toNat)) + (gm_I g 49 (((8 * a3) + a4)).toNat))).toNat))], gm_h s g))) (
      jr_g fun h15 => r_cge (pc2 := 148) (t := 156) rfl h15 (rgk rfl) rfl (fun _ =>
      r_ic (x := 9) (pc2 := 150) rfl ic_9 rfl (
      r_iload (pc2 := 152) rfl rfl rfl (
      r_isub (pc2 := 153) rfl rfl (
      r_goto (t := 157) rfl (
      jr_leaf rfl))))) (fun _ =>
      r_ic (x := 0) (pc2 := 157) rfl ic_0 rfl (
      jr_leaf rfl))) (fun v14 c h => match c, h with | _, rfl => (
      r_iadd (pc2 := 158) rfl rfl (
      r_iload (pc2 := 160) rfl rfl rfl (
      jr_g fun h16 => r_ifeq (pc2 := 163) (t := 167) rfl h16 rfl (fun _ =>
      r_ic (x := 0) (pc2 := 168) rfl ic_0 rfl (
      r_iadd (pc2 := 169) rfl rfl (
      r_iret rfl rfl))) (fun _ =>
      r_ic (x := 5) (pc2 := 164) rfl ic_5 rfl (
      r_goto (t := 168) rfl (
      r_iadd (pc2 := 169) rfl rfl (
      r_iret rfl rfl)))))))))))))))))))))))))))))))))))))))))))))))))))))))
theorem rf_md_likeness {s : gm_S} {n m : Nat} (hs : gm_sh s n m) (d : Nat)  (g : gm_T) (a1 : Int) (a2 : Int) (a3 : Int)  : jr (eI s) (md_likeness g a1 a2 a3) (jm_cl jm_CD km_n (d + 2) 216 [.ref 44, gv a1, gv a2, gv a3] (gm_h s g)) := by
  unfold md_likeness
  exact (r_ent (cd := cd_216) (n := 5) (L0 := [some (.ref 44), some (gv a1), some (gv a2), some (gv a3), none]) rfl rfl rfl rfl (
      r_iload (pc2 := 1) rfl rfl rfl (
      r_ic (x := 0) (pc2 := 2) rfl ic_0 rfl (
      r_ic (x := 9) (pc2 := 4) rfl ic_9 rfl (
      r_callSP (pc2 := 7) (args := [gv a1, gv 0, gv 9]) (st2 := []) rfl rfl rfl rfl rfl rfl (rf_md_in hs d g a1 0 9 ) fun v1 => (
      jr_g fun h2 => r_ifeq (pc2 := 10) (t := 20) rfl h2 rfl (fun _ =>
      r_ic (x := -1) (pc2 := 21) rfl ic_m1 rfl (
      r_iret rfl rfl)) (fun _ =>
      r_iload (pc2 := 11) rfl rfl rfl (
      r_ic (x := 0) (pc2 := 12) rfl ic_0 rfl (
      r_ic (x := 9) (pc2 := 14) rfl ic_9 rfl (
      r_callSP (pc2 := 17) (args := [gv a2, gv 0, gv 9]) (st2 := []) rfl rfl rfl rfl rfl rfl (rf_md_in hs d g a2 0 9 ) fun v3 => (
      jr_g fun h4 => r_ifne (pc2 := 20) (t := 22) rfl h4 rfl (fun _ =>
      r_ic (x := -1) (pc2 := 21) rfl ic_m1 rfl (
      r_iret rfl rfl)) (fun _ =>
      r_iload (pc2 := 23) rfl rfl rfl (
      r_ic (x := 0) (pc2 := 24) rfl ic_0 rfl (
      r_ic (x := 9) (pc2 := 26) rfl ic_9 rfl (
      r_callSP (pc2 := 29) (args := [gv a3, gv 0, gv 9]) (st2 := []) rfl rfl rfl rfl rfl rfl (rf_md_in hs d g a3 0 9 ) fun v5 => (
      jr_g fun h6 => r_ifne (pc2 := 32) (t := 35) rfl h6 rfl (fun _ =>
      r_ic (x := -2) (pc2 := 34) rfl ic_m2 rfl (
      r_iret rfl rfl)) (fun _ =>
      r_aload (pc2 := 36) rfl rfl rfl (
      r_getA (pc2 := 39) rfl rfl (sh_T hs rfl rfl) (sh_A hs rfl rfl) (
      r_ic (x := 10) (pc2 := 41) rfl ic_10 rfl (
      r_iload (pc2 := 42) rfl rfl rfl (
      r_imul (pc2 := 43) rfl rfl (
      r_iload (pc2 := 44) rfl rfl rfl (
      r_iadd (pc2 := 45) rfl rfl (
      jr_g fun h7 => r_iald (len := 100) (pc2 := 46) rfl rfl (sh_T hs rfl rfl) (sh_L hs rfl rfl) rfl h7 (
      r_istoreL (L3 := fun v8 => [some (.ref 44), some (gv a1), some (gv a2), some (gv a3), some (gv v8)]) (pc2 := 48) rfl rfl (fun _ => rfl) fun v8 => (
      r_aload (pc2 := 49) rfl rfl rfl (
      r_getA (pc2 := 52) rfl rfl (sh_T hs rfl rfl) (sh_A hs rfl rfl) (
      r_ic (x := 10) (pc2 := 54) rfl ic_10 rfl (
      r_iload (pc2 := 55) rfl rfl rfl (
      r_imul (pc2 := 56) rfl rfl (
      r_iload (pc2 := 57) rfl rfl rfl (
      r_iadd (pc2 := 58) rfl rfl (
      r_iload (pc2 := 59) rfl rfl rfl (
      r_iast (len := 100) (pc2 := 60) rfl rfl (sh_T hs rfl rfl) (sh_L hs rfl rfl) rfl h7 fun g9 => (
      r_aload (pc2 := 61) rfl rfl rfl (
      r_getA (pc2 := 64) rfl rfl (sh_T hs rfl rfl) (sh_A hs rfl rfl) (
      r_ic (x := 10) (pc2 := 66) rfl ic_10 rfl (
      r_iload (pc2 := 67) rfl rfl rfl (
      r_imul (pc2 := 68) rfl rfl (
      r_iload (pc2 := 69) rfl rfl rfl (
      r_iadd (pc2 := 70) rfl rfl (
      r_iload (pc2 := 71) rfl rfl rfl (
      jr_g fun h11 => r_iast (len := 100) (pc2 := 72) rfl rfl (sh_T hs rfl rfl) (sh_L hs rfl rfl) rfl h11 fun g10 => (
      r_iload (pc2 := 74) rfl rfl rfl (
      r_iret rfl rfl)))))))))))))))))))))))))))))))))))))))))))))
theorem rf_md_score {s : gm_S} {n m : Nat} (hs : gm_sh s n m) (d : Nat)  (g : gm_T) (a1 : Int) (a2 : Int) (a3 : Int) (a4 : Int)  : jr (pI s g) (md_score g a1 a2 a3 a4) (jm_cl jm_CD km_n (d + 4) 217 [.ref 44, gv a1, gv a2, gv a3, gv a4] (gm_h s g)) := by
  unfold md_score
  exact (r_ent (cd := cd_217) (n := 5) (L0 := [some (.ref 44), some (gv a1), some (gv a2), some (gv a3), some (gv a4)]) rfl rfl rfl rfl (
      r_aload (pc2 := 1) rfl rfl rfl (
      r_iload (pc2 := 2) rfl rfl rfl (
      r_iload (pc2 := 3) rfl rfl rfl (
      r_callVP (pc2 := 6) (args := [.ref 44, gv a1, gv a2]) (st2 := []) rfl rfl rfl rfl rfl rfl (rc_of (sh_T hs rfl rfl)) (rf_md_isEdge hs d g a1 a2 ) fun v1 => (
      jr_g fun h2 => r_ifeq (pc2 := 9) (t := 19) rfl h2 rfl (fun _ =>
      r_ic (x := -1) (pc2 := 20) rfl ic_m1 rfl (
      r_iret rfl rfl)) (fun _ =>
      r_aload (pc2 := 10) rfl rfl rfl (
      r_iload (pc2 := 11) rfl rfl rfl (
      r_iload (pc2 := 13) rfl rfl rfl (
      r_callVP (pc2 := 16) (args := [.ref 44, gv a3, gv a4]) (st2 := []) rfl rfl rfl rfl rfl rfl (rc_of (sh_T hs rfl rfl)) (rf_md_isEdge hs d g a3 a4 ) fun v3 => (
      jr_g fun h4 => r_ifne (pc2 := 19) (t := 21) rfl h4 rfl (fun _ =>
      r_ic (x := -1) (pc2 := 20) rfl ic_m1 rfl (
      r_iret rfl rfl)) (fun _ =>
      r_iload (pc2 := 22) rfl rfl rfl (
      r_iload (pc2 := 23) rfl rfl rfl (
      jr_g fun h5 => r_cne (pc2 := 26) (t := 31) rfl h5.1 h5.2 rfl (fun _ =>
      r_ic (x := -2) (pc2 := 28) rfl ic_m2 rfl (
      r_goto (t := 57) rfl (
      r_iret rfl rfl))) (fun _ =>
      r_aload (pc2 := 32) rfl rfl rfl (
      r_iload (pc2 := 33) rfl rfl rfl (
      r_iload (pc2 := 34) rfl rfl rfl (
      r_iload (pc2 := 35) rfl rfl rfl (
      r_iload (pc2 := 37) rfl rfl rfl (
      r_callVP (pc2 := 40) (args := [.ref 44, gv a1, gv a2, gv a3, gv a4]) (st2 := []) rfl rfl rfl rfl rfl rfl (rc_of (sh_T hs rfl rfl)) (rf_md_isFit hs (d + 1) g a1 a2 a3 a4 ) fun v6 => (
      jr_g fun h7 => r_ifeq (pc2 := 43) (t := 55) rfl h7 rfl (fun _ =>
      r_ic (x := -3) (pc2 := 57) rfl ic_m3 rfl (
      r_iret rfl rfl)) (fun _ =>
      r_aload (pc2 := 44) rfl rfl rfl (
      r_iload (pc2 := 45) rfl rfl rfl (
      r_iload (pc2 := 46) rfl rfl rfl (
      r_iload (pc2 := 47) rfl rfl rfl (
      r_iload (pc2 := 49) rfl rfl rfl (
      r_callVP (pc2 := 52) (args := [.ref 44, gv a1, gv a2, gv a3, gv a4]) (st2 := []) rfl rfl rfl rfl rfl rfl (rc_of (sh_T hs rfl rfl)) (rf_md_scoreOf hs (d + 1) g a1 a2 a3 a4 ) fun v8 => (
      r_goto (t := 57) rfl (
      r_iret rfl rfl)))))))))))))))))))))))))))))
theorem rf_md_turned {s : gm_S} {n m : Nat} (hs : gm_sh s n m) (d : Nat)  (g : gm_T) (a1 : Int) (a2 : Int) (a3 : Int) (a4 : Int) (a5 : Int)  : jr (pI s g) (md_turned g a1 a2 a3 a4 a5) (jm_cl jm_CD km_n (d + 4) 218 [.ref 44, gv a1, gv a2, gv a3, gv a4, gv a5] (gm_h s g)) := by
  unfold md_turned
  exact (r_ent (cd := cd_218) (n := 6) (L0 := [some (.ref 44), some (gv a1), some (gv a2), some (gv a3), some (gv a4), some (gv a5)]) rfl rfl rfl rfl (
      r_aload (pc2 := 1) rfl rfl rfl (
      r_iload (pc2 := 2) rfl rfl rfl (
      r_iload (pc2 := 3) rfl rfl rfl (
      r_callVP (pc2 := 6) (args := [.ref 44, gv a1, gv a2]) (st2 := []) rfl rfl rfl rfl rfl rfl (rc_of (sh_T hs rfl rfl)) (rf_md_isEdge hs d g a1 a2 ) fun v1 => (
      jr_g fun h2 => r_ifeq (pc2 := 9) (t := 41) rfl h2 rfl (fun _ =>
      r_ic (x := -100000) (pc2 := 44) rfl ic_m100000 rfl (
      r_iret rfl rfl)) (fun _ =>
      r_aload (pc2 := 10) rfl rfl rfl (
      r_iload (pc2 := 11) rfl rfl rfl (
      r_iload (pc2 := 13) rfl rfl rfl (
      r_callVP (pc2 := 16) (args := [.ref 44, gv a3, gv a4]) (st2 := []) rfl rfl rfl rfl rfl rfl (rc_of (sh_T hs rfl rfl)) (rf_md_isEdge hs d g a3 a4 ) fun v3 => (
      jr_g fun h4 => r_ifeq (pc2 := 19) (t := 41) rfl h4 rfl (fun _ =>
      r_ic (x := -100000) (pc2 := 44) rfl ic_m100000 rfl (
      r_iret rfl rfl)) (fun _ =>
      r_iload (pc2 := 21) rfl rfl rfl (
      r_ic (x := 0) (pc2 := 22) rfl ic_0 rfl (
      r_ic (x := 2) (pc2 := 23) rfl ic_2 rfl (
      r_callSP (pc2 := 26) (args := [gv a5, gv 0, gv 2]) (st2 := []) rfl rfl rfl rfl rfl rfl (rf_md_in hs (d + 2) g a5 0 2 ) fun v5 => (
      jr_g fun h6 => r_ifeq (pc2 := 29) (t := 41) rfl h6 rfl (fun _ =>
      r_ic (x := -100000) (pc2 := 44) rfl ic_m100000 rfl (
      r_iret rfl rfl)) (fun _ =>
      r_aload (pc2 := 30) rfl rfl rfl (
      r_iload (pc2 := 31) rfl rfl rfl (
      r_iload (pc2 := 32) rfl rfl rfl (
      r_iload (pc2 := 33) rfl rfl rfl (
      r_iload (pc2 := 35) rfl rfl rfl (
      r_callVP (pc2 := 38) (args := [.ref 44, gv a1, gv a2, gv a3, gv a4]) (st2 := []) rfl rfl rfl rfl rfl rfl (rc_of (sh_T hs rfl rfl)) (rf_md_isFit hs (d + 1) g a1 a2 a3 a4 ) fun v7 => (
      jr_g fun h8 => r_ifne (pc2 := 41) (t := 45) rfl h8 rfl (fun _ =>
      r_ic (x := -100000) (pc2 := 44) rfl ic_m100000 rfl (
      r_iret rfl rfl)) (fun _ =>
      r_iload (pc2 := 47) rfl rfl rfl (
      jr_g fun h9 => r_ifne (pc2 := 50) (t := 67) rfl h9 rfl (fun _ =>
      r_aload (pc2 := 51) rfl rfl rfl (
      r_getA (pc2 := 54) rfl rfl (sh_T hs rfl rfl) (sh_A hs rfl rfl) (
      r_aload (pc2 := 55) rfl rfl rfl (
      r_iload (pc2 := 56) rfl rfl rfl (
      r_iload (pc2 := 57) rfl rfl rfl (
      r_iload (pc2 := 58) rfl rfl rfl (
      r_iload (pc2 := 60) rfl rfl rfl (
      r_callVP (pc2 := 63) (args := [.ref 44, gv a1, gv a2, gv a3, gv a4]) (st2 := [.ref 63]) rfl rfl rfl rfl rfl rfl (rc_of (sh_T hs rfl rfl)) (rf_md_entry hs (d + 2) g a1 a2 a3 a4 ) fun v10 => (
      jr_g fun h11 => r_iald (len := 57600) (pc2 := 64) rfl rfl (sh_T hs rfl rfl) (sh_L hs rfl rfl) rfl h11 (
      r_goto (t := 94) rfl (
      r_iret rfl rfl))))))))))) (fun _ =>
      r_iload (pc2 := 69) rfl rfl rfl (
      r_ic (x := 1) (pc2 := 70) rfl ic_1 rfl (
      r_cne (pc2 := 73) (t := 85) rfl h9 (rgk rfl) rfl (fun _ =>
      r_aload (pc2 := 74) rfl rfl rfl (
      r_iload (pc2 := 75) rfl rfl rfl (
      r_iload (pc2 := 76) rfl rfl rfl (
      r_iload (pc2 := 77) rfl rfl rfl (
      r_iload (pc2 := 79) rfl rfl rfl (
      r_callVP (pc2 := 82) (args := [.ref 44, gv a1, gv a2, gv a3, gv a4]) (st2 := []) rfl rfl rfl rfl rfl rfl (rc_of (sh_T hs rfl rfl)) (rf_md_fitX hs (d + 1) g a1 a2 a3 a4 ) fun v12 => (
      r_goto (t := 94) rfl (
      r_iret rfl rfl)))))))) (fun _ =>
      r_aload (pc2 := 86) rfl rfl rfl (
      r_iload (pc2 := 87) rfl rfl rfl (
      r_iload (pc2 := 88) rfl rfl rfl (
      r_iload (pc2 := 89) rfl rfl rfl (
      r_iload (pc2 := 91) rfl rfl rfl (
      r_callVP (pc2 := 94) (args := [.ref 44, gv a1, gv a2, gv a3, gv a4]) (st2 := []) rfl rfl rfl rfl rfl rfl (rc_of (sh_T hs rfl rfl)) (rf_md_fitY hs (d + 1) g a1 a2 a3 a4 ) fun v13 => (
      r_iret rfl rfl)))))))))))))))))))))))))))))))))))
theorem rl_md_lists_l63 {s : gm_S} {n m : Nat} (hs : gm_sh s n m) (d : Nat)  (c35 : Int) (c36 : Int) (c37 : Int) (c38 : Int) (c39 : Int)  : ∀ (fuel : Nat) (v40 : Int) (g41 : gm_T), jr (fun (q : Int × gm_T) (c : Option jm_R) => c = jm_sup cd_219 (jm_cl jm_CD km_n (d + 2)) (120, [some (.ref 44), some (gv c35), some (gv c36), some (gv c37), some (gv c38), some (gv c39), some (gv q.1)], [], gm_h s q.2)) (md_lists_l63  c35 c36 c37 c38 c39 fuel v40 g41) (jm_sup cd_219 (jm_cl jm_CD km_n (d + 2)) (63, [some (.ref 44), some (gv c35), some (gv c36), some (gv c37), some (gv c38), some (gv c39), some (gv v40)], [], gm_h s g41)) := by
  intro fuel
  induction fuel with
  | zero => intros; exact jr_none
  | succ fuel ih =>
    intro v40 g41  
    unfold md_lists_l63
    exact (
      r_iload (pc2 := 65) rfl rfl rfl (
      jr_g fun h44 => r_ifle (pc2 := 68) (t := 120) rfl h44 rfl (fun _ =>
      jr_leaf rfl) (fun _ =>
      r_aload (pc2 := 69) rfl rfl rfl (
      r_getA (pc2 := 72) rfl rfl (sh_T hs rfl rfl) (sh_A hs rfl rfl) (
      r_iload (pc2 := 74) rfl rfl rfl (
      r_ic (x := 1) (pc2 := 75) rfl ic_1 rfl (
      r_isub (pc2 := 76) rfl rfl (
      jr_g fun h45 => r_iald (len := 240) (pc2 := 77) rfl rfl (sh_T hs rfl rfl) (sh_L hs rfl rfl) rfl h45 (
      r_iload (pc2 := 79) rfl rfl rfl (
      jr_g fun h46 => r_cge (pc2 := 82) (t := 120) rfl h46.1 h46.2 rfl (fun _ =>
      r_aload (pc2 := 83) rfl rfl rfl (
      r_getA (pc2 := 86) rfl rfl (sh_T hs rfl rfl) (sh_A hs rfl rfl) (
      r_iload (pc2 := 88) rfl rfl rfl (
      r_aload (pc2 := 89) rfl rfl rfl (
      r_getA (pc2 := 92) rfl rfl (sh_T hs rfl rfl) (sh_A hs rfl rfl) (
      r_iload (pc2 := 94) rfl rfl rfl (
      r_ic (x := 1) (pc2 := 95) rfl ic_1 rfl (
      r_isub (pc2 := 96) rfl rfl (
      r_iald (len := 240) (pc2 := 97) rfl rfl (sh_T hs rfl rfl) (sh_L hs rfl rfl) rfl h45 (
      jr_g fun h48 => r_iast (len := 240) (pc2 := 98) rfl rfl (sh_T hs rfl rfl) (sh_L hs rfl rfl) rfl h48 fun g47 => (
      r_aload (pc2 := 99) rfl rfl rfl (
      r_getA (pc2 := 102) rfl rfl (sh_T hs rfl rfl) (sh_A hs rfl rfl) (
      r_iload (pc2 := 104) rfl rfl rfl (
      r_aload (pc2 := 105) rfl rfl rfl (
      r_getA (pc2 := 108) rfl rfl (sh_T hs rfl rfl) (sh_A hs rfl rfl) (
      r_iload (pc2 := 110) rfl rfl rfl (
      r_ic (x := 1) (pc2 := 111) rfl ic_1 rfl (
      r_isub (pc2 := 112) rfl rfl (
      r_iald (len := 240) (pc2 := 113) rfl rfl (sh_T hs rfl rfl) (sh_L hs rfl rfl) rfl h45 (
      r_iast (len := 240) (pc2 := 114) rfl rfl (sh_T hs rfl rfl) (sh_L hs rfl rfl) rfl h48 fun g49 => (
      r_iinc (kk := -1) (L2 := [some (.ref 44), some (gv c35), some (gv c36), some (gv c37), some (gv c38), some (gv c39), some (gv (v40 + (-1)))]) (pc2 := 117) rfl ic_m1 rfl rfl rfl (
      r_goto (t := 63) rfl (
      ih (v40 + (-1)) g49))))))))))))))))))))))) (fun _ =>
      jr_leaf rfl)))))))))))
theorem rl_md_lists_l18 {s : gm_S} {n m : Nat} (hs : gm_sh s n m) (d : Nat)  (c15 : Int) (c16 : Int) (c17 : Int)  : ∀ (fuel : Nat) (v18 : Int) (g21 : gm_T) (j19 : Option Value) (j20 : Option Value) (hj19 : jm_lg j19 = false) (hj20 : jm_lg j20 = false), jr (fun (q : gm_T) (c : Option jm_R) => ∃ (j22 : Option Value) (j23 : Option Value) (j24 : Option Value), jm_lg j22 = false ∧ jm_lg j23 = false ∧ jm_lg j24 = false ∧ c = jm_sup cd_219 (jm_cl jm_CD km_n (d + 2)) (159, [some (.ref 44), some (gv c15), some (gv c16), some (gv c17), j22, j23, j24], [], gm_h s q)) (md_lists_l18  c15 c16 c17 fuel v18 g21) (jm_sup cd_219 (jm_cl jm_CD km_n (d + 2)) (18, [some (.ref 44), some (gv c15), some (gv c16), some (gv c17), some (gv v18), j19, j20], [], gm_h s g21)) := by
  intro fuel
  induction fuel with
  | zero => intros; exact jr_none
  | succ fuel ih =>
    intro v18 g21 j19 j20 hj19 hj20
    unfold md_lists_l18
    exact (
      r_iload (pc2 := 20) rfl rfl rfl (
      r_aload (pc2 := 21) rfl rfl rfl (
      r_getA (pc2 := 24) rfl rfl (sh_T hs rfl rfl) (sh_A hs rfl rfl) (
      r_iload (pc2 := 25) rfl rfl rfl (
      jr_g fun h26 => r_iald (len := 30) (pc2 := 26) rfl rfl (sh_T hs rfl rfl) (sh_L hs rfl rfl) rfl h26 (
      jr_g fun h27 => r_cge (pc2 := 29) (t := 159) rfl h27.1 h27.2 rfl (fun _ =>
      r_iload (pc2 := 30) rfl rfl rfl (
      r_iload (pc2 := 31) rfl rfl rfl (
      jr_g fun h28 => r_ceq (pc2 := 34) (t := 153) rfl (rg_ix h26 rfl) h28 rfl (fun _ =>
      r_iinc (kk := 1) (L2 := [some (.ref 44), some (gv c15), some (gv c16), some (gv c17), some (gv (v18 + 1)), j19, j20]) (pc2 := 156) rfl ic_1 rfl rfl rfl (
      r_goto (t := 18) rfl (
      ih (v18 + 1) g21 _ _ hj19 hj20))) (fun _ =>
      r_aload (pc2 := 35) rfl rfl rfl (
      r_iload (pc2 := 36) rfl rfl rfl (
      r_iload (pc2 := 37) rfl rfl rfl (
      r_iload (pc2 := 38) rfl rfl rfl (
      r_iload (pc2 := 40) rfl rfl rfl (
      r_callVP (pc2 := 43) (args := [.ref 44, gv c15, gv c16, gv c17, gv v18]) (st2 := []) rfl rfl rfl rfl rfl rfl (rc_of (sh_T hs rfl rfl)) (rf_md_isFit hs d g21 c15 c16 c17 v18 ) fun v30 => (
      jr_g fun h31 => r_ifeq (pc2 := 46) (t := 153) rfl h31 rfl (fun _ =>
      r_iinc (kk := 1) (L2 := [some (.ref 44), some (gv c15), some (gv c16), some (gv c17), some (gv (v18 + 1)), j19, j20]) (pc2 := 156) rfl ic_1 rfl rfl rfl (
      r_goto (t := 18) rfl (
      ih (v18 + 1) g21 _ _ hj19 hj20))) (fun _ =>
      r_aload (pc2 := 47) rfl rfl rfl (
      r_iload (pc2 := 48) rfl rfl rfl (
      r_iload (pc2 := 49) rfl rfl rfl (
      r_iload (pc2 := 50) rfl rfl rfl (
      r_iload (pc2 := 52) rfl rfl rfl (
      r_callVP (pc2 := 55) (args := [.ref 44, gv c15, gv c16, gv c17, gv v18]) (st2 := []) rfl rfl rfl rfl rfl rfl (rc_of (sh_T hs rfl rfl)) (rf_md_scoreOf hs d g21 c15 c16 c17 v18 ) fun v33 => (
      r_istore (L2 := [some (.ref 44), some (gv c15), some (gv c16), some (gv c17), some (gv v18), some (gv v33), j20]) (pc2 := 57) rfl rfl rfl (
      r_aload (pc2 := 58) rfl rfl rfl (
      r_getI (pc2 := 61) rfl rfl (sh_T hs rfl rfl) (
      r_istoreL (L3 := fun v34 => [some (.ref 44), some (gv c15), some (gv c16), some (gv c17), some (gv v18), some (gv v33), some (gv v34)]) (pc2 := 63) rfl rfl (fun _ => rfl) fun v34 => (
      r_b2 (rl_md_lists_l63 hs d   c15 c16 c17 v18 v33  fz v34 g21  ) (fun v51 g52 c h => match c, h with | _, rfl => (
      r_aload (pc2 := 121) rfl rfl rfl (
      r_getA (pc2 := 124) rfl rfl (sh_T hs rfl rfl) (sh_A hs rfl rfl) (
      r_iload (pc2 := 126) rfl rfl rfl (
      r_iload (pc2 := 128) rfl rfl rfl (
      jr_g fun h54 => r_iast (len := 240) (pc2 := 129) rfl rfl (sh_T hs rfl rfl) (sh_L hs rfl rfl) rfl h54 fun g53 => (
      r_aload (pc2 := 130) rfl rfl rfl (
      r_getA (pc2 := 133) rfl rfl (sh_T hs rfl rfl) (sh_A hs rfl rfl) (
      r_iload (pc2 := 135) rfl rfl rfl (
      r_ic (x := 10) (pc2 := 137) rfl ic_10 rfl (
      r_iload (pc2 := 138) rfl rfl rfl (
      r_imul (pc2 := 139) rfl rfl (
      r_iload (pc2 := 141) rfl rfl rfl (
      r_iadd (pc2 := 142) rfl rfl (
      r_iast (len := 240) (pc2 := 143) rfl rfl (sh_T hs rfl rfl) (sh_L hs rfl rfl) rfl h54 fun g55 => (
      r_aload (pc2 := 144) rfl rfl rfl (
      r_dup (pc2 := 145) rfl rfl rfl (
      r_getI (pc2 := 148) rfl rfl (sh_T hs rfl rfl) (
      r_ic (x := 1) (pc2 := 149) rfl ic_1 rfl (
      r_iadd (pc2 := 150) rfl rfl (
      r_putI (pc2 := 153) rfl rfl (sh_T hs rfl rfl) fun g56 => (
      r_iinc (kk := 1) (L2 := [some (.ref 44), some (gv c15), some (gv c16), some (gv c17), some (gv (v18 + 1)), some (gv v33), some (gv v51)]) (pc2 := 156) rfl ic_1 rfl rfl rfl (
      r_goto (t := 18) rfl (
      ih (v18 + 1) g56 _ _ rfl rfl))))))))))))))))))))))))))))))))))))))))))))) (fun _ =>
      jr_leaf ⟨_, _, _, rfl, hj19, hj20, rfl⟩)))))))
theorem rl_md_lists_l7 {s : gm_S} {n m : Nat} (hs : gm_sh s n m) (d : Nat)  (c2 : Int) (c3 : Int)  : ∀ (fuel : Nat) (v4 : Int) (g8 : gm_T) (j5 : Option Value) (j6 : Option Value) (j7 : Option Value) (hj5 : jm_lg j5 = false) (hj6 : jm_lg j6 = false) (hj7 : jm_lg j7 = false), jr (fun (q : gm_T) (c : Option jm_R) => ∃ (j9 : Option Value) (j10 : Option Value) (j11 : Option Value) (j12 : Option Value), jm_lg j9 = false ∧ jm_lg j10 = false ∧ jm_lg j11 = false ∧ jm_lg j12 = false ∧ c = jm_sup cd_219 (jm_cl jm_CD km_n (d + 2)) (165, [some (.ref 44), some (gv c2), some (gv c3), j9, j10, j11, j12], [], gm_h s q)) (md_lists_l7  c2 c3 fuel v4 g8) (jm_sup cd_219 (jm_cl jm_CD km_n (d + 2)) (7, [some (.ref 44), some (gv c2), some (gv c3), some (gv v4), j5, j6, j7], [], gm_h s g8)) := by
  intro fuel
  induction fuel with
  | zero => intros; exact jr_none
  | succ fuel ih =>
    intro v4 g8 j5 j6 j7 hj5 hj6 hj7
    unfold md_lists_l7
    exact (
      r_iload (pc2 := 8) rfl rfl rfl (
      r_aload (pc2 := 9) rfl rfl rfl (
      r_getI (pc2 := 12) rfl rfl (sh_T hs rfl rfl) (
      jr_g fun h14 => r_cge (pc2 := 15) (t := 165) rfl h14.1 h14.2 rfl (fun _ =>
      r_ic (x := 0) (pc2 := 16) rfl ic_0 rfl (
      r_istore (L2 := [some (.ref 44), some (gv c2), some (gv c3), some (gv v4), some (gv 0), j6, j7]) (pc2 := 18) rfl rfl rfl (
      r_b1 (rl_md_lists_l18 hs d   c2 c3 v4  fz 0 g8 _ _ hj6 hj7) (fun g61 c h => match c, h with | _, ⟨j58, j59, j60, hj58, hj59, hj60, rfl⟩ => (
      r_iinc (kk := 1) (L2 := [some (.ref 44), some (gv c2), some (gv c3), some (gv (v4 + 1)), j58, j59, j60]) (pc2 := 162) rfl ic_1 rfl rfl rfl (
      r_goto (t := 7) rfl (
      ih (v4 + 1) g61 _ _ _ hj58 hj59 hj60))))))) (fun _ =>
      jr_leaf ⟨_, _, _, _, rfl, hj5, hj6, hj7, rfl⟩)))))
theorem rf_md_lists {s : gm_S} {n m : Nat} (hs : gm_sh s n m) (d : Nat)  (g : gm_T) (a1 : Int) (a2 : Int)  : jr (eV s) (md_lists g a1 a2) (jm_cl jm_CD km_n (d + 3) 219 [.ref 44, gv a1, gv a2] (gm_h s g)) := by
  unfold md_lists
  exact (r_ent (cd := cd_219) (n := 7) (L0 := [some (.ref 44), some (gv a1), some (gv a2), none, none, none, none]) rfl rfl rfl rfl (
      r_aload (pc2 := 1) rfl rfl rfl (
      r_ic (x := 0) (pc2 := 2) rfl ic_0 rfl (
      r_putI (pc2 := 5) rfl rfl (sh_T hs rfl rfl) fun g1 => (
      r_ic (x := 0) (pc2 := 6) rfl ic_0 rfl (
      r_istore (L2 := [some (.ref 44), some (gv a1), some (gv a2), some (gv 0), none, none, none]) (pc2 := 7) rfl rfl rfl (
      r_b1 (rl_md_lists_l7 hs d   a1 a2  fz 0 g1 _ _ _ rfl rfl rfl) (fun g67 c h => match c, h with | _, ⟨j63, j64, j65, j66, hj63, hj64, hj65, hj66, rfl⟩ => (
      r_vret rfl rfl)))))))))
theorem rf_md_fits {s : gm_S} {n m : Nat} (hs : gm_sh s n m) (d : Nat)  (g : gm_T) (a1 : Int) (a2 : Int)  : jr (eI s) (md_fits g a1 a2) (jm_cl jm_CD km_n (d + 4) 220 [.ref 44, gv a1, gv a2] (gm_h s g)) := by
  unfold md_fits
  exact (r_ent (cd := cd_220) (n := 3) (L0 := [some (.ref 44), some (gv a1), some (gv a2)]) rfl rfl rfl rfl (
      r_aload (pc2 := 1) rfl rfl rfl (
      r_iload (pc2 := 2) rfl rfl rfl (
      r_iload (pc2 := 3) rfl rfl rfl (
      r_callVP (pc2 := 6) (args := [.ref 44, gv a1, gv a2]) (st2 := []) rfl rfl rfl rfl rfl rfl (rc_of (sh_T hs rfl rfl)) (rf_md_isEdge hs d g a1 a2 ) fun v1 => (
      jr_g fun h2 => r_ifne (pc2 := 9) (t := 11) rfl h2 rfl (fun _ =>
      r_ic (x := -1) (pc2 := 10) rfl ic_m1 rfl (
      r_iret rfl rfl)) (fun _ =>
      r_aload (pc2 := 12) rfl rfl rfl (
      r_iload (pc2 := 13) rfl rfl rfl (
      r_iload (pc2 := 14) rfl rfl rfl (
      r_callVV (pc2 := 17) (args := [.ref 44, gv a1, gv a2]) (st2 := []) rfl rfl rfl rfl rfl rfl (rc_of (sh_T hs rfl rfl)) (rf_md_lists hs d g a1 a2 ) fun g3 => (
      r_aload (pc2 := 18) rfl rfl rfl (
      r_getI (pc2 := 21) rfl rfl (sh_T hs rfl rfl) (
      r_iret rfl rfl)))))))))))))
theorem rf_md_fit {s : gm_S} {n m : Nat} (hs : gm_sh s n m) (d : Nat)  (g : gm_T) (a1 : Int) (a2 : Int) (a3 : Int)  : jr (eI s) (md_fit g a1 a2 a3) (jm_cl jm_CD km_n (d + 4) 221 [.ref 44, gv a1, gv a2, gv a3] (gm_h s g)) := by
  unfold md_fit
  exact (r_ent (cd := cd_221) (n := 4) (L0 := [some (.ref 44), some (gv a1), some (gv a2), some (gv a3)]) rfl rfl rfl rfl (
      r_aload (pc2 := 1) rfl rfl rfl (
      r_iload (pc2 := 2) rfl rfl rfl (
      r_iload (pc2 := 3) rfl rfl rfl (
      r_callVP (pc2 := 6) (args := [.ref 44, gv a1, gv a2]) (st2 := []) rfl rfl rfl rfl rfl rfl (rc_of (sh_T hs rfl rfl)) (rf_md_isEdge hs d g a1 a2 ) fun v1 => (
      jr_g fun h2 => r_ifne (pc2 := 9) (t := 11) rfl h2 rfl (fun _ =>
      r_ic (x := -1) (pc2 := 10) rfl ic_m1 rfl (
      r_iret rfl rfl)) (fun _ =>
      r_aload (pc2 := 12) rfl rfl rfl (
      r_iload (pc2 := 13) rfl rfl rfl (
      r_iload (pc2 := 14) rfl rfl rfl (
      r_callVV (pc2 := 17) (args := [.ref 44, gv a1, gv a2]) (st2 := []) rfl rfl rfl rfl rfl rfl (rc_of (sh_T hs rfl rfl)) (rf_md_lists hs d g a1 a2 ) fun g3 => (
      r_iload (pc2 := 18) rfl rfl rfl (
      r_ic (x := 0) (pc2 := 19) rfl ic_0 rfl (
      r_aload (pc2 := 20) rfl rfl rfl (
      r_getI (pc2 := 23) rfl rfl (sh_T hs rfl rfl) (
      r_ic (x := 1) (pc2 := 24) rfl ic_1 rfl (
      r_isub (pc2 := 25) rfl rfl (
      r_callSP (pc2 := 28) (args := [gv a3, gv 0, gv ((gm_I g3 44 42) - 1)]) (st2 := []) rfl rfl rfl rfl rfl rfl (rf_md_in hs (d + 2) g3 a3 0 ((gm_I g3 44 42) - 1) ) fun v4 => (
      jr_g fun h5 => r_ifeq (pc2 := 31) (t := 40) rfl h5 rfl (fun _ =>
      r_ic (x := -1) (pc2 := 41) rfl ic_m1 rfl (
      r_iret rfl rfl)) (fun _ =>
      r_aload (pc2 := 32) rfl rfl rfl (
      r_getA (pc2 := 35) rfl rfl (sh_T hs rfl rfl) (sh_A hs rfl rfl) (
      r_iload (pc2 := 36) rfl rfl rfl (
      jr_g fun h6 => r_iald (len := 240) (pc2 := 37) rfl rfl (sh_T hs rfl rfl) (sh_L hs rfl rfl) rfl h6 (
      r_goto (t := 41) rfl (
      r_iret rfl rfl))))))))))))))))))))))))
theorem rl_md_other_l9 {s : gm_S} {n m : Nat} (hs : gm_sh s n m) (d : Nat)  (g : gm_T) (c4 : Int) (c5 : Int) (c6 : Int)  : ∀ (fuel : Nat) (v7 : Int) (j2 : Option Value) (j3 : Option Value) (hj2 : jm_lg j2 = false) (hj3 : jm_lg j3 = false), jr (eI s) (md_other_l9 g c4 c5 c6 fuel v7) (jm_sup cd_222 (jm_cl jm_CD km_n (d + 3)) (9, [some (.ref 44), j2, j3, some (gv c4), some (gv c5), some (gv c6), some (gv v7)], [], gm_h s g)) := by
  intro fuel
  induction fuel with
  | zero => intros; exact jr_none
  | succ fuel ih =>
    intro v7 j2 j3 hj2 hj3
    unfold md_other_l9
    exact (
      r_iload (pc2 := 11) rfl rfl rfl (
      r_aload (pc2 := 12) rfl rfl rfl (
      r_getI (pc2 := 15) rfl rfl (sh_T hs rfl rfl) (
      jr_g fun h8 => r_cge (pc2 := 18) (t := 61) rfl h8.1 h8.2 rfl (fun _ =>
      r_aload (pc2 := 19) rfl rfl rfl (
      r_getA (pc2 := 22) rfl rfl (sh_T hs rfl rfl) (sh_A hs rfl rfl) (
      r_iload (pc2 := 24) rfl rfl rfl (
      jr_g fun h9 => r_iald (len := 240) (pc2 := 25) rfl rfl (sh_T hs rfl rfl) (sh_L hs rfl rfl) rfl h9 (
      r_iload (pc2 := 27) rfl rfl rfl (
      jr_g fun h10 => r_clt (pc2 := 30) (t := 61) rfl h10.1 h10.2 rfl (fun _ =>
      r_ic (x := -1) (pc2 := 62) rfl ic_m1 rfl (
      r_iret rfl rfl)) (fun _ =>
      r_aload (pc2 := 31) rfl rfl rfl (
      r_getA (pc2 := 34) rfl rfl (sh_T hs rfl rfl) (sh_A hs rfl rfl) (
      r_iload (pc2 := 36) rfl rfl rfl (
      r_iald (len := 240) (pc2 := 37) rfl rfl (sh_T hs rfl rfl) (sh_L hs rfl rfl) rfl h9 (
      r_ic (x := 10) (pc2 := 39) rfl ic_10 rfl (
      r_iload (pc2 := 40) rfl rfl rfl (
      r_imul (pc2 := 41) rfl rfl (
      r_iload (pc2 := 43) rfl rfl rfl (
      r_iadd (pc2 := 44) rfl rfl (
      jr_g fun h11 => r_ceq (pc2 := 47) (t := 55) rfl h11.1 h11.2 rfl (fun _ =>
      r_iinc (kk := 1) (L2 := [some (.ref 44), j2, j3, some (gv c4), some (gv c5), some (gv c6), some (gv (v7 + 1))]) (pc2 := 58) rfl ic_1 rfl rfl rfl (
      r_goto (t := 9) rfl (
      ih (v7 + 1) _ _ hj2 hj3))) (fun _ =>
      r_aload (pc2 := 48) rfl rfl rfl (
      r_getA (pc2 := 51) rfl rfl (sh_T hs rfl rfl) (sh_A hs rfl rfl) (
      r_iload (pc2 := 53) rfl rfl rfl (
      r_iald (len := 240) (pc2 := 54) rfl rfl (sh_T hs rfl rfl) (sh_L hs rfl rfl) rfl h9 (
      r_iret rfl rfl))))))))))))))))))))) (fun _ =>
      r_ic (x := -1) (pc2 := 62) rfl ic_m1 rfl (
      r_iret rfl rfl))))))
theorem rf_md_other {s : gm_S} {n m : Nat} (hs : gm_sh s n m) (d : Nat)  (g : gm_T) (a1 : Int) (a2 : Int) (a3 : Int) (a4 : Int) (a5 : Int)  : jr (eI s) (md_other g a1 a2 a3 a4 a5) (jm_cl jm_CD km_n (d + 4) 222 [.ref 44, gv a1, gv a2, gv a3, gv a4, gv a5] (gm_h s g)) := by
  unfold md_other
  exact (r_ent (cd := cd_222) (n := 7) (L0 := [some (.ref 44), some (gv a1), some (gv a2), some (gv a3), some (gv a4), some (gv a5), none]) rfl rfl rfl rfl (
      r_aload (pc2 := 1) rfl rfl rfl (
      r_iload (pc2 := 2) rfl rfl rfl (
      r_iload (pc2 := 3) rfl rfl rfl (
      r_callVV (pc2 := 6) (args := [.ref 44, gv a1, gv a2]) (st2 := []) rfl rfl rfl rfl rfl rfl (rc_of (sh_T hs rfl rfl)) (rf_md_lists hs d g a1 a2 ) fun g1 => (
      r_ic (x := 0) (pc2 := 7) rfl ic_0 rfl (
      r_istore (L2 := [some (.ref 44), some (gv a1), some (gv a2), some (gv a3), some (gv a4), some (gv a5), some (gv 0)]) (pc2 := 9) rfl rfl rfl (
      rl_md_other_l9 hs d  g1 a3 a4 a5  fz 0 _ _ rfl rfl))))))))
theorem rf_md_rivalOf {s : gm_S} {n m : Nat} (hs : gm_sh s n m) (d : Nat)  (g : gm_T) (a1 : Int) (a2 : Int) (a3 : Int) (a4 : Int)  : jr (eI s) (md_rivalOf g a1 a2 a3 a4) (jm_cl jm_CD km_n (d + 5) 223 [.ref 44, gv a1, gv a2, gv a3, gv a4] (gm_h s g)) := by
  unfold md_rivalOf
  exact (r_ent (cd := cd_223) (n := 8) (L0 := [some (.ref 44), some (gv a1), some (gv a2), some (gv a3), some (gv a4), none, none, none]) rfl rfl rfl rfl (
      r_aload (pc2 := 1) rfl rfl rfl (
      r_iload (pc2 := 2) rfl rfl rfl (
      r_iload (pc2 := 3) rfl rfl rfl (
      r_iload (pc2 := 4) rfl rfl rfl (
      r_iload (pc2 := 6) rfl rfl rfl (
      r_callVP (pc2 := 9) (args := [.ref 44, gv a1, gv a2, gv a3, gv a4]) (st2 := []) rfl rfl rfl rfl rfl rfl (rc_of (sh_T hs rfl rfl)) (rf_md_scoreOf hs (d + 2) g a1 a2 a3 a4 ) fun v1 => (
      r_istore (L2 := [some (.ref 44), some (gv a1), some (gv a2), some (gv a3), some (gv a4), some (gv v1), none, none]) (pc2 := 11) rfl rfl rfl (
      r_aload (pc2 := 12) rfl rfl rfl (
      r_iload (pc2 := 13) rfl rfl rfl (
      r_iload (pc2 := 14) rfl rfl rfl (
      r_iload (pc2 := 15) rfl rfl rfl (
      r_iload (pc2 := 17) rfl rfl rfl (
      r_iload (pc2 := 19) rfl rfl rfl (
      r_callVI (pc2 := 22) (args := [.ref 44, gv a1, gv a2, gv a3, gv a4, gv v1]) (st2 := []) rfl rfl rfl rfl rfl rfl (rc_of (sh_T hs rfl rfl)) (rf_md_other hs d g a1 a2 a3 a4 v1 ) fun v2 g3 => (
      r_istore (L2 := [some (.ref 44), some (gv a1), some (gv a2), some (gv a3), some (gv a4), some (gv v1), some (gv v2), none]) (pc2 := 24) rfl rfl rfl (
      r_iload (pc2 := 26) rfl rfl rfl (
      r_ic (x := -1) (pc2 := 27) rfl ic_m1 rfl (
      r_b2 (R1 := (fun (q : Int × gm_T) (c : Option jm_R) => c = jm_sup cd_223 (jm_cl jm_CD km_n (d + 4)) (45, [some (.ref 44), some (gv a1), some (gv a2), some (gv a3), some (gv a4), some (gv v1), some (gv v2), none], [gv q.1], gm_h s q.2))) (
      jr_g fun h6 => r_cne (pc2 := 30) (t := 44) rfl h6 (rgk rfl) rfl (fun _ =>
      r_aload (pc2 := 31) rfl rfl rfl (
      r_iload (pc2 := 32) rfl rfl rfl (
      r_iload (pc2 := 34) rfl rfl rfl (
      r_iload (pc2 := 35) rfl rfl rfl (
      r_iload (pc2 := 36) rfl rfl rfl (
      r_iload (pc2 := 38) rfl rfl rfl (
      r_callVI (pc2 := 41) (args := [.ref 44, gv a3, gv a4, gv a1, gv a2, gv v1]) (st2 := []) rfl rfl rfl rfl rfl rfl (rc_of (sh_T hs rfl rfl)) (rf_md_other hs d g3 a3 a4 a1 a2 v1 ) fun v7 g8 => (
      r_goto (t := 45) rfl (
      jr_leaf rfl))))))))) (fun _ =>
      r_ic (x := -1) (pc2 := 45) rfl ic_m1 rfl (
      jr_leaf rfl))) (fun v4 g5 c h => match c, h with | _, rfl => (
      r_istore (L2 := [some (.ref 44), some (gv a1), some (gv a2), some (gv a3), some (gv a4), some (gv v1), some (gv v2), some (gv v4)]) (pc2 := 47) rfl rfl rfl (
      r_iload (pc2 := 49) rfl rfl rfl (
      r_ic (x := -1) (pc2 := 50) rfl ic_m1 rfl (
      jr_g fun h9 => r_ceq (pc2 := 53) (t := 64) rfl h9 (rgk rfl) rfl (fun _ =>
      r_iload (pc2 := 66) rfl rfl rfl (
      r_ic (x := -1) (pc2 := 67) rfl ic_m1 rfl (
      jr_g fun h10 => r_ceq (pc2 := 70) (t := 81) rfl h10 (rgk rfl) rfl (fun _ =>
      r_ic (x := -5) (pc2 := 83) rfl ic_m5 rfl (
      r_iret rfl rfl)) (fun _ =>
      r_ic (x := 1000) (pc2 := 73) rfl ic_1000 rfl (
      r_iload (pc2 := 74) rfl rfl rfl (
      r_imul (pc2 := 75) rfl rfl (
      r_iload (pc2 := 77) rfl rfl rfl (
      r_iadd (pc2 := 78) rfl rfl (
      r_goto (t := 83) rfl (
      r_iret rfl rfl)))))))))) (fun _ =>
      r_ic (x := 1000) (pc2 := 56) rfl ic_1000 rfl (
      r_iload (pc2 := 57) rfl rfl rfl (
      r_imul (pc2 := 58) rfl rfl (
      r_iload (pc2 := 60) rfl rfl rfl (
      r_iadd (pc2 := 61) rfl rfl (
      r_goto (t := 83) rfl (
      r_iret rfl rfl)))))))))))))))))))))))))))))))
theorem rf_md_rival {s : gm_S} {n m : Nat} (hs : gm_sh s n m) (d : Nat)  (g : gm_T) (a1 : Int) (a2 : Int) (a3 : Int) (a4 : Int)  : jr (eI s) (md_rival g a1 a2 a3 a4) (jm_cl jm_CD km_n (d + 6) 224 [.ref 44, gv a1, gv a2, gv a3, gv a4] (gm_h s g)) := by
  unfold md_rival
  exact (r_ent (cd := cd_224) (n := 5) (L0 := [some (.ref 44), some (gv a1), some (gv a2), some (gv a3), some (gv a4)]) rfl rfl rfl rfl (
      r_aload (pc2 := 1) rfl rfl rfl (
      r_iload (pc2 := 2) rfl rfl rfl (
      r_iload (pc2 := 3) rfl rfl rfl (
      r_callVP (pc2 := 6) (args := [.ref 44, gv a1, gv a2]) (st2 := []) rfl rfl rfl rfl rfl rfl (rc_of (sh_T hs rfl rfl)) (rf_md_isEdge hs (d + 2) g a1 a2 ) fun v1 => (
      jr_g fun h2 => r_ifeq (pc2 := 9) (t := 19) rfl h2 rfl (fun _ =>
      r_ic (x := -1) (pc2 := 20) rfl ic_m1 rfl (
      r_iret rfl rfl)) (fun _ =>
      r_aload (pc2 := 10) rfl rfl rfl (
      r_iload (pc2 := 11) rfl rfl rfl (
      r_iload (pc2 := 13) rfl rfl rfl (
      r_callVP (pc2 := 16) (args := [.ref 44, gv a3, gv a4]) (st2 := []) rfl rfl rfl rfl rfl rfl (rc_of (sh_T hs rfl rfl)) (rf_md_isEdge hs (d + 2) g a3 a4 ) fun v3 => (
      jr_g fun h4 => r_ifne (pc2 := 19) (t := 21) rfl h4 rfl (fun _ =>
      r_ic (x := -1) (pc2 := 20) rfl ic_m1 rfl (
      r_iret rfl rfl)) (fun _ =>
      r_iload (pc2 := 22) rfl rfl rfl (
      r_iload (pc2 := 23) rfl rfl rfl (
      jr_g fun h5 => r_cne (pc2 := 26) (t := 31) rfl h5.1 h5.2 rfl (fun _ =>
      r_ic (x := -2) (pc2 := 28) rfl ic_m2 rfl (
      r_goto (t := 57) rfl (
      r_iret rfl rfl))) (fun _ =>
      r_aload (pc2 := 32) rfl rfl rfl (
      r_iload (pc2 := 33) rfl rfl rfl (
      r_iload (pc2 := 34) rfl rfl rfl (
      r_iload (pc2 := 35) rfl rfl rfl (
      r_iload (pc2 := 37) rfl rfl rfl (
      r_callVP (pc2 := 40) (args := [.ref 44, gv a1, gv a2, gv a3, gv a4]) (st2 := []) rfl rfl rfl rfl rfl rfl (rc_of (sh_T hs rfl rfl)) (rf_md_isFit hs (d + 3) g a1 a2 a3 a4 ) fun v6 => (
      jr_g fun h7 => r_ifeq (pc2 := 43) (t := 55) rfl h7 rfl (fun _ =>
      r_ic (x := -3) (pc2 := 57) rfl ic_m3 rfl (
      r_iret rfl rfl)) (fun _ =>
      r_aload (pc2 := 44) rfl rfl rfl (
      r_iload (pc2 := 45) rfl rfl rfl (
      r_iload (pc2 := 46) rfl rfl rfl (
      r_iload (pc2 := 47) rfl rfl rfl (
      r_iload (pc2 := 49) rfl rfl rfl (
      r_callVI (pc2 := 52) (args := [.ref 44, gv a1, gv a2, gv a3, gv a4]) (st2 := []) rfl rfl rfl rfl rfl rfl (rc_of (sh_T hs rfl rfl)) (rf_md_rivalOf hs d g a1 a2 a3 a4 ) fun v8 g9 => (
      r_goto (t := 57) rfl (
      r_iret rfl rfl)))))))))))))))))))))))))))))
theorem rf_md_holds {s : gm_S} {n m : Nat} (hs : gm_sh s n m) (d : Nat)  (g : gm_T) (a1 : Int) (a2 : Int) (a3 : Int)  : jr (eV s) (md_holds g a1 a2 a3) (jm_cl jm_CD km_n (d + 1) 225 [.ref 44, gv a1, gv a2, gv a3] (gm_h s g)) := by
  unfold md_holds
  exact (r_ent (cd := cd_225) (n := 4) (L0 := [some (.ref 44), some (gv a1), some (gv a2), some (gv a3)]) rfl rfl rfl rfl (
      r_aload (pc2 := 1) rfl rfl rfl (
      r_iload (pc2 := 2) rfl rfl rfl (
      r_putI (pc2 := 5) rfl rfl (sh_T hs rfl rfl) fun g1 => (
      r_aload (pc2 := 6) rfl rfl rfl (
      r_iload (pc2 := 7) rfl rfl rfl (
      r_putI (pc2 := 10) rfl rfl (sh_T hs rfl rfl) fun g2 => (
      r_aload (pc2 := 11) rfl rfl rfl (
      r_iload (pc2 := 12) rfl rfl rfl (
      r_putI (pc2 := 15) rfl rfl (sh_T hs rfl rfl) fun g3 => (
      r_vret rfl rfl)))))))))))
theorem rf_md_then {s : gm_S} {n m : Nat} (hs : gm_sh s n m) (d : Nat)  (g : gm_T) (a1 : Int) (a2 : Int) (a3 : Int)  : jr (eV s) (md_then g a1 a2 a3) (jm_cl jm_CD km_n (d + 2) 226 [.ref 44, gv a1, gv a2, gv a3] (gm_h s g)) := by
  unfold md_then
  exact (r_ent (cd := cd_226) (n := 6) (L0 := [some (.ref 44), some (gv a1), some (gv a2), some (gv a3), none, none]) rfl rfl rfl rfl (
      r_aload (pc2 := 1) rfl rfl rfl (
      r_getI (pc2 := 4) rfl rfl (sh_T hs rfl rfl) (
      r_aload (pc2 := 5) rfl rfl rfl (
      r_getI (pc2 := 8) rfl rfl (sh_T hs rfl rfl) (
      r_iload (pc2 := 9) rfl rfl rfl (
      r_iload (pc2 := 10) rfl rfl rfl (
      r_callSP (pc2 := 13) (args := [gv (gm_I g 44 49), gv a2, gv a3]) (st2 := [gv (gm_I g 44 50)]) rfl rfl rfl rfl rfl rfl (rf_md_turnedX hs d g (gm_I g 44 49) a2 a3 ) fun v1 => (
      r_iadd (pc2 := 14) rfl rfl (
      r_istoreL (L3 := fun v2 => [some (.ref 44), some (gv a1), some (gv a2), some (gv a3), some (gv v2), none]) (pc2 := 16) rfl rfl (fun _ => rfl) fun v2 => (
      r_aload (pc2 := 17) rfl rfl rfl (
      r_getI (pc2 := 20) rfl rfl (sh_T hs rfl rfl) (
      r_aload (pc2 := 21) rfl rfl rfl (
      r_getI (pc2 := 24) rfl rfl (sh_T hs rfl rfl) (
      r_iload (pc2 := 25) rfl rfl rfl (
      r_iload (pc2 := 26) rfl rfl rfl (
      r_callSP (pc2 := 29) (args := [gv (gm_I g 44 49), gv a2, gv a3]) (st2 := [gv (gm_I g 44 51)]) rfl rfl rfl rfl rfl rfl (rf_md_turnedY hs d g (gm_I g 44 49) a2 a3 ) fun v3 => (
      r_iadd (pc2 := 30) rfl rfl (
      r_istoreL (L3 := fun v4 => [some (.ref 44), some (gv a1), some (gv a2), some (gv a3), some (gv v2), some (gv v4)]) (pc2 := 32) rfl rfl (fun _ => rfl) fun v4 => (
      r_aload (pc2 := 33) rfl rfl rfl (
      r_aload (pc2 := 34) rfl rfl rfl (
      r_getI (pc2 := 37) rfl rfl (sh_T hs rfl rfl) (
      r_iload (pc2 := 38) rfl rfl rfl (
      r_iadd (pc2 := 39) rfl rfl (
      r_ic (x := 4) (pc2 := 40) rfl ic_4 rfl (
      jr_g fun hd => r_irem (pc2 := 41) rfl rfl hd ⟨by decide, by decide⟩ (
      r_iload (pc2 := 43) rfl rfl rfl (
      r_iload (pc2 := 45) rfl rfl rfl (
      r_callVV (pc2 := 48) (args := [.ref 44, gv (((gm_I g 44 49) + a1) % 4), gv v2, gv v4]) (st2 := []) rfl rfl rfl rfl rfl rfl (rc_of (sh_T hs rfl rfl)) (rf_md_holds hs d g (((gm_I g 44 49) + a1) % 4) v2 v4 ) fun g5 => (
      r_vret rfl rfl))))))))))))))))))))))))))))))
theorem rf_md_thenBack {s : gm_S} {n m : Nat} (hs : gm_sh s n m) (d : Nat)  (g : gm_T) (a1 : Int) (a2 : Int) (a3 : Int)  : jr (eV s) (md_thenBack g a1 a2 a3) (jm_cl jm_CD km_n (d + 3) 227 [.ref 44, gv a1, gv a2, gv a3] (gm_h s g)) := by
  unfold md_thenBack
  exact (r_ent (cd := cd_227) (n := 5) (L0 := [some (.ref 44), some (gv a1), some (gv a2), some (gv a3), none]) rfl rfl rfl rfl (
      r_ic (x := 4) (pc2 := 1) rfl ic_4 rfl (
      r_iload (pc2 := 2) rfl rfl rfl (
      r_isub (pc2 := 3) rfl rfl (
      r_ic (x := 4) (pc2 := 4) rfl ic_4 rfl (
      jr_g fun hd => r_irem (pc2 := 5) rfl rfl hd ⟨by decide, by decide⟩ (
      r_istoreL (L3 := fun v1 => [some (.ref 44), some (gv a1), some (gv a2), some (gv a3), some (gv v1)]) (pc2 := 7) rfl rfl (fun _ => rfl) fun v1 => (
      r_aload (pc2 := 8) rfl rfl rfl (
      r_iload (pc2 := 10) rfl rfl rfl (
      r_iload (pc2 := 12) rfl rfl rfl (
      r_iload (pc2 := 13) rfl rfl rfl (
      r_iload (pc2 := 14) rfl rfl rfl (
      r_callSP (pc2 := 17) (args := [gv v1, gv a2, gv a3]) (st2 := [gv v1, .ref 44]) rfl rfl rfl rfl rfl rfl (rf_md_turnedX hs (d + 1) g v1 a2 a3 ) fun v2 => (
      r_ineg (pc2 := 18) rfl rfl (
      r_iload (pc2 := 20) rfl rfl rfl (
      r_iload (pc2 := 21) rfl rfl rfl (
      r_iload (pc2 := 22) rfl rfl rfl (
      r_callSP (pc2 := 25) (args := [gv v1, gv a2, gv a3]) (st2 := [gv (-v2), gv v1, .ref 44]) rfl rfl rfl rfl rfl rfl (rf_md_turnedY hs (d + 1) g v1 a2 a3 ) fun v3 => (
      r_ineg (pc2 := 26) rfl rfl (
      r_callVV (pc2 := 29) (args := [.ref 44, gv v1, gv (-v2), gv (-v3)]) (st2 := []) rfl rfl rfl rfl rfl rfl (rc_of (sh_T hs rfl rfl)) (rf_md_then hs d g v1 (-v2) (-v3) ) fun g4 => (
      r_vret rfl rfl)))))))))))))))))))))
theorem rf_md_isHeld {s : gm_S} {n m : Nat} (hs : gm_sh s n m) (d : Nat)  (g : gm_T) (a1 : Int) (a2 : Int) (a3 : Int)  : jr (pI s g) (md_isHeld g a1 a2 a3) (jm_cl jm_CD km_n (d + 1) 228 [.ref 44, gv a1, gv a2, gv a3] (gm_h s g)) := by
  unfold md_isHeld
  exact (r_ent (cd := cd_228) (n := 4) (L0 := [some (.ref 44), some (gv a1), some (gv a2), some (gv a3)]) rfl rfl rfl rfl (
      r_aload (pc2 := 1) rfl rfl rfl (
      r_getI (pc2 := 4) rfl rfl (sh_T hs rfl rfl) (
      r_iload (pc2 := 5) rfl rfl rfl (
      jr_g fun h1 => r_cne (pc2 := 8) (t := 28) rfl h1.1 h1.2 rfl (fun _ =>
      r_aload (pc2 := 9) rfl rfl rfl (
      r_getI (pc2 := 12) rfl rfl (sh_T hs rfl rfl) (
      r_iload (pc2 := 13) rfl rfl rfl (
      jr_g fun h2 => r_cne (pc2 := 16) (t := 28) rfl h2.1 h2.2 rfl (fun _ =>
      r_aload (pc2 := 17) rfl rfl rfl (
      r_getI (pc2 := 20) rfl rfl (sh_T hs rfl rfl) (
      r_iload (pc2 := 21) rfl rfl rfl (
      jr_g fun h3 => r_cne (pc2 := 24) (t := 28) rfl h3.1 h3.2 rfl (fun _ =>
      r_ic (x := 1) (pc2 := 25) rfl ic_1 rfl (
      r_goto (t := 29) rfl (
      r_zret rfl (by decide) rfl))) (fun _ =>
      r_ic (x := 0) (pc2 := 29) rfl ic_0 rfl (
      r_zret rfl (by decide) rfl)))))) (fun _ =>
      r_ic (x := 0) (pc2 := 29) rfl ic_0 rfl (
      r_zret rfl (by decide) rfl)))))) (fun _ =>
      r_ic (x := 0) (pc2 := 29) rfl ic_0 rfl (
      r_zret rfl (by decide) rfl)))))))
theorem rf_md_thenJoin {s : gm_S} {n m : Nat} (hs : gm_sh s n m) (d : Nat)  (g : gm_T) (a1 : Int)  : jr (eV s) (md_thenJoin g a1) (jm_cl jm_CD km_n (d + 3) 229 [.ref 44, gv a1] (gm_h s g)) := by
  unfold md_thenJoin
  exact (r_ent (cd := cd_229) (n := 2) (L0 := [some (.ref 44), some (gv a1)]) rfl rfl rfl rfl (
      r_aload (pc2 := 1) rfl rfl rfl (
      r_aload (pc2 := 2) rfl rfl rfl (
      r_getA (pc2 := 5) rfl rfl (sh_T hs rfl rfl) (sh_A hs rfl rfl) (
      r_aload (pc2 := 6) rfl rfl rfl (
      r_aload (pc2 := 7) rfl rfl rfl (
      r_getA (pc2 := 10) rfl rfl (sh_T hs rfl rfl) (sh_A hs rfl rfl) (
      r_iload (pc2 := 11) rfl rfl rfl (
      jr_g fun h1 => r_iald (len := 60) (pc2 := 12) rfl rfl (sh_T hs rfl rfl) (sh_L hs rfl rfl) rfl h1 (
      r_aload (pc2 := 13) rfl rfl rfl (
      r_getA (pc2 := 16) rfl rfl (sh_T hs rfl rfl) (sh_A hs rfl rfl) (
      r_iload (pc2 := 17) rfl rfl rfl (
      r_iald (len := 60) (pc2 := 18) rfl rfl (sh_T hs rfl rfl) (sh_L hs rfl rfl) rfl h1 (
      r_aload (pc2 := 19) rfl rfl rfl (
      r_getA (pc2 := 22) rfl rfl (sh_T hs rfl rfl) (sh_A hs rfl rfl) (
      r_iload (pc2 := 23) rfl rfl rfl (
      r_iald (len := 60) (pc2 := 24) rfl rfl (sh_T hs rfl rfl) (sh_L hs rfl rfl) rfl h1 (
      r_aload (pc2 := 25) rfl rfl rfl (
      r_getA (pc2 := 28) rfl rfl (sh_T hs rfl rfl) (sh_A hs rfl rfl) (
      r_iload (pc2 := 29) rfl rfl rfl (
      r_iald (len := 60) (pc2 := 30) rfl rfl (sh_T hs rfl rfl) (sh_L hs rfl rfl) rfl h1 (
      r_callVP (pc2 := 33) (args := [.ref 44, gv (gm_I g 65 a1.toNat), gv (gm_I g 66 a1.toNat), gv (gm_I g 67 a1.toNat), gv (gm_I g 68 a1.toNat)]) (st2 := [.ref 63, .ref 44]) rfl rfl rfl rfl rfl rfl (rc_of (sh_T hs rfl rfl)) (rf_md_entry hs (d + 1) g (gm_I g 65 a1.toNat) (gm_I g 66 a1.toNat) (gm_I g 67 a1.toNat) (gm_I g 68 a1.toNat) ) fun v2 => (
      jr_g fun h3 => r_iald (len := 57600) (pc2 := 34) rfl rfl (sh_T hs rfl rfl) (sh_L hs rfl rfl) rfl h3 (
      r_aload (pc2 := 35) rfl rfl rfl (
      r_aload (pc2 := 36) rfl rfl rfl (
      r_getA (pc2 := 39) rfl rfl (sh_T hs rfl rfl) (sh_A hs rfl rfl) (
      r_iload (pc2 := 40) rfl rfl rfl (
      r_iald (len := 60) (pc2 := 41) rfl rfl (sh_T hs rfl rfl) (sh_L hs rfl rfl) rfl h1 (
      r_aload (pc2 := 42) rfl rfl rfl (
      r_getA (pc2 := 45) rfl rfl (sh_T hs rfl rfl) (sh_A hs rfl rfl) (
      r_iload (pc2 := 46) rfl rfl rfl (
      r_iald (len := 60) (pc2 := 47) rfl rfl (sh_T hs rfl rfl) (sh_L hs rfl rfl) rfl h1 (
      r_aload (pc2 := 48) rfl rfl rfl (
      r_getA (pc2 := 51) rfl rfl (sh_T hs rfl rfl) (sh_A hs rfl rfl) (
      r_iload (pc2 := 52) rfl rfl rfl (
      r_iald (len := 60) (pc2 := 53) rfl rfl (sh_T hs rfl rfl) (sh_L hs rfl rfl) rfl h1 (
      r_aload (pc2 := 54) rfl rfl rfl (
      r_getA (pc2 := 57) rfl rfl (sh_T hs rfl rfl) (sh_A hs rfl rfl) (
      r_iload (pc2 := 58) rfl rfl rfl (
      r_iald (len := 60) (pc2 := 59) rfl rfl (sh_T hs rfl rfl) (sh_L hs rfl rfl) rfl h1 (
      r_callVP (pc2 := 62) (args := [.ref 44, gv (gm_I g 65 a1.toNat), gv (gm_I g 66 a1.toNat), gv (gm_I g 67 a1.toNat), gv (gm_I g 68 a1.toNat)]) (st2 := [gv (gm_I g 63 v2.toNat), .ref 44]) rfl rfl rfl rfl rfl rfl (rc_of (sh_T hs rfl rfl)) (rf_md_fitX hs d g (gm_I g 65 a1.toNat) (gm_I g 66 a1.toNat) (gm_I g 67 a1.toNat) (gm_I g 68 a1.toNat) ) fun v4 => (
      r_aload (pc2 := 63) rfl rfl rfl (
      r_aload (pc2 := 64) rfl rfl rfl (
      r_getA (pc2 := 67) rfl rfl (sh_T hs rfl rfl) (sh_A hs rfl rfl) (
      r_iload (pc2 := 68) rfl rfl rfl (
      r_iald (len := 60) (pc2 := 69) rfl rfl (sh_T hs rfl rfl) (sh_L hs rfl rfl) rfl h1 (
      r_aload (pc2 := 70) rfl rfl rfl (
      r_getA (pc2 := 73) rfl rfl (sh_T hs rfl rfl) (sh_A hs rfl rfl) (
      r_iload (pc2 := 74) rfl rfl rfl (
      r_iald (len := 60) (pc2 := 75) rfl rfl (sh_T hs rfl rfl) (sh_L hs rfl rfl) rfl h1 (
      r_aload (pc2 := 76) rfl rfl rfl (
      r_getA (pc2 := 79) rfl rfl (sh_T hs rfl rfl) (sh_A hs rfl rfl) (
      r_iload (pc2 := 80) rfl rfl rfl (
      r_iald (len := 60) (pc2 := 81) rfl rfl (sh_T hs rfl rfl) (sh_L hs rfl rfl) rfl h1 (
      r_aload (pc2 := 82) rfl rfl rfl (
      r_getA (pc2 := 85) rfl rfl (sh_T hs rfl rfl) (sh_A hs rfl rfl) (
      r_iload (pc2 := 86) rfl rfl rfl (
      r_iald (len := 60) (pc2 := 87) rfl rfl (sh_T hs rfl rfl) (sh_L hs rfl rfl) rfl h1 (
      r_callVP (pc2 := 90) (args := [.ref 44, gv (gm_I g 65 a1.toNat), gv (gm_I g 66 a1.toNat), gv (gm_I g 67 a1.toNat), gv (gm_I g 68 a1.toNat)]) (st2 := [gv v4, gv (gm_I g 63 v2.toNat), .ref 44]) rfl rfl rfl rfl rfl rfl (rc_of (sh_T hs rfl rfl)) (rf_md_fitY hs d g (gm_I g 65 a1.toNat) (gm_I g 66 a1.toNat) (gm_I g 67 a1.toNat) (gm_I g 68 a1.toNat) ) fun v5 => (
      r_callVV (pc2 := 93) (args := [.ref 44, gv (gm_I g 63 v2.toNat), gv v4, gv v5]) (st2 := []) rfl rfl rfl rfl rfl rfl (rc_of (sh_T hs rfl rfl)) (rf_md_then hs d g (gm_I g 63 v2.toNat) v4 v5 ) fun g6 => (
      r_vret rfl rfl)))))))))))))))))))))))))))))))))))))))))))))))))))))))))))))
theorem rf_md_thenJoinBack {s : gm_S} {n m : Nat} (hs : gm_sh s n m) (d : Nat)  (g : gm_T) (a1 : Int)  : jr (eV s) (md_thenJoinBack g a1) (jm_cl jm_CD km_n (d + 4) 230 [.ref 44, gv a1] (gm_h s g)) := by
  unfold md_thenJoinBack
  exact (r_ent (cd := cd_230) (n := 2) (L0 := [some (.ref 44), some (gv a1)]) rfl rfl rfl rfl (
      r_aload (pc2 := 1) rfl rfl rfl (
      r_aload (pc2 := 2) rfl rfl rfl (
      r_getA (pc2 := 5) rfl rfl (sh_T hs rfl rfl) (sh_A hs rfl rfl) (
      r_aload (pc2 := 6) rfl rfl rfl (
      r_aload (pc2 := 7) rfl rfl rfl (
      r_getA (pc2 := 10) rfl rfl (sh_T hs rfl rfl) (sh_A hs rfl rfl) (
      r_iload (pc2 := 11) rfl rfl rfl (
      jr_g fun h1 => r_iald (len := 60) (pc2 := 12) rfl rfl (sh_T hs rfl rfl) (sh_L hs rfl rfl) rfl h1 (
      r_aload (pc2 := 13) rfl rfl rfl (
      r_getA (pc2 := 16) rfl rfl (sh_T hs rfl rfl) (sh_A hs rfl rfl) (
      r_iload (pc2 := 17) rfl rfl rfl (
      r_iald (len := 60) (pc2 := 18) rfl rfl (sh_T hs rfl rfl) (sh_L hs rfl rfl) rfl h1 (
      r_aload (pc2 := 19) rfl rfl rfl (
      r_getA (pc2 := 22) rfl rfl (sh_T hs rfl rfl) (sh_A hs rfl rfl) (
      r_iload (pc2 := 23) rfl rfl rfl (
      r_iald (len := 60) (pc2 := 24) rfl rfl (sh_T hs rfl rfl) (sh_L hs rfl rfl) rfl h1 (
      r_aload (pc2 := 25) rfl rfl rfl (
      r_getA (pc2 := 28) rfl rfl (sh_T hs rfl rfl) (sh_A hs rfl rfl) (
      r_iload (pc2 := 29) rfl rfl rfl (
      r_iald (len := 60) (pc2 := 30) rfl rfl (sh_T hs rfl rfl) (sh_L hs rfl rfl) rfl h1 (
      r_callVP (pc2 := 33) (args := [.ref 44, gv (gm_I g 65 a1.toNat), gv (gm_I g 66 a1.toNat), gv (gm_I g 67 a1.toNat), gv (gm_I g 68 a1.toNat)]) (st2 := [.ref 63, .ref 44]) rfl rfl rfl rfl rfl rfl (rc_of (sh_T hs rfl rfl)) (rf_md_entry hs (d + 2) g (gm_I g 65 a1.toNat) (gm_I g 66 a1.toNat) (gm_I g 67 a1.toNat) (gm_I g 68 a1.toNat) ) fun v2 => (
      jr_g fun h3 => r_iald (len := 57600) (pc2 := 34) rfl rfl (sh_T hs rfl rfl) (sh_L hs rfl rfl) rfl h3 (
      r_aload (pc2 := 35) rfl rfl rfl (
      r_aload (pc2 := 36) rfl rfl rfl (
      r_getA (pc2 := 39) rfl rfl (sh_T hs rfl rfl) (sh_A hs rfl rfl) (
      r_iload (pc2 := 40) rfl rfl rfl (
      r_iald (len := 60) (pc2 := 41) rfl rfl (sh_T hs rfl rfl) (sh_L hs rfl rfl) rfl h1 (
      r_aload (pc2 := 42) rfl rfl rfl (
      r_getA (pc2 := 45) rfl rfl (sh_T hs rfl rfl) (sh_A hs rfl rfl) (
      r_iload (pc2 := 46) rfl rfl rfl (
      r_iald (len := 60) (pc2 := 47) rfl rfl (sh_T hs rfl rfl) (sh_L hs rfl rfl) rfl h1 (
      r_aload (pc2 := 48) rfl rfl rfl (
      r_getA (pc2 := 51) rfl rfl (sh_T hs rfl rfl) (sh_A hs rfl rfl) (
      r_iload (pc2 := 52) rfl rfl rfl (
      r_iald (len := 60) (pc2 := 53) rfl rfl (sh_T hs rfl rfl) (sh_L hs rfl rfl) rfl h1 (
      r_aload (pc2 := 54) rfl rfl rfl (
      r_getA (pc2 := 57) rfl rfl (sh_T hs rfl rfl) (sh_A hs rfl rfl) (
      r_iload (pc2 := 58) rfl rfl rfl (
      r_iald (len := 60) (pc2 := 59) rfl rfl (sh_T hs rfl rfl) (sh_L hs rfl rfl) rfl h1 (
      r_callVP (pc2 := 62) (args := [.ref 44, gv (gm_I g 65 a1.toNat), gv (gm_I g 66 a1.toNat), gv (gm_I g 67 a1.toNat), gv (gm_I g 68 a1.toNat)]) (st2 := [gv (gm_I g 63 v2.toNat), .ref 44]) rfl rfl rfl rfl rfl rfl (rc_of (sh_T hs rfl rfl)) (rf_md_fitX hs (d + 1) g (gm_I g 65 a1.toNat) (gm_I g 66 a1.toNat) (gm_I g 67 a1.toNat) (gm_I g 68 a1.toNat) ) fun v4 => (
      r_aload (pc2 := 63) rfl rfl rfl (
      r_aload (pc2 := 64) rfl rfl rfl (
      r_getA (pc2 := 67) rfl rfl (sh_T hs rfl rfl) (sh_A hs rfl rfl) (
      r_iload (pc2 := 68) rfl rfl rfl (
      r_iald (len := 60) (pc2 := 69) rfl rfl (sh_T hs rfl rfl) (sh_L hs rfl rfl) rfl h1 (
      r_aload (pc2 := 70) rfl rfl rfl (
      r_getA (pc2 := 73) rfl rfl (sh_T hs rfl rfl) (sh_A hs rfl rfl) (
      r_iload (pc2 := 74) rfl rfl rfl (
      r_iald (len := 60) (pc2 := 75) rfl rfl (sh_T hs rfl rfl) (sh_L hs rfl rfl) rfl h1 (
      r_aload (pc2 := 76) rfl rfl rfl (
      r_getA (pc2 := 79) rfl rfl (sh_T hs rfl rfl) (sh_A hs rfl rfl) (
      r_iload (pc2 := 80) rfl rfl rfl (
      r_iald (len := 60) (pc2 := 81) rfl rfl (sh_T hs rfl rfl) (sh_L hs rfl rfl) rfl h1 (
      r_aload (pc2 := 82) rfl rfl rfl (
      r_getA (pc2 := 85) rfl rfl (sh_T hs rfl rfl) (sh_A hs rfl rfl) (
      r_iload (pc2 := 86) rfl rfl rfl (
      r_iald (len := 60) (pc2 := 87) rfl rfl (sh_T hs rfl rfl) (sh_L hs rfl rfl) rfl h1 (
      r_callVP (pc2 := 90) (args := [.ref 44, gv (gm_I g 65 a1.toNat), gv (gm_I g 66 a1.toNat), gv (gm_I g 67 a1.toNat), gv (gm_I g 68 a1.toNat)]) (st2 := [gv v4, gv (gm_I g 63 v2.toNat), .ref 44]) rfl rfl rfl rfl rfl rfl (rc_of (sh_T hs rfl rfl)) (rf_md_fitY hs (d + 1) g (gm_I g 65 a1.toNat) (gm_I g 66 a1.toNat) (gm_I g 67 a1.toNat) (gm_I g 68 a1.toNat) ) fun v5 => (
      r_callVV (pc2 := 93) (args := [.ref 44, gv (gm_I g 63 v2.toNat), gv v4, gv v5]) (st2 := []) rfl rfl rfl rfl rfl rfl (rc_of (sh_T hs rfl rfl)) (rf_md_thenBack hs d g (gm_I g 63 v2.toNat) v4 v5 ) fun g6 => (
      r_vret rfl rfl)))))))))))))))))))))))))))))))))))))))))))))))))))))))))))))
theorem rf_md_sets {s : gm_S} {n m : Nat} (hs : gm_sh s n m) (d : Nat)  (g : gm_T) (a1 : Int) (a2 : Int)  : jr (eV s) (md_sets g a1 a2) (jm_cl jm_CD km_n (d + 1) 232 [.ref 44, gv a1, gv a2] (gm_h s g)) := by
  unfold md_sets
  exact (r_ent (cd := cd_232) (n := 3) (L0 := [some (.ref 44), some (gv a1), some (gv a2)]) rfl rfl rfl rfl (
      r_aload (pc2 := 1) rfl rfl rfl (
      r_getA (pc2 := 4) rfl rfl (sh_T hs rfl rfl) (sh_A hs rfl rfl) (
      r_iload (pc2 := 5) rfl rfl rfl (
      r_iload (pc2 := 6) rfl rfl rfl (
      jr_g fun h2 => r_iast (len := 30) (pc2 := 7) rfl rfl (sh_T hs rfl rfl) (sh_L hs rfl rfl) rfl h2 fun g1 => (
      r_aload (pc2 := 8) rfl rfl rfl (
      r_getA (pc2 := 11) rfl rfl (sh_T hs rfl rfl) (sh_A hs rfl rfl) (
      r_iload (pc2 := 12) rfl rfl rfl (
      r_aload (pc2 := 13) rfl rfl rfl (
      r_getI (pc2 := 16) rfl rfl (sh_T hs rfl rfl) (
      r_iast (len := 30) (pc2 := 17) rfl rfl (sh_T hs rfl rfl) (sh_L hs rfl rfl) rfl h2 fun g3 => (
      r_aload (pc2 := 18) rfl rfl rfl (
      r_getA (pc2 := 21) rfl rfl (sh_T hs rfl rfl) (sh_A hs rfl rfl) (
      r_iload (pc2 := 22) rfl rfl rfl (
      r_aload (pc2 := 23) rfl rfl rfl (
      r_getI (pc2 := 26) rfl rfl (sh_T hs rfl rfl) (
      r_iast (len := 30) (pc2 := 27) rfl rfl (sh_T hs rfl rfl) (sh_L hs rfl rfl) rfl h2 fun g4 => (
      r_aload (pc2 := 28) rfl rfl rfl (
      r_getA (pc2 := 31) rfl rfl (sh_T hs rfl rfl) (sh_A hs rfl rfl) (
      r_iload (pc2 := 32) rfl rfl rfl (
      r_aload (pc2 := 33) rfl rfl rfl (
      r_getI (pc2 := 36) rfl rfl (sh_T hs rfl rfl) (
      r_iast (len := 30) (pc2 := 37) rfl rfl (sh_T hs rfl rfl) (sh_L hs rfl rfl) rfl h2 fun g5 => (
      r_vret rfl rfl)))))))))))))))))))))))))
theorem rf_md_reaches {s : gm_S} {n m : Nat} (hs : gm_sh s n m) (d : Nat)  (g : gm_T) (a1 : Int) (a2 : Int)  : jr (eI s) (md_reaches g a1 a2) (jm_cl jm_CD km_n (d + 5) 233 [.ref 44, gv a1, gv a2] (gm_h s g)) := by
  unfold md_reaches
  exact (r_ent (cd := cd_233) (n := 5) (L0 := [some (.ref 44), some (gv a1), some (gv a2), none, none]) rfl rfl rfl rfl (
      r_aload (pc2 := 1) rfl rfl rfl (
      r_getA (pc2 := 4) rfl rfl (sh_T hs rfl rfl) (sh_A hs rfl rfl) (
      r_iload (pc2 := 5) rfl rfl rfl (
      jr_g fun h1 => r_iald (len := 60) (pc2 := 6) rfl rfl (sh_T hs rfl rfl) (sh_L hs rfl rfl) rfl h1 (
      r_istoreL (L3 := fun v2 => [some (.ref 44), some (gv a1), some (gv a2), some (gv v2), none]) (pc2 := 7) rfl rfl (fun _ => rfl) fun v2 => (
      r_aload (pc2 := 8) rfl rfl rfl (
      r_getA (pc2 := 11) rfl rfl (sh_T hs rfl rfl) (sh_A hs rfl rfl) (
      r_iload (pc2 := 12) rfl rfl rfl (
      r_iald (len := 60) (pc2 := 13) rfl rfl (sh_T hs rfl rfl) (sh_L hs rfl rfl) rfl h1 (
      r_istoreL (L3 := fun v3 => [some (.ref 44), some (gv a1), some (gv a2), some (gv v2), some (gv v3)]) (pc2 := 15) rfl rfl (fun _ => rfl) fun v3 => (
      r_aload (pc2 := 16) rfl rfl rfl (
      r_getA (pc2 := 19) rfl rfl (sh_T hs rfl rfl) (sh_A hs rfl rfl) (
      r_iload (pc2 := 20) rfl rfl rfl (
      r_iald (len := 60) (pc2 := 21) rfl rfl (sh_T hs rfl rfl) (sh_L hs rfl rfl) rfl h1 (
      jr_g fun h4 => r_ifeq (pc2 := 24) (t := 58) rfl h4 rfl (fun _ =>
      r_ic (x := 0) (pc2 := 59) rfl ic_0 rfl (
      r_zret rfl (by decide) rfl)) (fun _ =>
      r_aload (pc2 := 25) rfl rfl rfl (
      r_getA (pc2 := 28) rfl rfl (sh_T hs rfl rfl) (sh_A hs rfl rfl) (
      r_iload (pc2 := 29) rfl rfl rfl (
      jr_g fun h5 => r_iald (len := 30) (pc2 := 30) rfl rfl (sh_T hs rfl rfl) (sh_L hs rfl rfl) rfl h5 (
      r_iload (pc2 := 31) rfl rfl rfl (
      r_b1 (R1 := (fun (q : Int) (c : Option jm_R) => c = jm_sup cd_233 (jm_cl jm_CD km_n (d + 4)) (39, [some (.ref 44), some (gv a1), some (gv a2), some (gv v2), some (gv v3)], [gv q], gm_h s g))) (
      jr_g fun h7 => r_cne (pc2 := 34) (t := 38) rfl h7.1 h7.2 rfl (fun _ =>
      r_ic (x := 1) (pc2 := 35) rfl ic_1 rfl (
      r_goto (t := 39) rfl (
      jr_leaf rfl))) (fun _ =>
      r_ic (x := 0) (pc2 := 39) rfl ic_0 rfl (
      jr_leaf rfl))) (fun v6 c h => match c, h with | _, rfl => (
      r_aload (pc2 := 40) rfl rfl rfl (
      r_getA (pc2 := 43) rfl rfl (sh_T hs rfl rfl) (sh_A hs rfl rfl) (
      r_iload (pc2 := 45) rfl rfl rfl (
      jr_g fun h8 => r_iald (len := 30) (pc2 := 46) rfl rfl (sh_T hs rfl rfl) (sh_L hs rfl rfl) rfl h8 (
      r_iload (pc2 := 47) rfl rfl rfl (
      r_b1 (R1 := (fun (q : Int) (c : Option jm_R) => c = jm_sup cd_233 (jm_cl jm_CD km_n (d + 4)) (55, [some (.ref 44), some (gv a1), some (gv a2), some (gv v2), some (gv v3)], [gv q, gv v6], gm_h s g))) (
      jr_g fun h10 => r_cne (pc2 := 50) (t := 54) rfl h10.1 h10.2 rfl (fun _ =>
      r_ic (x := 1) (pc2 := 51) rfl ic_1 rfl (
      r_goto (t := 55) rfl (
      jr_leaf rfl))) (fun _ =>
      r_ic (x := 0) (pc2 := 55) rfl ic_0 rfl (
      jr_leaf rfl))) (fun v9 c h => match c, h with | _, rfl => (
      jr_g fun h11 => r_cne (pc2 := 58) (t := 60) rfl h11.1 h11.2 rfl (fun _ =>
      r_ic (x := 0) (pc2 := 59) rfl ic_0 rfl (
      r_zret rfl (by decide) rfl)) (fun _ =>
      r_aload (pc2 := 61) rfl rfl rfl (
      r_getA (pc2 := 64) rfl rfl (sh_T hs rfl rfl) (sh_A hs rfl rfl) (
      r_iload (pc2 := 65) rfl rfl rfl (
      r_iald (len := 30) (pc2 := 66) rfl rfl (sh_T hs rfl rfl) (sh_L hs rfl rfl) rfl h5 (
      r_iload (pc2 := 67) rfl rfl rfl (
      jr_g fun h12 => r_cne (pc2 := 70) (t := 107) rfl h12.1 h12.2 rfl (fun _ =>
      r_aload (pc2 := 71) rfl rfl rfl (
      r_aload (pc2 := 72) rfl rfl rfl (
      r_getA (pc2 := 75) rfl rfl (sh_T hs rfl rfl) (sh_A hs rfl rfl) (
      r_iload (pc2 := 76) rfl rfl rfl (
      r_iald (len := 30) (pc2 := 77) rfl rfl (sh_T hs rfl rfl) (sh_L hs rfl rfl) rfl h5 (
      r_aload (pc2 := 78) rfl rfl rfl (
      r_getA (pc2 := 81) rfl rfl (sh_T hs rfl rfl) (sh_A hs rfl rfl) (
      r_iload (pc2 := 82) rfl rfl rfl (
      r_iald (len := 30) (pc2 := 83) rfl rfl (sh_T hs rfl rfl) (sh_L hs rfl rfl) rfl h5 (
      r_aload (pc2 := 84) rfl rfl rfl (
      r_getA (pc2 := 87) rfl rfl (sh_T hs rfl rfl) (sh_A hs rfl rfl) (
      r_iload (pc2 := 88) rfl rfl rfl (
      r_iald (len := 30) (pc2 := 89) rfl rfl (sh_T hs rfl rfl) (sh_L hs rfl rfl) rfl h5 (
      r_callVV (pc2 := 92) (args := [.ref 44, gv (gm_I g 79 v2.toNat), gv (gm_I g 80 v2.toNat), gv (gm_I g 81 v2.toNat)]) (st2 := []) rfl rfl rfl rfl rfl rfl (rc_of (sh_T hs rfl rfl)) (rf_md_holds hs (d + 3) g (gm_I g 79 v2.toNat) (gm_I g 80 v2.toNat) (gm_I g 81 v2.toNat) ) fun g13 => (
      r_aload (pc2 := 93) rfl rfl rfl (
      r_iload (pc2 := 94) rfl rfl rfl (
      r_callVV (pc2 := 97) (args := [.ref 44, gv a1]) (st2 := []) rfl rfl rfl rfl rfl rfl (rc_of (sh_T hs rfl rfl)) (rf_md_thenJoin hs (d + 1) g13 a1 ) fun g14 => (
      r_aload (pc2 := 98) rfl rfl rfl (
      r_iload (pc2 := 100) rfl rfl rfl (
      r_iload (pc2 := 101) rfl rfl rfl (
      r_callVV (pc2 := 104) (args := [.ref 44, gv v3, gv a2]) (st2 := []) rfl rfl rfl rfl rfl rfl (rc_of (sh_T hs rfl rfl)) (rf_md_sets hs (d + 3) g14 v3 a2 ) fun g15 => (
      r_goto (t := 143) rfl (
      r_ic (x := 1) (pc2 := 144) rfl ic_1 rfl (
      r_zret rfl (by decide) rfl)))))))))))))))))))))))) (fun _ =>
      r_aload (pc2 := 108) rfl rfl rfl (
      r_aload (pc2 := 109) rfl rfl rfl (
      r_getA (pc2 := 112) rfl rfl (sh_T hs rfl rfl) (sh_A hs rfl rfl) (
      r_iload (pc2 := 114) rfl rfl rfl (
      r_iald (len := 30) (pc2 := 115) rfl rfl (sh_T hs rfl rfl) (sh_L hs rfl rfl) rfl h8 (
      r_aload (pc2 := 116) rfl rfl rfl (
      r_getA (pc2 := 119) rfl rfl (sh_T hs rfl rfl) (sh_A hs rfl rfl) (
      r_iload (pc2 := 121) rfl rfl rfl (
      r_iald (len := 30) (pc2 := 122) rfl rfl (sh_T hs rfl rfl) (sh_L hs rfl rfl) rfl h8 (
      r_aload (pc2 := 123) rfl rfl rfl (
      r_getA (pc2 := 126) rfl rfl (sh_T hs rfl rfl) (sh_A hs rfl rfl) (
      r_iload (pc2 := 128) rfl rfl rfl (
      r_iald (len := 30) (pc2 := 129) rfl rfl (sh_T hs rfl rfl) (sh_L hs rfl rfl) rfl h8 (
      r_callVV (pc2 := 132) (args := [.ref 44, gv (gm_I g 79 v3.toNat), gv (gm_I g 80 v3.toNat), gv (gm_I g 81 v3.toNat)]) (st2 := []) rfl rfl rfl rfl rfl rfl (rc_of (sh_T hs rfl rfl)) (rf_md_holds hs (d + 3) g (gm_I g 79 v3.toNat) (gm_I g 80 v3.toNat) (gm_I g 81 v3.toNat) ) fun g16 => (
      r_aload (pc2 := 133) rfl rfl rfl (
      r_iload (pc2 := 134) rfl rfl rfl (
      r_callVV (pc2 := 137) (args := [.ref 44, gv a1]) (st2 := []) rfl rfl rfl rfl rfl rfl (rc_of (sh_T hs rfl rfl)) (rf_md_thenJoinBack hs d g16 a1 ) fun g17 => (
      r_aload (pc2 := 138) rfl rfl rfl (
      r_iload (pc2 := 139) rfl rfl rfl (
      r_iload (pc2 := 140) rfl rfl rfl (
      r_callVV (pc2 := 143) (args := [.ref 44, gv v2, gv a2]) (st2 := []) rfl rfl rfl rfl rfl rfl (rc_of (sh_T hs rfl rfl)) (rf_md_sets hs (d + 3) g17 v2 a2 ) fun g18 => (
      r_ic (x := 1) (pc2 := 144) rfl ic_1 rfl (
      r_zret rfl (by decide) rfl))))))))))))))))))))))))))))))))))))))))))))))))))))))))))))
theorem rl_md_groups_l2 {s : gm_S} {n m : Nat} (hs : gm_sh s n m) (d : Nat)    : ∀ (fuel : Nat) (v1 : Int) (g2 : gm_T), jr (fun (q : gm_T) (c : Option jm_R) => ∃ (j3 : Option Value), jm_lg j3 = false ∧ c = jm_sup cd_231 (jm_cl jm_CD km_n (d + 5)) (23, [some (.ref 44), j3, none, none], [], gm_h s q)) (md_groups_l2   fuel v1 g2) (jm_sup cd_231 (jm_cl jm_CD km_n (d + 5)) (2, [some (.ref 44), some (gv v1), none, none], [], gm_h s g2)) := by
  intro fuel
  induction fuel with
  | zero => intros; exact jr_none
  | succ fuel ih =>
    intro v1 g2  
    unfold md_groups_l2
    exact (
      r_iload (pc2 := 3) rfl rfl rfl (
      r_aload (pc2 := 4) rfl rfl rfl (
      r_getI (pc2 := 7) rfl rfl (sh_T hs rfl rfl) (
      jr_g fun h5 => r_cge (pc2 := 10) (t := 23) rfl h5.1 h5.2 rfl (fun _ =>
      r_aload (pc2 := 11) rfl rfl rfl (
      r_getA (pc2 := 14) rfl rfl (sh_T hs rfl rfl) (sh_A hs rfl rfl) (
      r_iload (pc2 := 15) rfl rfl rfl (
      r_ic (x := -1) (pc2 := 16) rfl ic_m1 rfl (
      jr_g fun h7 => r_iast (len := 30) (pc2 := 17) rfl rfl (sh_T hs rfl rfl) (sh_L hs rfl rfl) rfl h7 fun g6 => (
      r_iinc (kk := 1) (L2 := [some (.ref 44), some (gv (v1 + 1)), none, none]) (pc2 := 20) rfl ic_1 rfl rfl rfl (
      r_goto (t := 2) rfl (
      ih (v1 + 1) g6)))))))) (fun _ =>
      jr_leaf ⟨_, rfl, rfl⟩)))))
theorem rl_md_groups_l81 {s : gm_S} {n m : Nat} (hs : gm_sh s n m) (d : Nat)  (c34 : Int)  : ∀ (fuel : Nat) (v35 : Int) (v36 : Int) (g37 : gm_T), jr (fun (q : Int × gm_T) (c : Option jm_R) => ∃ (j39 : Option Value), jm_lg j39 = false ∧ c = jm_sup cd_231 (jm_cl jm_CD km_n (d + 5)) (114, [some (.ref 44), some (gv c34), some (gv q.1), j39], [], gm_h s q.2)) (md_groups_l81  c34 fuel v35 v36 g37) (jm_sup cd_231 (jm_cl jm_CD km_n (d + 5)) (81, [some (.ref 44), some (gv c34), some (gv v35), some (gv v36)], [], gm_h s g37)) := by
  intro fuel
  induction fuel with
  | zero => intros; exact jr_none
  | succ fuel ih =>
    intro v35 v36 g37  
    unfold md_groups_l81
    exact (
      r_iload (pc2 := 82) rfl rfl rfl (
      r_aload (pc2 := 83) rfl rfl rfl (
      r_getI (pc2 := 86) rfl rfl (sh_T hs rfl rfl) (
      jr_g fun h41 => r_cge (pc2 := 89) (t := 114) rfl h41.1 h41.2 rfl (fun _ =>
      r_aload (pc2 := 90) rfl rfl rfl (
      r_iload (pc2 := 91) rfl rfl rfl (
      r_iload (pc2 := 92) rfl rfl rfl (
      r_callVI (pc2 := 95) (args := [.ref 44, gv v36, gv c34]) (st2 := []) rfl rfl rfl rfl rfl rfl (rc_of (sh_T hs rfl rfl)) (rf_md_reaches hs d g37 v36 c34 ) fun v42 g43 => (
      jr_g fun h44 => r_ifne (pc2 := 98) (t := 102) rfl h44 rfl (fun _ =>
      r_iload (pc2 := 99) rfl rfl rfl (
      jr_g fun h45 => r_ifeq (pc2 := 102) (t := 106) rfl h45 rfl (fun _ =>
      r_ic (x := 0) (pc2 := 107) rfl ic_0 rfl (
      r_istore (L2 := [some (.ref 44), some (gv c34), some (gv 0), some (gv v36)]) (pc2 := 108) rfl rfl rfl (
      r_iinc (kk := 1) (L2 := [some (.ref 44), some (gv c34), some (gv 0), some (gv (v36 + 1))]) (pc2 := 111) rfl ic_1 rfl rfl rfl (
      r_goto (t := 81) rfl (
      ih 0 (v36 + 1) g43))))) (fun _ =>
      r_ic (x := 1) (pc2 := 103) rfl ic_1 rfl (
      r_goto (t := 107) rfl (
      r_istore (L2 := [some (.ref 44), some (gv c34), some (gv 1), some (gv v36)]) (pc2 := 108) rfl rfl rfl (
      r_iinc (kk := 1) (L2 := [some (.ref 44), some (gv c34), some (gv 1), some (gv (v36 + 1))]) (pc2 := 111) rfl ic_1 rfl rfl rfl (
      r_goto (t := 81) rfl (
      ih 1 (v36 + 1) g43)))))))) (fun _ =>
      r_ic (x := 1) (pc2 := 103) rfl ic_1 rfl (
      r_goto (t := 107) rfl (
      r_istore (L2 := [some (.ref 44), some (gv c34), some (gv 1), some (gv v36)]) (pc2 := 108) rfl rfl rfl (
      r_iinc (kk := 1) (L2 := [some (.ref 44), some (gv c34), some (gv 1), some (gv (v36 + 1))]) (pc2 := 111) rfl ic_1 rfl rfl rfl (
      r_goto (t := 81) rfl (
      ih 1 (v36 + 1) g43))))))))))) (fun _ =>
      jr_leaf ⟨_, rfl, rfl⟩)))))
theorem rl_md_groups_l73 {s : gm_S} {n m : Nat} (hs : gm_sh s n m) (d : Nat)  (c26 : Int)  : ∀ (fuel : Nat) (v27 : Int) (g29 : gm_T) (j28 : Option Value) (hj28 : jm_lg j28 = false), jr (fun (q : gm_T) (c : Option jm_R) => ∃ (j30 : Option Value) (j31 : Option Value), jm_lg j30 = false ∧ jm_lg j31 = false ∧ c = jm_sup cd_231 (jm_cl jm_CD km_n (d + 5)) (117, [some (.ref 44), some (gv c26), j30, j31], [], gm_h s q)) (md_groups_l73  c26 fuel v27 g29) (jm_sup cd_231 (jm_cl jm_CD km_n (d + 5)) (73, [some (.ref 44), some (gv c26), some (gv v27), j28], [], gm_h s g29)) := by
  intro fuel
  induction fuel with
  | zero => intros; exact jr_none
  | succ fuel ih =>
    intro v27 g29 j28 hj28
    unfold md_groups_l73
    exact (
      r_iload (pc2 := 74) rfl rfl rfl (
      jr_g fun h33 => r_ifeq (pc2 := 77) (t := 117) rfl h33 rfl (fun _ =>
      jr_leaf ⟨_, _, rfl, hj28, rfl⟩) (fun _ =>
      r_ic (x := 0) (pc2 := 78) rfl ic_0 rfl (
      r_istore (L2 := [some (.ref 44), some (gv c26), some (gv 0), j28]) (pc2 := 79) rfl rfl rfl (
      r_ic (x := 0) (pc2 := 80) rfl ic_0 rfl (
      r_istore (L2 := [some (.ref 44), some (gv c26), some (gv 0), some (gv 0)]) (pc2 := 81) rfl rfl rfl (
      r_b2 (rl_md_groups_l81 hs d   c26  fz 0 0 g29  ) (fun v49 g51 c h => match c, h with | _, ⟨j50, hj50, rfl⟩ => (
      r_goto (t := 73) rfl (
      ih v49 g51 _ hj50))))))))))
theorem rl_md_groups_l25 {s : gm_S} {n m : Nat} (hs : gm_sh s n m) (d : Nat)    : ∀ (fuel : Nat) (v11 : Int) (g14 : gm_T) (j12 : Option Value) (j13 : Option Value) (hj12 : jm_lg j12 = false) (hj13 : jm_lg j13 = false), jr (fun (q : gm_T) (c : Option jm_R) => ∃ (j15 : Option Value) (j16 : Option Value) (j17 : Option Value), jm_lg j15 = false ∧ jm_lg j16 = false ∧ jm_lg j17 = false ∧ c = jm_sup cd_231 (jm_cl jm_CD km_n (d + 5)) (123, [some (.ref 44), j15, j16, j17], [], gm_h s q)) (md_groups_l25   fuel v11 g14) (jm_sup cd_231 (jm_cl jm_CD km_n (d + 5)) (25, [some (.ref 44), some (gv v11), j12, j13], [], gm_h s g14)) := by
  intro fuel
  induction fuel with
  | zero => intros; exact jr_none
  | succ fuel ih =>
    intro v11 g14 j12 j13 hj12 hj13
    unfold md_groups_l25
    exact (
      r_iload (pc2 := 26) rfl rfl rfl (
      r_aload (pc2 := 27) rfl rfl rfl (
      r_getI (pc2 := 30) rfl rfl (sh_T hs rfl rfl) (
      jr_g fun h19 => r_cge (pc2 := 33) (t := 123) rfl h19.1 h19.2 rfl (fun _ =>
      r_aload (pc2 := 34) rfl rfl rfl (
      r_getA (pc2 := 37) rfl rfl (sh_T hs rfl rfl) (sh_A hs rfl rfl) (
      r_iload (pc2 := 38) rfl rfl rfl (
      jr_g fun h20 => r_iald (len := 30) (pc2 := 39) rfl rfl (sh_T hs rfl rfl) (sh_L hs rfl rfl) rfl h20 (
      r_ic (x := -1) (pc2 := 40) rfl ic_m1 rfl (
      jr_g fun h21 => r_cne (pc2 := 43) (t := 117) rfl h21 (rgk rfl) rfl (fun _ =>
      r_aload (pc2 := 44) rfl rfl rfl (
      r_getA (pc2 := 47) rfl rfl (sh_T hs rfl rfl) (sh_A hs rfl rfl) (
      r_iload (pc2 := 48) rfl rfl rfl (
      r_iload (pc2 := 49) rfl rfl rfl (
      r_iast (len := 30) (pc2 := 50) rfl rfl (sh_T hs rfl rfl) (sh_L hs rfl rfl) rfl h20 fun g22 => (
      r_aload (pc2 := 51) rfl rfl rfl (
      r_getA (pc2 := 54) rfl rfl (sh_T hs rfl rfl) (sh_A hs rfl rfl) (
      r_iload (pc2 := 55) rfl rfl rfl (
      r_ic (x := 0) (pc2 := 56) rfl ic_0 rfl (
      r_iast (len := 30) (pc2 := 57) rfl rfl (sh_T hs rfl rfl) (sh_L hs rfl rfl) rfl h20 fun g23 => (
      r_aload (pc2 := 58) rfl rfl rfl (
      r_getA (pc2 := 61) rfl rfl (sh_T hs rfl rfl) (sh_A hs rfl rfl) (
      r_iload (pc2 := 62) rfl rfl rfl (
      r_ic (x := 0) (pc2 := 63) rfl ic_0 rfl (
      r_iast (len := 30) (pc2 := 64) rfl rfl (sh_T hs rfl rfl) (sh_L hs rfl rfl) rfl h20 fun g24 => (
      r_aload (pc2 := 65) rfl rfl rfl (
      r_getA (pc2 := 68) rfl rfl (sh_T hs rfl rfl) (sh_A hs rfl rfl) (
      r_iload (pc2 := 69) rfl rfl rfl (
      r_ic (x := 0) (pc2 := 70) rfl ic_0 rfl (
      r_iast (len := 30) (pc2 := 71) rfl rfl (sh_T hs rfl rfl) (sh_L hs rfl rfl) rfl h20 fun g25 => (
      r_ic (x := 1) (pc2 := 72) rfl ic_1 rfl (
      r_istore (L2 := [some (.ref 44), some (gv v11), some (gv 1), j13]) (pc2 := 73) rfl rfl rfl (
      r_b1 (rl_md_groups_l73 hs d   v11  fz 1 g25 _ hj13) (fun g54 c h => match c, h with | _, ⟨j52, j53, hj52, hj53, rfl⟩ => (
      r_iinc (kk := 1) (L2 := [some (.ref 44), some (gv (v11 + 1)), j52, j53]) (pc2 := 120) rfl ic_1 rfl rfl rfl (
      r_goto (t := 25) rfl (
      ih (v11 + 1) g54 _ _ hj52 hj53))))))))))))))))))))))))))) (fun _ =>
      r_iinc (kk := 1) (L2 := [some (.ref 44), some (gv (v11 + 1)), j12, j13]) (pc2 := 120) rfl ic_1 rfl rfl rfl (
      r_goto (t := 25) rfl (
      ih (v11 + 1) g14 _ _ hj12 hj13))))))))) (fun _ =>
      jr_leaf ⟨_, _, _, rfl, hj12, hj13, rfl⟩)))))
theorem rf_md_groups {s : gm_S} {n m : Nat} (hs : gm_sh s n m) (d : Nat)  (g : gm_T)   : jr (eV s) (md_groups g ) (jm_cl jm_CD km_n (d + 6) 231 [.ref 44] (gm_h s g)) := by
  unfold md_groups
  exact (r_ent (cd := cd_231) (n := 4) (L0 := [some (.ref 44), none, none, none]) rfl rfl rfl rfl (
      r_ic (x := 0) (pc2 := 1) rfl ic_0 rfl (
      r_istore (L2 := [some (.ref 44), some (gv 0), none, none]) (pc2 := 2) rfl rfl rfl (
      r_b1 (rl_md_groups_l2 hs d     fz 0 g  ) (fun g10 c h => match c, h with | _, ⟨j9, hj9, rfl⟩ => (
      r_ic (x := 0) (pc2 := 24) rfl ic_0 rfl (
      r_istore (L2 := [some (.ref 44), some (gv 0), none, none]) (pc2 := 25) rfl rfl rfl (
      r_b1 (rl_md_groups_l25 hs d     fz 0 g10 _ _ rfl rfl) (fun g60 c h => match c, h with | _, ⟨j57, j58, j59, hj57, hj58, hj59, rfl⟩ => (
      r_vret rfl rfl))))))))))
theorem rf_md_within {s : gm_S} {n m : Nat} (hs : gm_sh s n m) (d : Nat)  (g : gm_T) (a1 : Int) (a2 : Int)  : jr (eV s) (md_within g a1 a2) (jm_cl jm_CD km_n (d + 4) 234 [.ref 44, gv a1, gv a2] (gm_h s g)) := by
  unfold md_within
  exact (r_ent (cd := cd_234) (n := 3) (L0 := [some (.ref 44), some (gv a1), some (gv a2)]) rfl rfl rfl rfl (
      r_aload (pc2 := 1) rfl rfl rfl (
      r_ic (x := 0) (pc2 := 2) rfl ic_0 rfl (
      r_ic (x := 0) (pc2 := 3) rfl ic_0 rfl (
      r_ic (x := 0) (pc2 := 4) rfl ic_0 rfl (
      r_callVV (pc2 := 7) (args := [.ref 44, gv 0, gv 0, gv 0]) (st2 := []) rfl rfl rfl rfl rfl rfl (rc_of (sh_T hs rfl rfl)) (rf_md_holds hs (d + 2) g 0 0 0 ) fun g1 => (
      r_aload (pc2 := 8) rfl rfl rfl (
      r_aload (pc2 := 9) rfl rfl rfl (
      r_getA (pc2 := 12) rfl rfl (sh_T hs rfl rfl) (sh_A hs rfl rfl) (
      r_iload (pc2 := 13) rfl rfl rfl (
      jr_g fun h2 => r_iald (len := 30) (pc2 := 14) rfl rfl (sh_T hs rfl rfl) (sh_L hs rfl rfl) rfl h2 (
      r_aload (pc2 := 15) rfl rfl rfl (
      r_getA (pc2 := 18) rfl rfl (sh_T hs rfl rfl) (sh_A hs rfl rfl) (
      r_iload (pc2 := 19) rfl rfl rfl (
      r_iald (len := 30) (pc2 := 20) rfl rfl (sh_T hs rfl rfl) (sh_L hs rfl rfl) rfl h2 (
      r_aload (pc2 := 21) rfl rfl rfl (
      r_getA (pc2 := 24) rfl rfl (sh_T hs rfl rfl) (sh_A hs rfl rfl) (
      r_iload (pc2 := 25) rfl rfl rfl (
      r_iald (len := 30) (pc2 := 26) rfl rfl (sh_T hs rfl rfl) (sh_L hs rfl rfl) rfl h2 (
      r_callVV (pc2 := 29) (args := [.ref 44, gv (gm_I g1 79 a1.toNat), gv (gm_I g1 80 a1.toNat), gv (gm_I g1 81 a1.toNat)]) (st2 := []) rfl rfl rfl rfl rfl rfl (rc_of (sh_T hs rfl rfl)) (rf_md_thenBack hs d g1 (gm_I g1 79 a1.toNat) (gm_I g1 80 a1.toNat) (gm_I g1 81 a1.toNat) ) fun g3 => (
      r_aload (pc2 := 30) rfl rfl rfl (
      r_aload (pc2 := 31) rfl rfl rfl (
      r_getA (pc2 := 34) rfl rfl (sh_T hs rfl rfl) (sh_A hs rfl rfl) (
      r_iload (pc2 := 35) rfl rfl rfl (
      jr_g fun h4 => r_iald (len := 30) (pc2 := 36) rfl rfl (sh_T hs rfl rfl) (sh_L hs rfl rfl) rfl h4 (
      r_aload (pc2 := 37) rfl rfl rfl (
      r_getA (pc2 := 40) rfl rfl (sh_T hs rfl rfl) (sh_A hs rfl rfl) (
      r_iload (pc2 := 41) rfl rfl rfl (
      r_iald (len := 30) (pc2 := 42) rfl rfl (sh_T hs rfl rfl) (sh_L hs rfl rfl) rfl h4 (
      r_aload (pc2 := 43) rfl rfl rfl (
      r_getA (pc2 := 46) rfl rfl (sh_T hs rfl rfl) (sh_A hs rfl rfl) (
      r_iload (pc2 := 47) rfl rfl rfl (
      r_iald (len := 30) (pc2 := 48) rfl rfl (sh_T hs rfl rfl) (sh_L hs rfl rfl) rfl h4 (
      r_callVV (pc2 := 51) (args := [.ref 44, gv (gm_I g3 79 a2.toNat), gv (gm_I g3 80 a2.toNat), gv (gm_I g3 81 a2.toNat)]) (st2 := []) rfl rfl rfl rfl rfl rfl (rc_of (sh_T hs rfl rfl)) (rf_md_then hs (d + 1) g3 (gm_I g3 79 a2.toNat) (gm_I g3 80 a2.toNat) (gm_I g3 81 a2.toNat) ) fun g5 => (
      r_vret rfl rfl)))))))))))))))))))))))))))))))))))
theorem rf_md_thenWithin {s : gm_S} {n m : Nat} (hs : gm_sh s n m) (d : Nat)  (g : gm_T) (a1 : Int) (a2 : Int)  : jr (eV s) (md_thenWithin g a1 a2) (jm_cl jm_CD km_n (d + 4) 235 [.ref 44, gv a1, gv a2] (gm_h s g)) := by
  unfold md_thenWithin
  exact (r_ent (cd := cd_235) (n := 3) (L0 := [some (.ref 44), some (gv a1), some (gv a2)]) rfl rfl rfl rfl (
      r_aload (pc2 := 1) rfl rfl rfl (
      r_aload (pc2 := 2) rfl rfl rfl (
      r_getA (pc2 := 5) rfl rfl (sh_T hs rfl rfl) (sh_A hs rfl rfl) (
      r_iload (pc2 := 6) rfl rfl rfl (
      jr_g fun h1 => r_iald (len := 30) (pc2 := 7) rfl rfl (sh_T hs rfl rfl) (sh_L hs rfl rfl) rfl h1 (
      r_aload (pc2 := 8) rfl rfl rfl (
      r_getA (pc2 := 11) rfl rfl (sh_T hs rfl rfl) (sh_A hs rfl rfl) (
      r_iload (pc2 := 12) rfl rfl rfl (
      r_iald (len := 30) (pc2 := 13) rfl rfl (sh_T hs rfl rfl) (sh_L hs rfl rfl) rfl h1 (
      r_aload (pc2 := 14) rfl rfl rfl (
      r_getA (pc2 := 17) rfl rfl (sh_T hs rfl rfl) (sh_A hs rfl rfl) (
      r_iload (pc2 := 18) rfl rfl rfl (
      r_iald (len := 30) (pc2 := 19) rfl rfl (sh_T hs rfl rfl) (sh_L hs rfl rfl) rfl h1 (
      r_callVV (pc2 := 22) (args := [.ref 44, gv (gm_I g 79 a1.toNat), gv (gm_I g 80 a1.toNat), gv (gm_I g 81 a1.toNat)]) (st2 := []) rfl rfl rfl rfl rfl rfl (rc_of (sh_T hs rfl rfl)) (rf_md_thenBack hs d g (gm_I g 79 a1.toNat) (gm_I g 80 a1.toNat) (gm_I g 81 a1.toNat) ) fun g2 => (
      r_aload (pc2 := 23) rfl rfl rfl (
      r_aload (pc2 := 24) rfl rfl rfl (
      r_getA (pc2 := 27) rfl rfl (sh_T hs rfl rfl) (sh_A hs rfl rfl) (
      r_iload (pc2 := 28) rfl rfl rfl (
      jr_g fun h3 => r_iald (len := 30) (pc2 := 29) rfl rfl (sh_T hs rfl rfl) (sh_L hs rfl rfl) rfl h3 (
      r_aload (pc2 := 30) rfl rfl rfl (
      r_getA (pc2 := 33) rfl rfl (sh_T hs rfl rfl) (sh_A hs rfl rfl) (
      r_iload (pc2 := 34) rfl rfl rfl (
      r_iald (len := 30) (pc2 := 35) rfl rfl (sh_T hs rfl rfl) (sh_L hs rfl rfl) rfl h3 (
      r_aload (pc2 := 36) rfl rfl rfl (
      r_getA (pc2 := 39) rfl rfl (sh_T hs rfl rfl) (sh_A hs rfl rfl) (
      r_iload (pc2 := 40) rfl rfl rfl (
      r_iald (len := 30) (pc2 := 41) rfl rfl (sh_T hs rfl rfl) (sh_L hs rfl rfl) rfl h3 (
      r_callVV (pc2 := 44) (args := [.ref 44, gv (gm_I g2 79 a2.toNat), gv (gm_I g2 80 a2.toNat), gv (gm_I g2 81 a2.toNat)]) (st2 := []) rfl rfl rfl rfl rfl rfl (rc_of (sh_T hs rfl rfl)) (rf_md_then hs (d + 1) g2 (gm_I g2 79 a2.toNat) (gm_I g2 80 a2.toNat) (gm_I g2 81 a2.toNat) ) fun g4 => (
      r_vret rfl rfl))))))))))))))))))))))))))))))
theorem rf_md_leads {s : gm_S} {n m : Nat} (hs : gm_sh s n m) (d : Nat)  (g : gm_T) (a1 : Int) (a2 : Int)  : jr (pI s g) (md_leads g a1 a2) (jm_cl jm_CD km_n (d + 1) 236 [.ref 44, gv a1, gv a2] (gm_h s g)) := by
  unfold md_leads
  exact (r_ent (cd := cd_236) (n := 3) (L0 := [some (.ref 44), some (gv a1), some (gv a2)]) rfl rfl rfl rfl (
      r_aload (pc2 := 1) rfl rfl rfl (
      r_getA (pc2 := 4) rfl rfl (sh_T hs rfl rfl) (sh_A hs rfl rfl) (
      r_iload (pc2 := 5) rfl rfl rfl (
      jr_g fun h1 => r_iald (len := 60) (pc2 := 6) rfl rfl (sh_T hs rfl rfl) (sh_L hs rfl rfl) rfl h1 (
      jr_g fun h2 => r_ifeq (pc2 := 9) (t := 26) rfl h2 rfl (fun _ =>
      r_ic (x := 0) (pc2 := 27) rfl ic_0 rfl (
      r_zret rfl (by decide) rfl)) (fun _ =>
      r_iload (pc2 := 10) rfl rfl rfl (
      jr_g fun h3 => r_ifeq (pc2 := 13) (t := 22) rfl h3 rfl (fun _ =>
      r_ic (x := 1) (pc2 := 23) rfl ic_1 rfl (
      r_goto (t := 27) rfl (
      r_zret rfl (by decide) rfl))) (fun _ =>
      r_aload (pc2 := 14) rfl rfl rfl (
      r_getA (pc2 := 17) rfl rfl (sh_T hs rfl rfl) (sh_A hs rfl rfl) (
      r_iload (pc2 := 18) rfl rfl rfl (
      r_iald (len := 60) (pc2 := 19) rfl rfl (sh_T hs rfl rfl) (sh_L hs rfl rfl) rfl h1 (
      jr_g fun h4 => r_ifeq (pc2 := 22) (t := 26) rfl h4 rfl (fun _ =>
      r_ic (x := 0) (pc2 := 27) rfl ic_0 rfl (
      r_zret rfl (by decide) rfl)) (fun _ =>
      r_ic (x := 1) (pc2 := 23) rfl ic_1 rfl (
      r_goto (t := 27) rfl (
      r_zret rfl (by decide) rfl))))))))))))))))
theorem rl_md_reckons_l2 {s : gm_S} {n m : Nat} (hs : gm_sh s n m) (d : Nat)  (c1 : Int) (c2 : Int)  : ∀ (fuel : Nat) (v3 : Int) (g4 : gm_T), jr (fun (q : gm_T) (c : Option jm_R) => ∃ (j5 : Option Value), jm_lg j5 = false ∧ c = jm_sup cd_237 (jm_cl jm_CD km_n (d + 1)) (32, [some (.ref 44), some (gv c1), some (gv c2), j5, none, none, none], [], gm_h s q)) (md_reckons_l2  c1 c2 fuel v3 g4) (jm_sup cd_237 (jm_cl jm_CD km_n (d + 1)) (2, [some (.ref 44), some (gv c1), some (gv c2), some (gv v3), none, none, none], [], gm_h s g4)) := by
  intro fuel
  induction fuel with
  | zero => intros; exact jr_none
  | succ fuel ih =>
    intro v3 g4  
    unfold md_reckons_l2
    exact (
      r_iload (pc2 := 3) rfl rfl rfl (
      r_aload (pc2 := 4) rfl rfl rfl (
      r_getI (pc2 := 7) rfl rfl (sh_T hs rfl rfl) (
      jr_g fun h7 => r_cge (pc2 := 10) (t := 32) rfl h7.1 h7.2 rfl (fun _ =>
      r_aload (pc2 := 11) rfl rfl rfl (
      r_getA (pc2 := 14) rfl rfl (sh_T hs rfl rfl) (sh_A hs rfl rfl) (
      r_iload (pc2 := 15) rfl rfl rfl (
      r_iload (pc2 := 16) rfl rfl rfl (
      r_iload (pc2 := 17) rfl rfl rfl (
      jr_g fun h8 => r_cne (pc2 := 20) (t := 24) rfl h7.1 h8 rfl (fun _ =>
      r_ic (x := 0) (pc2 := 21) rfl ic_0 rfl (
      r_goto (t := 25) rfl (
      jr_g fun h10 => r_iast (len := 30) (pc2 := 26) rfl rfl (sh_T hs rfl rfl) (sh_L hs rfl rfl) rfl h10 fun g9 => (
      r_iinc (kk := 1) (L2 := [some (.ref 44), some (gv c1), some (gv c2), some (gv (v3 + 1)), none, none, none]) (pc2 := 29) rfl ic_1 rfl rfl rfl (
      r_goto (t := 2) rfl (
      ih (v3 + 1) g9)))))) (fun _ =>
      r_ic (x := -1) (pc2 := 25) rfl ic_m1 rfl (
      jr_g fun h13 => r_iast (len := 30) (pc2 := 26) rfl rfl (sh_T hs rfl rfl) (sh_L hs rfl rfl) rfl h13 fun g12 => (
      r_iinc (kk := 1) (L2 := [some (.ref 44), some (gv c1), some (gv c2), some (gv (v3 + 1)), none, none, none]) (pc2 := 29) rfl ic_1 rfl rfl rfl (
      r_goto (t := 2) rfl (
      ih (v3 + 1) g12))))))))))) (fun _ =>
      jr_leaf ⟨_, rfl, rfl⟩)))))
theorem rl_md_reckons_l45 {s : gm_S} {n m : Nat} (hs : gm_sh s n m) (d : Nat)  (c31 : Int) (c32 : Int)  : ∀ (fuel : Nat) (v33 : Int) (g36 : gm_T) (j30 : Option Value) (j34 : Option Value) (j35 : Option Value) (hj30 : jm_lg j30 = false) (hj34 : jm_lg j34 = false) (hj35 : jm_lg j35 = false), jr (fun (q : gm_T) (c : Option jm_R) => ∃ (j37 : Option Value) (j38 : Option Value) (j39 : Option Value), jm_lg j37 = false ∧ jm_lg j38 = false ∧ jm_lg j39 = false ∧ c = jm_sup cd_237 (jm_cl jm_CD km_n (d + 1)) (165, [some (.ref 44), j30, some (gv c31), some (gv c32), j37, j38, j39], [], gm_h s q)) (md_reckons_l45  c31 c32 fuel v33 g36) (jm_sup cd_237 (jm_cl jm_CD km_n (d + 1)) (45, [some (.ref 44), j30, some (gv c31), some (gv c32), some (gv v33), j34, j35], [], gm_h s g36)) := by
  intro fuel
  induction fuel with
  | zero => intros; exact jr_none
  | succ fuel ih =>
    intro v33 g36 j30 j34 j35 hj30 hj34 hj35
    unfold md_reckons_l45
    exact (
      r_iload (pc2 := 47) rfl rfl rfl (
      r_aload (pc2 := 48) rfl rfl rfl (
      r_getI (pc2 := 51) rfl rfl (sh_T hs rfl rfl) (
      jr_g fun h41 => r_cge (pc2 := 54) (t := 165) rfl h41.1 h41.2 rfl (fun _ =>
      r_aload (pc2 := 55) rfl rfl rfl (
      r_getA (pc2 := 58) rfl rfl (sh_T hs rfl rfl) (sh_A hs rfl rfl) (
      r_iload (pc2 := 60) rfl rfl rfl (
      jr_g fun h42 => r_iald (len := 60) (pc2 := 61) rfl rfl (sh_T hs rfl rfl) (sh_L hs rfl rfl) rfl h42 (
      r_istoreL (L3 := fun v43 => [some (.ref 44), j30, some (gv c31), some (gv c32), some (gv v33), some (gv v43), j35]) (pc2 := 63) rfl rfl (fun _ => rfl) fun v43 => (
      r_aload (pc2 := 64) rfl rfl rfl (
      r_getA (pc2 := 67) rfl rfl (sh_T hs rfl rfl) (sh_A hs rfl rfl) (
      r_iload (pc2 := 69) rfl rfl rfl (
      r_iald (len := 60) (pc2 := 70) rfl rfl (sh_T hs rfl rfl) (sh_L hs rfl rfl) rfl h42 (
      r_istoreL (L3 := fun v44 => [some (.ref 44), j30, some (gv c31), some (gv c32), some (gv v33), some (gv v43), some (gv v44)]) (pc2 := 72) rfl rfl (fun _ => rfl) fun v44 => (
      r_aload (pc2 := 73) rfl rfl rfl (
      r_iload (pc2 := 75) rfl rfl rfl (
      r_iload (pc2 := 76) rfl rfl rfl (
      r_callVP (pc2 := 79) (args := [.ref 44, gv v33, gv c31]) (st2 := []) rfl rfl rfl rfl rfl rfl (rc_of (sh_T hs rfl rfl)) (rf_md_leads hs d g36 v33 c31 ) fun v45 => (
      jr_g fun h46 => r_ifeq (pc2 := 82) (t := 117) rfl h46 rfl (fun _ =>
      r_aload (pc2 := 118) rfl rfl rfl (
      r_iload (pc2 := 120) rfl rfl rfl (
      r_iload (pc2 := 121) rfl rfl rfl (
      r_callVP (pc2 := 124) (args := [.ref 44, gv v33, gv c31]) (st2 := []) rfl rfl rfl rfl rfl rfl (rc_of (sh_T hs rfl rfl)) (rf_md_leads hs d g36 v33 c31 ) fun v47 => (
      jr_g fun h48 => r_ifeq (pc2 := 127) (t := 159) rfl h48 rfl (fun _ =>
      r_iinc (kk := 1) (L2 := [some (.ref 44), j30, some (gv c31), some (gv c32), some (gv (v33 + 1)), some (gv v43), some (gv v44)]) (pc2 := 162) rfl ic_1 rfl rfl rfl (
      r_goto (t := 45) rfl (
      ih (v33 + 1) g36 _ _ _ hj30 rfl rfl))) (fun _ =>
      r_aload (pc2 := 128) rfl rfl rfl (
      r_getA (pc2 := 131) rfl rfl (sh_T hs rfl rfl) (sh_A hs rfl rfl) (
      r_iload (pc2 := 133) rfl rfl rfl (
      jr_g fun h50 => r_iald (len := 30) (pc2 := 134) rfl rfl (sh_T hs rfl rfl) (sh_L hs rfl rfl) rfl h50 (
      r_iload (pc2 := 135) rfl rfl rfl (
      jr_g fun h51 => r_cne (pc2 := 138) (t := 159) rfl h51.1 h51.2 rfl (fun _ =>
      r_aload (pc2 := 139) rfl rfl rfl (
      r_getA (pc2 := 142) rfl rfl (sh_T hs rfl rfl) (sh_A hs rfl rfl) (
      r_iload (pc2 := 144) rfl rfl rfl (
      jr_g fun h52 => r_iald (len := 30) (pc2 := 145) rfl rfl (sh_T hs rfl rfl) (sh_L hs rfl rfl) rfl h52 (
      r_ic (x := -1) (pc2 := 146) rfl ic_m1 rfl (
      jr_g fun h53 => r_cne (pc2 := 149) (t := 159) rfl h53 (rgk rfl) rfl (fun _ =>
      r_aload (pc2 := 150) rfl rfl rfl (
      r_getA (pc2 := 153) rfl rfl (sh_T hs rfl rfl) (sh_A hs rfl rfl) (
      r_iload (pc2 := 155) rfl rfl rfl (
      r_iload (pc2 := 156) rfl rfl rfl (
      r_ic (x := 1) (pc2 := 157) rfl ic_1 rfl (
      r_iadd (pc2 := 158) rfl rfl (
      r_iast (len := 30) (pc2 := 159) rfl rfl (sh_T hs rfl rfl) (sh_L hs rfl rfl) rfl h52 fun g54 => (
      r_iinc (kk := 1) (L2 := [some (.ref 44), j30, some (gv c31), some (gv c32), some (gv (v33 + 1)), some (gv v43), some (gv v44)]) (pc2 := 162) rfl ic_1 rfl rfl rfl (
      r_goto (t := 45) rfl (
      ih (v33 + 1) g54 _ _ _ hj30 rfl rfl)))))))))) (fun _ =>
      r_iinc (kk := 1) (L2 := [some (.ref 44), j30, some (gv c31), some (gv c32), some (gv (v33 + 1)), some (gv v43), some (gv v44)]) (pc2 := 162) rfl ic_1 rfl rfl rfl (
      r_goto (t := 45) rfl (
      ih (v33 + 1) g36 _ _ _ hj30 rfl rfl))))))))) (fun _ =>
      r_iinc (kk := 1) (L2 := [some (.ref 44), j30, some (gv c31), some (gv c32), some (gv (v33 + 1)), some (gv v43), some (gv v44)]) (pc2 := 162) rfl ic_1 rfl rfl rfl (
      r_goto (t := 45) rfl (
      ih (v33 + 1) g36 _ _ _ hj30 rfl rfl)))))))))))))) (fun _ =>
      r_aload (pc2 := 83) rfl rfl rfl (
      r_getA (pc2 := 86) rfl rfl (sh_T hs rfl rfl) (sh_A hs rfl rfl) (
      r_iload (pc2 := 88) rfl rfl rfl (
      jr_g fun h58 => r_iald (len := 30) (pc2 := 89) rfl rfl (sh_T hs rfl rfl) (sh_L hs rfl rfl) rfl h58 (
      r_iload (pc2 := 90) rfl rfl rfl (
      jr_g fun h59 => r_cne (pc2 := 93) (t := 117) rfl h59.1 h59.2 rfl (fun _ =>
      r_aload (pc2 := 94) rfl rfl rfl (
      r_getA (pc2 := 97) rfl rfl (sh_T hs rfl rfl) (sh_A hs rfl rfl) (
      r_iload (pc2 := 99) rfl rfl rfl (
      jr_g fun h60 => r_iald (len := 30) (pc2 := 100) rfl rfl (sh_T hs rfl rfl) (sh_L hs rfl rfl) rfl h60 (
      r_ic (x := -1) (pc2 := 101) rfl ic_m1 rfl (
      jr_g fun h61 => r_cne (pc2 := 104) (t := 117) rfl h61 (rgk rfl) rfl (fun _ =>
      r_aload (pc2 := 105) rfl rfl rfl (
      r_getA (pc2 := 108) rfl rfl (sh_T hs rfl rfl) (sh_A hs rfl rfl) (
      r_iload (pc2 := 110) rfl rfl rfl (
      r_iload (pc2 := 111) rfl rfl rfl (
      r_ic (x := 1) (pc2 := 112) rfl ic_1 rfl (
      r_iadd (pc2 := 113) rfl rfl (
      r_iast (len := 30) (pc2 := 114) rfl rfl (sh_T hs rfl rfl) (sh_L hs rfl rfl) rfl h60 fun g62 => (
      r_goto (t := 159) rfl (
      r_iinc (kk := 1) (L2 := [some (.ref 44), j30, some (gv c31), some (gv c32), some (gv (v33 + 1)), some (gv v43), some (gv v44)]) (pc2 := 162) rfl ic_1 rfl rfl rfl (
      r_goto (t := 45) rfl (
      ih (v33 + 1) g62 _ _ _ hj30 rfl rfl))))))))))) (fun _ =>
      r_aload (pc2 := 118) rfl rfl rfl (
      r_iload (pc2 := 120) rfl rfl rfl (
      r_iload (pc2 := 121) rfl rfl rfl (
      r_callVP (pc2 := 124) (args := [.ref 44, gv v33, gv c31]) (st2 := []) rfl rfl rfl rfl rfl rfl (rc_of (sh_T hs rfl rfl)) (rf_md_leads hs d g36 v33 c31 ) fun v64 => (
      jr_g fun h65 => r_ifeq (pc2 := 127) (t := 159) rfl h65 rfl (fun _ =>
      r_iinc (kk := 1) (L2 := [some (.ref 44), j30, some (gv c31), some (gv c32), some (gv (v33 + 1)), some (gv v43), some (gv v44)]) (pc2 := 162) rfl ic_1 rfl rfl rfl (
      r_goto (t := 45) rfl (
      ih (v33 + 1) g36 _ _ _ hj30 rfl rfl))) (fun _ =>
      r_aload (pc2 := 128) rfl rfl rfl (
      r_getA (pc2 := 131) rfl rfl (sh_T hs rfl rfl) (sh_A hs rfl rfl) (
      r_iload (pc2 := 133) rfl rfl rfl (
      r_iald (len := 30) (pc2 := 134) rfl rfl (sh_T hs rfl rfl) (sh_L hs rfl rfl) rfl h60 (
      r_iload (pc2 := 135) rfl rfl rfl (
      r_cne (pc2 := 138) (t := 159) rfl h61 h59.2 rfl (fun _ =>
      r_aload (pc2 := 139) rfl rfl rfl (
      r_getA (pc2 := 142) rfl rfl (sh_T hs rfl rfl) (sh_A hs rfl rfl) (
      r_iload (pc2 := 144) rfl rfl rfl (
      r_iald (len := 30) (pc2 := 145) rfl rfl (sh_T hs rfl rfl) (sh_L hs rfl rfl) rfl h58 (
      r_ic (x := -1) (pc2 := 146) rfl ic_m1 rfl (
      r_cne (pc2 := 149) (t := 159) rfl h59.1 (rgk rfl) rfl (fun _ =>
      r_aload (pc2 := 150) rfl rfl rfl (
      r_getA (pc2 := 153) rfl rfl (sh_T hs rfl rfl) (sh_A hs rfl rfl) (
      r_iload (pc2 := 155) rfl rfl rfl (
      r_iload (pc2 := 156) rfl rfl rfl (
      r_ic (x := 1) (pc2 := 157) rfl ic_1 rfl (
      r_iadd (pc2 := 158) rfl rfl (
      r_iast (len := 30) (pc2 := 159) rfl rfl (sh_T hs rfl rfl) (sh_L hs rfl rfl) rfl h58 fun g67 => (
      r_iinc (kk := 1) (L2 := [some (.ref 44), j30, some (gv c31), some (gv c32), some (gv (v33 + 1)), some (gv v43), some (gv v44)]) (pc2 := 162) rfl ic_1 rfl rfl rfl (
      r_goto (t := 45) rfl (
      ih (v33 + 1) g67 _ _ _ hj30 rfl rfl)))))))))) (fun _ =>
      r_iinc (kk := 1) (L2 := [some (.ref 44), j30, some (gv c31), some (gv c32), some (gv (v33 + 1)), some (gv v43), some (gv v44)]) (pc2 := 162) rfl ic_1 rfl rfl rfl (
      r_goto (t := 45) rfl (
      ih (v33 + 1) g36 _ _ _ hj30 rfl rfl))))))))) (fun _ =>
      r_iinc (kk := 1) (L2 := [some (.ref 44), j30, some (gv c31), some (gv c32), some (gv (v33 + 1)), some (gv v43), some (gv v44)]) (pc2 := 162) rfl ic_1 rfl rfl rfl (
      r_goto (t := 45) rfl (
      ih (v33 + 1) g36 _ _ _ hj30 rfl rfl)))))))))))))))))))) (fun _ =>
      r_aload (pc2 := 118) rfl rfl rfl (
      r_iload (pc2 := 120) rfl rfl rfl (
      r_iload (pc2 := 121) rfl rfl rfl (
      r_callVP (pc2 := 124) (args := [.ref 44, gv v33, gv c31]) (st2 := []) rfl rfl rfl rfl rfl rfl (rc_of (sh_T hs rfl rfl)) (rf_md_leads hs d g36 v33 c31 ) fun v71 => (
      jr_g fun h72 => r_ifeq (pc2 := 127) (t := 159) rfl h72 rfl (fun _ =>
      r_iinc (kk := 1) (L2 := [some (.ref 44), j30, some (gv c31), some (gv c32), some (gv (v33 + 1)), some (gv v43), some (gv v44)]) (pc2 := 162) rfl ic_1 rfl rfl rfl (
      r_goto (t := 45) rfl (
      ih (v33 + 1) g36 _ _ _ hj30 rfl rfl))) (fun _ =>
      r_aload (pc2 := 128) rfl rfl rfl (
      r_getA (pc2 := 131) rfl rfl (sh_T hs rfl rfl) (sh_A hs rfl rfl) (
      r_iload (pc2 := 133) rfl rfl rfl (
      jr_g fun h74 => r_iald (len := 30) (pc2 := 134) rfl rfl (sh_T hs rfl rfl) (sh_L hs rfl rfl) rfl h74 (
      r_iload (pc2 := 135) rfl rfl rfl (
      jr_g fun h75 => r_cne (pc2 := 138) (t := 159) rfl h75 h59.2 rfl (fun _ =>
      r_aload (pc2 := 139) rfl rfl rfl (
      r_getA (pc2 := 142) rfl rfl (sh_T hs rfl rfl) (sh_A hs rfl rfl) (
      r_iload (pc2 := 144) rfl rfl rfl (
      r_iald (len := 30) (pc2 := 145) rfl rfl (sh_T hs rfl rfl) (sh_L hs rfl rfl) rfl h58 (
      r_ic (x := -1) (pc2 := 146) rfl ic_m1 rfl (
      r_cne (pc2 := 149) (t := 159) rfl h59.1 (rgk rfl) rfl (fun _ =>
      r_aload (pc2 := 150) rfl rfl rfl (
      r_getA (pc2 := 153) rfl rfl (sh_T hs rfl rfl) (sh_A hs rfl rfl) (
      r_iload (pc2 := 155) rfl rfl rfl (
      r_iload (pc2 := 156) rfl rfl rfl (
      r_ic (x := 1) (pc2 := 157) rfl ic_1 rfl (
      r_iadd (pc2 := 158) rfl rfl (
      r_iast (len := 30) (pc2 := 159) rfl rfl (sh_T hs rfl rfl) (sh_L hs rfl rfl) rfl h58 fun g76 => (
      r_iinc (kk := 1) (L2 := [some (.ref 44), j30, some (gv c31), some (gv c32), some (gv (v33 + 1)), some (gv v43), some (gv v44)]) (pc2 := 162) rfl ic_1 rfl rfl rfl (
      r_goto (t := 45) rfl (
      ih (v33 + 1) g76 _ _ _ hj30 rfl rfl)))))))))) (fun _ =>
      r_iinc (kk := 1) (L2 := [some (.ref 44), j30, some (gv c31), some (gv c32), some (gv (v33 + 1)), some (gv v43), some (gv v44)]) (pc2 := 162) rfl ic_1 rfl rfl rfl (
      r_goto (t := 45) rfl (
      ih (v33 + 1) g36 _ _ _ hj30 rfl rfl))))))))) (fun _ =>
      r_iinc (kk := 1) (L2 := [some (.ref 44), j30, some (gv c31), some (gv c32), some (gv (v33 + 1)), some (gv v43), some (gv v44)]) (pc2 := 162) rfl ic_1 rfl rfl rfl (
      r_goto (t := 45) rfl (
      ih (v33 + 1) g36 _ _ _ hj30 rfl rfl))))))))))))))))))))))))))))))))))) (fun _ =>
      jr_leaf ⟨_, _, _, rfl, hj34, hj35, rfl⟩)))))
theorem rl_md_reckons_l34 {s : gm_S} {n m : Nat} (hs : gm_sh s n m) (d : Nat)  (c18 : Int)  : ∀ (fuel : Nat) (v19 : Int) (g23 : gm_T) (j17 : Option Value) (j20 : Option Value) (j21 : Option Value) (j22 : Option Value) (hj17 : jm_lg j17 = false) (hj20 : jm_lg j20 = false) (hj21 : jm_lg j21 = false) (hj22 : jm_lg j22 = false), jr (fun (q : gm_T) (c : Option jm_R) => ∃ (j24 : Option Value) (j25 : Option Value) (j26 : Option Value) (j27 : Option Value), jm_lg j24 = false ∧ jm_lg j25 = false ∧ jm_lg j26 = false ∧ jm_lg j27 = false ∧ c = jm_sup cd_237 (jm_cl jm_CD km_n (d + 1)) (171, [some (.ref 44), j17, some (gv c18), j24, j25, j26, j27], [], gm_h s q)) (md_reckons_l34  c18 fuel v19 g23) (jm_sup cd_237 (jm_cl jm_CD km_n (d + 1)) (34, [some (.ref 44), j17, some (gv c18), some (gv v19), j20, j21, j22], [], gm_h s g23)) := by
  intro fuel
  induction fuel with
  | zero => intros; exact jr_none
  | succ fuel ih =>
    intro v19 g23 j17 j20 j21 j22 hj17 hj20 hj21 hj22
    unfold md_reckons_l34
    exact (
      r_iload (pc2 := 35) rfl rfl rfl (
      r_aload (pc2 := 36) rfl rfl rfl (
      r_getI (pc2 := 39) rfl rfl (sh_T hs rfl rfl) (
      jr_g fun h29 => r_cge (pc2 := 42) (t := 171) rfl h29.1 h29.2 rfl (fun _ =>
      r_ic (x := 0) (pc2 := 43) rfl ic_0 rfl (
      r_istore (L2 := [some (.ref 44), j17, some (gv c18), some (gv v19), some (gv 0), j21, j22]) (pc2 := 45) rfl rfl rfl (
      r_b1 (rl_md_reckons_l45 hs d   c18 v19  fz 0 g23 _ _ _ hj17 hj21 hj22) (fun g84 c h => match c, h with | _, ⟨j81, j82, j83, hj81, hj82, hj83, rfl⟩ => (
      r_iinc (kk := 1) (L2 := [some (.ref 44), j17, some (gv c18), some (gv (v19 + 1)), j81, j82, j83]) (pc2 := 168) rfl ic_1 rfl rfl rfl (
      r_goto (t := 34) rfl (
      ih (v19 + 1) g84 _ _ _ _ hj17 hj81 hj82 hj83))))))) (fun _ =>
      jr_leaf ⟨_, _, _, _, rfl, hj20, hj21, hj22, rfl⟩)))))
theorem rf_md_reckons {s : gm_S} {n m : Nat} (hs : gm_sh s n m) (d : Nat)  (g : gm_T) (a1 : Int) (a2 : Int)  : jr (eV s) (md_reckons g a1 a2) (jm_cl jm_CD km_n (d + 2) 237 [.ref 44, gv a1, gv a2] (gm_h s g)) := by
  unfold md_reckons
  exact (r_ent (cd := cd_237) (n := 7) (L0 := [some (.ref 44), some (gv a1), some (gv a2), none, none, none, none]) rfl rfl rfl rfl (
      r_ic (x := 0) (pc2 := 1) rfl ic_0 rfl (
      r_istore (L2 := [some (.ref 44), some (gv a1), some (gv a2), some (gv 0), none, none, none]) (pc2 := 2) rfl rfl rfl (
      r_b1 (rl_md_reckons_l2 hs d   a1 a2  fz 0 g  ) (fun g16 c h => match c, h with | _, ⟨j15, hj15, rfl⟩ => (
      r_ic (x := 0) (pc2 := 33) rfl ic_0 rfl (
      r_istore (L2 := [some (.ref 44), some (gv a1), some (gv a2), some (gv 0), none, none, none]) (pc2 := 34) rfl rfl rfl (
      r_b1 (rl_md_reckons_l34 hs d   a2  fz 0 g16 _ _ _ _ rfl rfl rfl rfl) (fun g91 c h => match c, h with | _, ⟨j87, j88, j89, j90, hj87, hj88, hj89, hj90, rfl⟩ => (
      r_vret rfl rfl))))))))))
theorem rl_md_goes_l18 {s : gm_S} {n m : Nat} (hs : gm_sh s n m) (d : Nat)  (g : gm_T) (c13 : Int) (c14 : Int) (c15 : Int)  : ∀ (fuel : Nat) (v16 : Int) (j12 : Option Value) (hj12 : jm_lg j12 = false), jr (fun (q : Int) (c : Option jm_R) => c = jm_sup cd_238 (jm_cl jm_CD km_n (d + 2)) (106, [some (.ref 44), j12, some (gv c13), some (gv c14), some (gv c15), some (gv q)], [], gm_h s g)) (md_goes_l18 g c13 c14 c15 fuel v16) (jm_sup cd_238 (jm_cl jm_CD km_n (d + 2)) (18, [some (.ref 44), j12, some (gv c13), some (gv c14), some (gv c15), some (gv v16)], [], gm_h s g)) := by
  intro fuel
  induction fuel with
  | zero => intros; exact jr_none
  | succ fuel ih =>
    intro v16 j12 hj12
    unfold md_goes_l18
    exact (
      r_aload (pc2 := 19) rfl rfl rfl (
      r_iload (pc2 := 21) rfl rfl rfl (
      r_iload (pc2 := 22) rfl rfl rfl (
      r_callVP (pc2 := 25) (args := [.ref 44, gv v16, gv c14]) (st2 := []) rfl rfl rfl rfl rfl rfl (rc_of (sh_T hs rfl rfl)) (rf_md_leads hs (d + 1) g v16 c14 ) fun v18 => (
      jr_g fun h19 => r_ifeq (pc2 := 28) (t := 100) rfl h19 rfl (fun _ =>
      r_iinc (kk := 1) (L2 := [some (.ref 44), j12, some (gv c13), some (gv c14), some (gv c15), some (gv (v16 + 1))]) (pc2 := 103) rfl ic_1 rfl rfl rfl (
      r_goto (t := 18) rfl (
      ih (v16 + 1) _ hj12))) (fun _ =>
      r_aload (pc2 := 29) rfl rfl rfl (
      r_getA (pc2 := 32) rfl rfl (sh_T hs rfl rfl) (sh_A hs rfl rfl) (
      r_iload (pc2 := 34) rfl rfl rfl (
      jr_g fun h21 => r_iald (len := 60) (pc2 := 35) rfl rfl (sh_T hs rfl rfl) (sh_L hs rfl rfl) rfl h21 (
      r_iload (pc2 := 37) rfl rfl rfl (
      jr_g fun h22 => r_cne (pc2 := 40) (t := 64) rfl h22.1 h22.2 rfl (fun _ =>
      r_aload (pc2 := 41) rfl rfl rfl (
      r_getA (pc2 := 44) rfl rfl (sh_T hs rfl rfl) (sh_A hs rfl rfl) (
      r_aload (pc2 := 45) rfl rfl rfl (
      r_getA (pc2 := 48) rfl rfl (sh_T hs rfl rfl) (sh_A hs rfl rfl) (
      r_iload (pc2 := 50) rfl rfl rfl (
      r_iald (len := 60) (pc2 := 51) rfl rfl (sh_T hs rfl rfl) (sh_L hs rfl rfl) rfl h21 (
      jr_g fun h23 => r_iald (len := 30) (pc2 := 52) rfl rfl (sh_T hs rfl rfl) (sh_L hs rfl rfl) rfl h23 (
      r_aload (pc2 := 53) rfl rfl rfl (
      r_getA (pc2 := 56) rfl rfl (sh_T hs rfl rfl) (sh_A hs rfl rfl) (
      r_iload (pc2 := 58) rfl rfl rfl (
      jr_g fun h24 => r_iald (len := 30) (pc2 := 59) rfl rfl (sh_T hs rfl rfl) (sh_L hs rfl rfl) rfl h24 (
      r_ic (x := 1) (pc2 := 60) rfl ic_1 rfl (
      r_isub (pc2 := 61) rfl rfl (
      jr_g fun h25 => r_ceq (pc2 := 64) (t := 106) rfl h25.1 h25.2 rfl (fun _ =>
      jr_leaf rfl) (fun _ =>
      r_aload (pc2 := 65) rfl rfl rfl (
      r_getA (pc2 := 68) rfl rfl (sh_T hs rfl rfl) (sh_A hs rfl rfl) (
      r_iload (pc2 := 70) rfl rfl rfl (
      r_iald (len := 60) (pc2 := 71) rfl rfl (sh_T hs rfl rfl) (sh_L hs rfl rfl) rfl h21 (
      r_iload (pc2 := 73) rfl rfl rfl (
      r_cne (pc2 := 76) (t := 100) rfl (rg_ix h23 rfl) (rg_ix h24 rfl) rfl (fun _ =>
      r_aload (pc2 := 77) rfl rfl rfl (
      r_getA (pc2 := 80) rfl rfl (sh_T hs rfl rfl) (sh_A hs rfl rfl) (
      r_aload (pc2 := 81) rfl rfl rfl (
      r_getA (pc2 := 84) rfl rfl (sh_T hs rfl rfl) (sh_A hs rfl rfl) (
      r_iload (pc2 := 86) rfl rfl rfl (
      r_iald (len := 60) (pc2 := 87) rfl rfl (sh_T hs rfl rfl) (sh_L hs rfl rfl) rfl h21 (
      jr_g fun h26 => r_iald (len := 30) (pc2 := 88) rfl rfl (sh_T hs rfl rfl) (sh_L hs rfl rfl) rfl h26 (
      r_aload (pc2 := 89) rfl rfl rfl (
      r_getA (pc2 := 92) rfl rfl (sh_T hs rfl rfl) (sh_A hs rfl rfl) (
      r_iload (pc2 := 94) rfl rfl rfl (
      r_iald (len := 30) (pc2 := 95) rfl rfl (sh_T hs rfl rfl) (sh_L hs rfl rfl) rfl h24 (
      r_ic (x := 1) (pc2 := 96) rfl ic_1 rfl (
      r_isub (pc2 := 97) rfl rfl (
      jr_g fun h27 => r_ceq (pc2 := 100) (t := 106) rfl h27 h25.2 rfl (fun _ =>
      jr_leaf rfl) (fun _ =>
      r_iinc (kk := 1) (L2 := [some (.ref 44), j12, some (gv c13), some (gv c14), some (gv c15), some (gv (v16 + 1))]) (pc2 := 103) rfl ic_1 rfl rfl rfl (
      r_goto (t := 18) rfl (
      ih (v16 + 1) _ hj12))))))))))))))))) (fun _ =>
      r_iinc (kk := 1) (L2 := [some (.ref 44), j12, some (gv c13), some (gv c14), some (gv c15), some (gv (v16 + 1))]) (pc2 := 103) rfl ic_1 rfl rfl rfl (
      r_goto (t := 18) rfl (
      ih (v16 + 1) _ hj12))))))))))))))))))))))) (fun _ =>
      r_aload (pc2 := 65) rfl rfl rfl (
      r_getA (pc2 := 68) rfl rfl (sh_T hs rfl rfl) (sh_A hs rfl rfl) (
      r_iload (pc2 := 70) rfl rfl rfl (
      r_iald (len := 60) (pc2 := 71) rfl rfl (sh_T hs rfl rfl) (sh_L hs rfl rfl) rfl h21 (
      r_iload (pc2 := 73) rfl rfl rfl (
      jr_g fun h30 => r_cne (pc2 := 76) (t := 100) rfl h30 h22.2 rfl (fun _ =>
      r_aload (pc2 := 77) rfl rfl rfl (
      r_getA (pc2 := 80) rfl rfl (sh_T hs rfl rfl) (sh_A hs rfl rfl) (
      r_aload (pc2 := 81) rfl rfl rfl (
      r_getA (pc2 := 84) rfl rfl (sh_T hs rfl rfl) (sh_A hs rfl rfl) (
      r_iload (pc2 := 86) rfl rfl rfl (
      r_iald (len := 60) (pc2 := 87) rfl rfl (sh_T hs rfl rfl) (sh_L hs rfl rfl) rfl h21 (
      jr_g fun h31 => r_iald (len := 30) (pc2 := 88) rfl rfl (sh_T hs rfl rfl) (sh_L hs rfl rfl) rfl h31 (
      r_aload (pc2 := 89) rfl rfl rfl (
      r_getA (pc2 := 92) rfl rfl (sh_T hs rfl rfl) (sh_A hs rfl rfl) (
      r_iload (pc2 := 94) rfl rfl rfl (
      jr_g fun h32 => r_iald (len := 30) (pc2 := 95) rfl rfl (sh_T hs rfl rfl) (sh_L hs rfl rfl) rfl h32 (
      r_ic (x := 1) (pc2 := 96) rfl ic_1 rfl (
      r_isub (pc2 := 97) rfl rfl (
      jr_g fun h33 => r_ceq (pc2 := 100) (t := 106) rfl h33.1 h33.2 rfl (fun _ =>
      jr_leaf rfl) (fun _ =>
      r_iinc (kk := 1) (L2 := [some (.ref 44), j12, some (gv c13), some (gv c14), some (gv c15), some (gv (v16 + 1))]) (pc2 := 103) rfl ic_1 rfl rfl rfl (
      r_goto (t := 18) rfl (
      ih (v16 + 1) _ hj12))))))))))))))))) (fun _ =>
      r_iinc (kk := 1) (L2 := [some (.ref 44), j12, some (gv c13), some (gv c14), some (gv c15), some (gv (v16 + 1))]) (pc2 := 103) rfl ic_1 rfl rfl rfl (
      r_goto (t := 18) rfl (
      ih (v16 + 1) _ hj12))))))))))))))))))))
theorem rl_md_goes_l9 {s : gm_S} {n m : Nat} (hs : gm_sh s n m) (d : Nat)  (c3 : Int) (c4 : Int)  : ∀ (fuel : Nat) (v5 : Int) (g7 : gm_T) (j2 : Option Value) (j6 : Option Value) (hj2 : jm_lg j2 = false) (hj6 : jm_lg j6 = false), jr (fun (q : gm_T) (c : Option jm_R) => ∃ (j8 : Option Value) (j9 : Option Value), jm_lg j8 = false ∧ jm_lg j9 = false ∧ c = jm_sup cd_238 (jm_cl jm_CD km_n (d + 2)) (161, [some (.ref 44), j2, some (gv c3), some (gv c4), j8, j9], [], gm_h s q)) (md_goes_l9  c3 c4 fuel v5 g7) (jm_sup cd_238 (jm_cl jm_CD km_n (d + 2)) (9, [some (.ref 44), j2, some (gv c3), some (gv c4), some (gv v5), j6], [], gm_h s g7)) := by
  intro fuel
  induction fuel with
  | zero => intros; exact jr_none
  | succ fuel ih =>
    intro v5 g7 j2 j6 hj2 hj6
    unfold md_goes_l9
    exact (
      r_iload (pc2 := 11) rfl rfl rfl (
      r_iload (pc2 := 12) rfl rfl rfl (
      jr_g fun h11 => r_ceq (pc2 := 15) (t := 161) rfl h11.1 h11.2 rfl (fun _ =>
      jr_leaf ⟨_, _, rfl, hj6, rfl⟩) (fun _ =>
      r_ic (x := 0) (pc2 := 16) rfl ic_0 rfl (
      r_istore (L2 := [some (.ref 44), j2, some (gv c3), some (gv c4), some (gv v5), some (gv 0)]) (pc2 := 18) rfl rfl rfl (
      r_b1 (rl_md_goes_l18 hs d  g7 c3 c4 v5  fz 0 _ hj2) (fun v37 c h => match c, h with | _, rfl => (
      r_aload (pc2 := 107) rfl rfl rfl (
      r_getA (pc2 := 110) rfl rfl (sh_T hs rfl rfl) (sh_A hs rfl rfl) (
      r_aload (pc2 := 111) rfl rfl rfl (
      r_getI (pc2 := 114) rfl rfl (sh_T hs rfl rfl) (
      r_iload (pc2 := 116) rfl rfl rfl (
      jr_g fun h39 => r_iast (len := 60) (pc2 := 117) rfl rfl (sh_T hs rfl rfl) (sh_L hs rfl rfl) rfl h39 fun g38 => (
      r_aload (pc2 := 118) rfl rfl rfl (
      r_dup (pc2 := 119) rfl rfl rfl (
      r_getI (pc2 := 122) rfl rfl (sh_T hs rfl rfl) (
      r_ic (x := 1) (pc2 := 123) rfl ic_1 rfl (
      r_iadd (pc2 := 124) rfl rfl (
      r_putI (pc2 := 127) rfl rfl (sh_T hs rfl rfl) fun g40 => (
      r_aload (pc2 := 128) rfl rfl rfl (
      r_getA (pc2 := 131) rfl rfl (sh_T hs rfl rfl) (sh_A hs rfl rfl) (
      r_iload (pc2 := 133) rfl rfl rfl (
      jr_g fun h41 => r_iald (len := 60) (pc2 := 134) rfl rfl (sh_T hs rfl rfl) (sh_L hs rfl rfl) rfl h41 (
      r_iload (pc2 := 136) rfl rfl rfl (
      jr_g fun h42 => r_cne (pc2 := 139) (t := 149) rfl h42 h11.1 rfl (fun _ =>
      r_aload (pc2 := 140) rfl rfl rfl (
      r_getA (pc2 := 143) rfl rfl (sh_T hs rfl rfl) (sh_A hs rfl rfl) (
      r_iload (pc2 := 145) rfl rfl rfl (
      r_iald (len := 60) (pc2 := 146) rfl rfl (sh_T hs rfl rfl) (sh_L hs rfl rfl) rfl h41 (
      r_goto (t := 156) rfl (
      r_istoreL (L3 := fun v43 => [some (.ref 44), j2, some (gv c3), some (gv c4), some (gv v43), some (gv v37)]) (pc2 := 158) rfl rfl (fun _ => rfl) fun v43 => (
      r_goto (t := 9) rfl (
      ih v43 g40 _ _ hj2 rfl)))))))) (fun _ =>
      r_aload (pc2 := 150) rfl rfl rfl (
      r_getA (pc2 := 153) rfl rfl (sh_T hs rfl rfl) (sh_A hs rfl rfl) (
      r_iload (pc2 := 155) rfl rfl rfl (
      r_iald (len := 60) (pc2 := 156) rfl rfl (sh_T hs rfl rfl) (sh_L hs rfl rfl) rfl h41 (
      r_istoreL (L3 := fun v44 => [some (.ref 44), j2, some (gv c3), some (gv c4), some (gv v44), some (gv v37)]) (pc2 := 158) rfl rfl (fun _ => rfl) fun v44 => (
      r_goto (t := 9) rfl (
      ih v44 g40 _ _ hj2 rfl))))))))))))))))))))))))))))))))
theorem rf_md_goes {s : gm_S} {n m : Nat} (hs : gm_sh s n m) (d : Nat)  (g : gm_T) (a1 : Int) (a2 : Int) (a3 : Int)  : jr (eV s) (md_goes g a1 a2 a3) (jm_cl jm_CD km_n (d + 3) 238 [.ref 44, gv a1, gv a2, gv a3] (gm_h s g)) := by
  unfold md_goes
  exact (r_ent (cd := cd_238) (n := 6) (L0 := [some (.ref 44), some (gv a1), some (gv a2), some (gv a3), none, none]) rfl rfl rfl rfl (
      r_aload (pc2 := 1) rfl rfl rfl (
      r_iload (pc2 := 2) rfl rfl rfl (
      r_iload (pc2 := 3) rfl rfl rfl (
      r_callVV (pc2 := 6) (args := [.ref 44, gv a2, gv a3]) (st2 := []) rfl rfl rfl rfl rfl rfl (rc_of (sh_T hs rfl rfl)) (rf_md_reckons hs d g a2 a3 ) fun g1 => (
      r_iload (pc2 := 7) rfl rfl rfl (
      r_istore (L2 := [some (.ref 44), some (gv a1), some (gv a2), some (gv a3), some (gv a1), none]) (pc2 := 9) rfl rfl rfl (
      r_b1 (rl_md_goes_l9 hs d   a2 a3  fz a1 g1 _ _ rfl rfl) (fun g48 c h => match c, h with | _, ⟨j46, j47, hj46, hj47, rfl⟩ => (
      r_vret rfl rfl))))))))))
theorem rl_md_holder_l12 {s : gm_S} {n m : Nat} (hs : gm_sh s n m) (d : Nat)  (g : gm_T) (c2 : Int)  : ∀ (fuel : Nat) (v3 : Int) (v4 : Int) (v5 : Int), jr (fun (q : Int × Int) (c : Option jm_R) => ∃ (j8 : Option Value), jm_lg j8 = false ∧ c = jm_sup cd_239 (jm_cl jm_CD km_n d) (79, [some (.ref 44), some (gv c2), some (gv q.1), some (gv q.2), j8], [], gm_h s g)) (md_holder_l12 g c2 fuel v3 v4 v5) (jm_sup cd_239 (jm_cl jm_CD km_n d) (12, [some (.ref 44), some (gv c2), some (gv v3), some (gv v4), some (gv v5)], [], gm_h s g)) := by
  intro fuel
  induction fuel with
  | zero => intros; exact jr_none
  | succ fuel ih =>
    intro v3 v4 v5  
    unfold md_holder_l12
    exact (
      r_iload (pc2 := 14) rfl rfl rfl (
      jr_g fun h9 => r_iflt (pc2 := 17) (t := 79) rfl h9 rfl (fun _ =>
      jr_leaf ⟨_, rfl, rfl⟩) (fun _ =>
      r_aload (pc2 := 18) rfl rfl rfl (
      r_getA (pc2 := 21) rfl rfl (sh_T hs rfl rfl) (sh_A hs rfl rfl) (
      r_iload (pc2 := 23) rfl rfl rfl (
      jr_g fun h10 => r_iald (len := 30) (pc2 := 24) rfl rfl (sh_T hs rfl rfl) (sh_L hs rfl rfl) rfl h10 (
      r_iload (pc2 := 25) rfl rfl rfl (
      r_b1 (R1 := (fun (q : Int) (c : Option jm_R) => c = jm_sup cd_239 (jm_cl jm_CD km_n d) (44, [some (.ref 44), some (gv c2), some (gv v3), some (gv v4), some (gv v5)], [gv q], gm_h s g))) (
      jr_g fun h12 => r_cne (pc2 := 28) (t := 43) rfl h12.1 h12.2 rfl (fun _ =>
      r_aload (pc2 := 29) rfl rfl rfl (
      r_getA (pc2 := 32) rfl rfl (sh_T hs rfl rfl) (sh_A hs rfl rfl) (
      r_iload (pc2 := 34) rfl rfl rfl (
      r_iald (len := 30) (pc2 := 35) rfl rfl (sh_T hs rfl rfl) (sh_L hs rfl rfl) rfl h10 (
      jr_g fun h13 => r_ifeq (pc2 := 38) (t := 43) rfl h13 rfl (fun _ =>
      r_iload (pc2 := 44) rfl rfl rfl (
      jr_leaf rfl)) (fun _ =>
      r_iload (pc2 := 40) rfl rfl rfl (
      r_goto (t := 44) rfl (
      jr_leaf rfl)))))))) (fun _ =>
      r_iload (pc2 := 44) rfl rfl rfl (
      jr_leaf rfl))) (fun v11 c h => match c, h with | _, rfl => (
      r_istore (L2 := [some (.ref 44), some (gv c2), some (gv v11), some (gv v4), some (gv v5)]) (pc2 := 45) rfl rfl rfl (
      r_aload (pc2 := 46) rfl rfl rfl (
      r_getA (pc2 := 49) rfl rfl (sh_T hs rfl rfl) (sh_A hs rfl rfl) (
      r_iload (pc2 := 51) rfl rfl rfl (
      r_iald (len := 30) (pc2 := 52) rfl rfl (sh_T hs rfl rfl) (sh_L hs rfl rfl) rfl h10 (
      r_iload (pc2 := 53) rfl rfl rfl (
      jr_g fun h14 => r_cne (pc2 := 56) (t := 71) rfl h14.1 h14.2 rfl (fun _ =>
      r_aload (pc2 := 57) rfl rfl rfl (
      r_getA (pc2 := 60) rfl rfl (sh_T hs rfl rfl) (sh_A hs rfl rfl) (
      r_iload (pc2 := 62) rfl rfl rfl (
      r_iald (len := 30) (pc2 := 63) rfl rfl (sh_T hs rfl rfl) (sh_L hs rfl rfl) rfl h10 (
      jr_g fun h15 => r_ifeq (pc2 := 66) (t := 71) rfl h15 rfl (fun _ =>
      r_iload (pc2 := 72) rfl rfl rfl (
      r_istore (L2 := [some (.ref 44), some (gv c2), some (gv v11), some (gv v4), some (gv v5)]) (pc2 := 73) rfl rfl rfl (
      r_iinc (kk := -1) (L2 := [some (.ref 44), some (gv c2), some (gv v11), some (gv v4), some (gv (v5 + (-1)))]) (pc2 := 76) rfl ic_m1 rfl rfl rfl (
      r_goto (t := 12) rfl (
      ih v11 v4 (v5 + (-1))))))) (fun _ =>
      r_iload (pc2 := 68) rfl rfl rfl (
      r_goto (t := 72) rfl (
      r_istore (L2 := [some (.ref 44), some (gv c2), some (gv v11), some (gv v5), some (gv v5)]) (pc2 := 73) rfl rfl rfl (
      r_iinc (kk := -1) (L2 := [some (.ref 44), some (gv c2), some (gv v11), some (gv v5), some (gv (v5 + (-1)))]) (pc2 := 76) rfl ic_m1 rfl rfl rfl (
      r_goto (t := 12) rfl (
      ih v11 v5 (v5 + (-1))))))))))))) (fun _ =>
      r_iload (pc2 := 72) rfl rfl rfl (
      r_istore (L2 := [some (.ref 44), some (gv c2), some (gv v11), some (gv v4), some (gv v5)]) (pc2 := 73) rfl rfl rfl (
      r_iinc (kk := -1) (L2 := [some (.ref 44), some (gv c2), some (gv v11), some (gv v4), some (gv (v5 + (-1)))]) (pc2 := 76) rfl ic_m1 rfl rfl rfl (
      r_goto (t := 12) rfl (
      ih v11 v4 (v5 + (-1)))))))))))))))))))))))
theorem rf_md_holder {s : gm_S} {n m : Nat} (hs : gm_sh s n m) (d : Nat)  (g : gm_T) (a1 : Int)  : jr (pI s g) (md_holder g a1) (jm_cl jm_CD km_n (d + 1) 239 [.ref 44, gv a1] (gm_h s g)) := by
  unfold md_holder
  exact (r_ent (cd := cd_239) (n := 5) (L0 := [some (.ref 44), some (gv a1), none, none, none]) rfl rfl rfl rfl (
      r_ic (x := -1) (pc2 := 1) rfl ic_m1 rfl (
      r_istore (L2 := [some (.ref 44), some (gv a1), some (gv (-1)), none, none]) (pc2 := 2) rfl rfl rfl (
      r_ic (x := -1) (pc2 := 3) rfl ic_m1 rfl (
      r_istore (L2 := [some (.ref 44), some (gv a1), some (gv (-1)), some (gv (-1)), none]) (pc2 := 4) rfl rfl rfl (
      r_aload (pc2 := 5) rfl rfl rfl (
      r_getI (pc2 := 8) rfl rfl (sh_T hs rfl rfl) (
      r_ic (x := 1) (pc2 := 9) rfl ic_1 rfl (
      r_isub (pc2 := 10) rfl rfl (
      r_istoreL (L3 := fun v1 => [some (.ref 44), some (gv a1), some (gv (-1)), some (gv (-1)), some (gv v1)]) (pc2 := 12) rfl rfl (fun _ => rfl) fun v1 => (
      r_b2 (rl_md_holder_l12 hs d  g a1  fz (-1) (-1) v1  ) (fun v19 v20 c h => match c, h with | _, ⟨j21, hj21, rfl⟩ => (
      r_iload (pc2 := 80) rfl rfl rfl (
      r_ic (x := -1) (pc2 := 81) rfl ic_m1 rfl (
      jr_g fun h22 => r_ceq (pc2 := 84) (t := 88) rfl h22 (rgk rfl) rfl (fun _ =>
      r_iload (pc2 := 89) rfl rfl rfl (
      r_iret rfl rfl)) (fun _ =>
      r_iload (pc2 := 85) rfl rfl rfl (
      r_goto (t := 89) rfl (
      r_iret rfl rfl))))))))))))))))))
theorem rl_md_hasWordIn_l5 {s : gm_S} {n m : Nat} (hs : gm_sh s n m) (d : Nat)  (g : gm_T) (c1 : Int) (c2 : Int)  : ∀ (fuel : Nat) (v3 : Int) (v4 : Int), jr (fun (q : Int) (c : Option jm_R) => ∃ (j6 : Option Value), jm_lg j6 = false ∧ c = jm_sup cd_240 (jm_cl jm_CD km_n d) (57, [some (.ref 44), some (gv c1), some (gv c2), some (gv q), j6], [], gm_h s g)) (md_hasWordIn_l5 g c1 c2 fuel v3 v4) (jm_sup cd_240 (jm_cl jm_CD km_n d) (5, [some (.ref 44), some (gv c1), some (gv c2), some (gv v3), some (gv v4)], [], gm_h s g)) := by
  intro fuel
  induction fuel with
  | zero => intros; exact jr_none
  | succ fuel ih =>
    intro v3 v4  
    unfold md_hasWordIn_l5
    exact (
      r_iload (pc2 := 7) rfl rfl rfl (
      r_aload (pc2 := 8) rfl rfl rfl (
      r_getI (pc2 := 11) rfl rfl (sh_T hs rfl rfl) (
      jr_g fun h7 => r_cge (pc2 := 14) (t := 57) rfl h7.1 h7.2 rfl (fun _ =>
      r_iload (pc2 := 15) rfl rfl rfl (
      jr_g fun h8 => r_ifne (pc2 := 18) (t := 45) rfl h8 rfl (fun _ =>
      r_aload (pc2 := 19) rfl rfl rfl (
      r_getA (pc2 := 22) rfl rfl (sh_T hs rfl rfl) (sh_A hs rfl rfl) (
      r_iload (pc2 := 24) rfl rfl rfl (
      jr_g fun h9 => r_iald (len := 30) (pc2 := 25) rfl rfl (sh_T hs rfl rfl) (sh_L hs rfl rfl) rfl h9 (
      r_iload (pc2 := 26) rfl rfl rfl (
      jr_g fun h10 => r_cne (pc2 := 29) (t := 49) rfl h10.1 h10.2 rfl (fun _ =>
      r_iload (pc2 := 31) rfl rfl rfl (
      r_iload (pc2 := 32) rfl rfl rfl (
      jr_g fun h11 => r_ceq (pc2 := 35) (t := 49) rfl (rg_ix h9 rfl) h11 rfl (fun _ =>
      r_ic (x := 0) (pc2 := 50) rfl ic_0 rfl (
      r_istore (L2 := [some (.ref 44), some (gv c1), some (gv c2), some (gv 0), some (gv v4)]) (pc2 := 51) rfl rfl rfl (
      r_iinc (kk := 1) (L2 := [some (.ref 44), some (gv c1), some (gv c2), some (gv 0), some (gv (v4 + 1))]) (pc2 := 54) rfl ic_1 rfl rfl rfl (
      r_goto (t := 5) rfl (
      ih 0 (v4 + 1)))))) (fun _ =>
      r_aload (pc2 := 36) rfl rfl rfl (
      r_getA (pc2 := 39) rfl rfl (sh_T hs rfl rfl) (sh_A hs rfl rfl) (
      r_iload (pc2 := 41) rfl rfl rfl (
      r_iald (len := 30) (pc2 := 42) rfl rfl (sh_T hs rfl rfl) (sh_L hs rfl rfl) rfl h9 (
      jr_g fun h13 => r_ifeq (pc2 := 45) (t := 49) rfl h13 rfl (fun _ =>
      r_ic (x := 0) (pc2 := 50) rfl ic_0 rfl (
      r_istore (L2 := [some (.ref 44), some (gv c1), some (gv c2), some (gv 0), some (gv v4)]) (pc2 := 51) rfl rfl rfl (
      r_iinc (kk := 1) (L2 := [some (.ref 44), some (gv c1), some (gv c2), some (gv 0), some (gv (v4 + 1))]) (pc2 := 54) rfl ic_1 rfl rfl rfl (
      r_goto (t := 5) rfl (
      ih 0 (v4 + 1)))))) (fun _ =>
      r_ic (x := 1) (pc2 := 46) rfl ic_1 rfl (
      r_goto (t := 50) rfl (
      r_istore (L2 := [some (.ref 44), some (gv c1), some (gv c2), some (gv 1), some (gv v4)]) (pc2 := 51) rfl rfl rfl (
      r_iinc (kk := 1) (L2 := [some (.ref 44), some (gv c1), some (gv c2), some (gv 1), some (gv (v4 + 1))]) (pc2 := 54) rfl ic_1 rfl rfl rfl (
      r_goto (t := 5) rfl (
      ih 1 (v4 + 1))))))))))))))) (fun _ =>
      r_ic (x := 0) (pc2 := 50) rfl ic_0 rfl (
      r_istore (L2 := [some (.ref 44), some (gv c1), some (gv c2), some (gv 0), some (gv v4)]) (pc2 := 51) rfl rfl rfl (
      r_iinc (kk := 1) (L2 := [some (.ref 44), some (gv c1), some (gv c2), some (gv 0), some (gv (v4 + 1))]) (pc2 := 54) rfl ic_1 rfl rfl rfl (
      r_goto (t := 5) rfl (
      ih 0 (v4 + 1)))))))))))) (fun _ =>
      r_ic (x := 1) (pc2 := 46) rfl ic_1 rfl (
      r_goto (t := 50) rfl (
      r_istore (L2 := [some (.ref 44), some (gv c1), some (gv c2), some (gv 1), some (gv v4)]) (pc2 := 51) rfl rfl rfl (
      r_iinc (kk := 1) (L2 := [some (.ref 44), some (gv c1), some (gv c2), some (gv 1), some (gv (v4 + 1))]) (pc2 := 54) rfl ic_1 rfl rfl rfl (
      r_goto (t := 5) rfl (
      ih 1 (v4 + 1))))))))) (fun _ =>
      jr_leaf ⟨_, rfl, rfl⟩)))))
theorem rf_md_hasWordIn {s : gm_S} {n m : Nat} (hs : gm_sh s n m) (d : Nat)  (g : gm_T) (a1 : Int) (a2 : Int)  : jr (pI s g) (md_hasWordIn g a1 a2) (jm_cl jm_CD km_n (d + 1) 240 [.ref 44, gv a1, gv a2] (gm_h s g)) := by
  unfold md_hasWordIn
  exact (r_ent (cd := cd_240) (n := 5) (L0 := [some (.ref 44), some (gv a1), some (gv a2), none, none]) rfl rfl rfl rfl (
      r_ic (x := 0) (pc2 := 1) rfl ic_0 rfl (
      r_istore (L2 := [some (.ref 44), some (gv a1), some (gv a2), some (gv 0), none]) (pc2 := 2) rfl rfl rfl (
      r_ic (x := 0) (pc2 := 3) rfl ic_0 rfl (
      r_istore (L2 := [some (.ref 44), some (gv a1), some (gv a2), some (gv 0), some (gv 0)]) (pc2 := 5) rfl rfl rfl (
      r_b1 (rl_md_hasWordIn_l5 hs d  g a1 a2  fz 0 0  ) (fun v18 c h => match c, h with | _, ⟨j19, hj19, rfl⟩ => (
      r_iload (pc2 := 58) rfl rfl rfl (
      jr_g fun hz => r_zret rfl hz rfl)))))))))
theorem rf_md_onWall {s : gm_S} {n m : Nat} (hs : gm_sh s n m) (d : Nat)  (g : gm_T) (a1 : Int)  : jr (eI s) (md_onWall g a1) (jm_cl jm_CD km_n (d + 5) 241 [.ref 44, gv a1] (gm_h s g)) := by
  unfold md_onWall
  exact (r_ent (cd := cd_241) (n := 3) (L0 := [some (.ref 44), some (gv a1), none]) rfl rfl rfl rfl (
      r_aload (pc2 := 1) rfl rfl rfl (
      r_aload (pc2 := 2) rfl rfl rfl (
      r_getA (pc2 := 5) rfl rfl (sh_T hs rfl rfl) (sh_A hs rfl rfl) (
      r_iload (pc2 := 6) rfl rfl rfl (
      jr_g fun h1 => r_iald (len := 30) (pc2 := 7) rfl rfl (sh_T hs rfl rfl) (sh_L hs rfl rfl) rfl h1 (
      r_callVP (pc2 := 10) (args := [.ref 44, gv (gm_I g 78 a1.toNat)]) (st2 := []) rfl rfl rfl rfl rfl rfl (rc_of (sh_T hs rfl rfl)) (rf_md_holder hs (d + 3) g (gm_I g 78 a1.toNat) ) fun v2 => (
      r_istore (L2 := [some (.ref 44), some (gv a1), some (gv v2)]) (pc2 := 11) rfl rfl rfl (
      r_iload (pc2 := 12) rfl rfl rfl (
      r_ic (x := -1) (pc2 := 13) rfl ic_m1 rfl (
      jr_g fun h3 => r_cne (pc2 := 16) (t := 18) rfl h3 (rgk rfl) rfl (fun _ =>
      r_ic (x := 0) (pc2 := 17) rfl ic_0 rfl (
      r_zret rfl (by decide) rfl)) (fun _ =>
      r_aload (pc2 := 19) rfl rfl rfl (
      r_aload (pc2 := 20) rfl rfl rfl (
      r_getA (pc2 := 23) rfl rfl (sh_T hs rfl rfl) (sh_A hs rfl rfl) (
      r_iload (pc2 := 24) rfl rfl rfl (
      jr_g fun h4 => r_iald (len := 30) (pc2 := 25) rfl rfl (sh_T hs rfl rfl) (sh_L hs rfl rfl) rfl h4 (
      r_aload (pc2 := 26) rfl rfl rfl (
      r_getA (pc2 := 29) rfl rfl (sh_T hs rfl rfl) (sh_A hs rfl rfl) (
      r_iload (pc2 := 30) rfl rfl rfl (
      r_iald (len := 30) (pc2 := 31) rfl rfl (sh_T hs rfl rfl) (sh_L hs rfl rfl) rfl h4 (
      r_aload (pc2 := 32) rfl rfl rfl (
      r_getA (pc2 := 35) rfl rfl (sh_T hs rfl rfl) (sh_A hs rfl rfl) (
      r_iload (pc2 := 36) rfl rfl rfl (
      r_iald (len := 30) (pc2 := 37) rfl rfl (sh_T hs rfl rfl) (sh_L hs rfl rfl) rfl h4 (
      r_callVV (pc2 := 40) (args := [.ref 44, gv (gm_I g 72 v2.toNat), gv (gm_I g 73 v2.toNat), gv (gm_I g 74 v2.toNat)]) (st2 := []) rfl rfl rfl rfl rfl rfl (rc_of (sh_T hs rfl rfl)) (rf_md_holds hs (d + 3) g (gm_I g 72 v2.toNat) (gm_I g 73 v2.toNat) (gm_I g 74 v2.toNat) ) fun g5 => (
      r_aload (pc2 := 41) rfl rfl rfl (
      r_iload (pc2 := 42) rfl rfl rfl (
      r_iload (pc2 := 43) rfl rfl rfl (
      r_callVV (pc2 := 46) (args := [.ref 44, gv v2, gv a1]) (st2 := []) rfl rfl rfl rfl rfl rfl (rc_of (sh_T hs rfl rfl)) (rf_md_thenWithin hs d g5 v2 a1 ) fun g6 => (
      r_ic (x := 1) (pc2 := 47) rfl ic_1 rfl (
      r_zret rfl (by decide) rfl)))))))))))))))))))))))))))))))
theorem rl_md_walls_l2 {s : gm_S} {n m : Nat} (hs : gm_sh s n m) (d : Nat)    : ∀ (fuel : Nat) (v1 : Int) (g3 : gm_T) (j2 : Option Value) (hj2 : jm_lg j2 = false), jr (fun (q : gm_T) (c : Option jm_R) => ∃ (j4 : Option Value) (j5 : Option Value), jm_lg j4 = false ∧ jm_lg j5 = false ∧ c = jm_sup cd_242 (jm_cl jm_CD km_n (d + 5)) (60, [some (.ref 44), j4, j5], [], gm_h s q)) (md_walls_l2   fuel v1 g3) (jm_sup cd_242 (jm_cl jm_CD km_n (d + 5)) (2, [some (.ref 44), some (gv v1), j2], [], gm_h s g3)) := by
  intro fuel
  induction fuel with
  | zero => intros; exact jr_none
  | succ fuel ih =>
    intro v1 g3 j2 hj2
    unfold md_walls_l2
    exact (
      r_iload (pc2 := 3) rfl rfl rfl (
      r_aload (pc2 := 4) rfl rfl rfl (
      r_getI (pc2 := 7) rfl rfl (sh_T hs rfl rfl) (
      jr_g fun h7 => r_cge (pc2 := 10) (t := 60) rfl h7.1 h7.2 rfl (fun _ =>
      r_aload (pc2 := 11) rfl rfl rfl (
      r_iload (pc2 := 12) rfl rfl rfl (
      r_callVI (pc2 := 15) (args := [.ref 44, gv v1]) (st2 := []) rfl rfl rfl rfl rfl rfl (rc_of (sh_T hs rfl rfl)) (rf_md_onWall hs d g3 v1 ) fun v8 g9 => (
      r_istore (L2 := [some (.ref 44), some (gv v1), some (gv v8)]) (pc2 := 16) rfl rfl rfl (
      r_aload (pc2 := 17) rfl rfl rfl (
      r_getA (pc2 := 20) rfl rfl (sh_T hs rfl rfl) (sh_A hs rfl rfl) (
      r_iload (pc2 := 21) rfl rfl rfl (
      r_iload (pc2 := 22) rfl rfl rfl (
      r_b1 (R1 := (fun (q : Int) (c : Option jm_R) => c = jm_sup cd_242 (jm_cl jm_CD km_n (d + 5)) (33, [some (.ref 44), some (gv v1), some (gv v8)], [gv q, gv v1, .ref 85], gm_h s g9))) (
      jr_g fun h11 => r_ifeq (pc2 := 25) (t := 32) rfl h11 rfl (fun _ =>
      r_ic (x := -1) (pc2 := 33) rfl ic_m1 rfl (
      jr_leaf rfl)) (fun _ =>
      r_aload (pc2 := 26) rfl rfl rfl (
      r_getI (pc2 := 29) rfl rfl (sh_T hs rfl rfl) (
      r_goto (t := 33) rfl (
      jr_leaf rfl))))) (fun v10 c h => match c, h with | _, rfl => (
      jr_g fun h13 => r_iast (len := 30) (pc2 := 34) rfl rfl (sh_T hs rfl rfl) (sh_L hs rfl rfl) rfl h13 fun g12 => (
      r_aload (pc2 := 35) rfl rfl rfl (
      r_getA (pc2 := 38) rfl rfl (sh_T hs rfl rfl) (sh_A hs rfl rfl) (
      r_iload (pc2 := 39) rfl rfl rfl (
      r_aload (pc2 := 40) rfl rfl rfl (
      r_getI (pc2 := 43) rfl rfl (sh_T hs rfl rfl) (
      r_iast (len := 30) (pc2 := 44) rfl rfl (sh_T hs rfl rfl) (sh_L hs rfl rfl) rfl h13 fun g14 => (
      r_aload (pc2 := 45) rfl rfl rfl (
      r_getA (pc2 := 48) rfl rfl (sh_T hs rfl rfl) (sh_A hs rfl rfl) (
      r_iload (pc2 := 49) rfl rfl rfl (
      r_aload (pc2 := 50) rfl rfl rfl (
      r_getI (pc2 := 53) rfl rfl (sh_T hs rfl rfl) (
      r_iast (len := 30) (pc2 := 54) rfl rfl (sh_T hs rfl rfl) (sh_L hs rfl rfl) rfl h13 fun g15 => (
      r_iinc (kk := 1) (L2 := [some (.ref 44), some (gv (v1 + 1)), some (gv v8)]) (pc2 := 57) rfl ic_1 rfl rfl rfl (
      r_goto (t := 2) rfl (
      ih (v1 + 1) g15 _ rfl)))))))))))))))))))))))))) (fun _ =>
      jr_leaf ⟨_, _, rfl, hj2, rfl⟩)))))
theorem rf_md_walls {s : gm_S} {n m : Nat} (hs : gm_sh s n m) (d : Nat)  (g : gm_T)   : jr (eV s) (md_walls g ) (jm_cl jm_CD km_n (d + 6) 242 [.ref 44] (gm_h s g)) := by
  unfold md_walls
  exact (r_ent (cd := cd_242) (n := 3) (L0 := [some (.ref 44), none, none]) rfl rfl rfl rfl (
      r_ic (x := 0) (pc2 := 1) rfl ic_0 rfl (
      r_istore (L2 := [some (.ref 44), some (gv 0), none]) (pc2 := 2) rfl rfl rfl (
      r_b1 (rl_md_walls_l2 hs d     fz 0 g _ rfl) (fun g19 c h => match c, h with | _, ⟨j17, j18, hj17, hj18, rfl⟩ => (
      r_vret rfl rfl))))))
theorem rl_md_places_l3 {s : gm_S} {n m : Nat} (hs : gm_sh s n m) (d : Nat)  (c1 : Int) (c2 : Int) (c3 : Int) (c4 : Int)  : ∀ (fuel : Nat) (v5 : Int) (g6 : gm_T), jr (fun (q : gm_T) (c : Option jm_R) => ∃ (j7 : Option Value), jm_lg j7 = false ∧ c = jm_sup cd_243 (jm_cl jm_CD km_n (d + 4)) (82, [some (.ref 44), some (gv c1), some (gv c2), some (gv c3), some (gv c4), j7], [], gm_h s q)) (md_places_l3  c1 c2 c3 c4 fuel v5 g6) (jm_sup cd_243 (jm_cl jm_CD km_n (d + 4)) (3, [some (.ref 44), some (gv c1), some (gv c2), some (gv c3), some (gv c4), some (gv v5)], [], gm_h s g6)) := by
  intro fuel
  induction fuel with
  | zero => intros; exact jr_none
  | succ fuel ih =>
    intro v5 g6  
    unfold md_places_l3
    exact (
      r_iload (pc2 := 5) rfl rfl rfl (
      r_aload (pc2 := 6) rfl rfl rfl (
      r_getI (pc2 := 9) rfl rfl (sh_T hs rfl rfl) (
      jr_g fun h9 => r_cge (pc2 := 12) (t := 82) rfl h9.1 h9.2 rfl (fun _ =>
      r_aload (pc2 := 13) rfl rfl rfl (
      r_getA (pc2 := 16) rfl rfl (sh_T hs rfl rfl) (sh_A hs rfl rfl) (
      r_iload (pc2 := 18) rfl rfl rfl (
      jr_g fun h10 => r_iald (len := 30) (pc2 := 19) rfl rfl (sh_T hs rfl rfl) (sh_L hs rfl rfl) rfl h10 (
      r_aload (pc2 := 20) rfl rfl rfl (
      r_getA (pc2 := 23) rfl rfl (sh_T hs rfl rfl) (sh_A hs rfl rfl) (
      r_iload (pc2 := 24) rfl rfl rfl (
      jr_g fun h11 => r_iald (len := 30) (pc2 := 25) rfl rfl (sh_T hs rfl rfl) (sh_L hs rfl rfl) rfl h11 (
      jr_g fun h12 => r_cne (pc2 := 28) (t := 76) rfl h12.1 h12.2 rfl (fun _ =>
      r_aload (pc2 := 29) rfl rfl rfl (
      r_iload (pc2 := 30) rfl rfl rfl (
      r_iload (pc2 := 31) rfl rfl rfl (
      r_iload (pc2 := 33) rfl rfl rfl (
      r_callVV (pc2 := 36) (args := [.ref 44, gv c2, gv c3, gv c4]) (st2 := []) rfl rfl rfl rfl rfl rfl (rc_of (sh_T hs rfl rfl)) (rf_md_holds hs (d + 3) g6 c2 c3 c4 ) fun g13 => (
      r_aload (pc2 := 37) rfl rfl rfl (
      r_iload (pc2 := 38) rfl rfl rfl (
      r_iload (pc2 := 40) rfl rfl rfl (
      r_callVV (pc2 := 43) (args := [.ref 44, gv c1, gv v5]) (st2 := []) rfl rfl rfl rfl rfl rfl (rc_of (sh_T hs rfl rfl)) (rf_md_thenWithin hs d g13 c1 v5 ) fun g14 => (
      r_aload (pc2 := 44) rfl rfl rfl (
      r_getA (pc2 := 47) rfl rfl (sh_T hs rfl rfl) (sh_A hs rfl rfl) (
      r_iload (pc2 := 49) rfl rfl rfl (
      r_aload (pc2 := 50) rfl rfl rfl (
      r_getI (pc2 := 53) rfl rfl (sh_T hs rfl rfl) (
      r_iast (len := 30) (pc2 := 54) rfl rfl (sh_T hs rfl rfl) (sh_L hs rfl rfl) rfl h10 fun g15 => (
      r_aload (pc2 := 55) rfl rfl rfl (
      r_getA (pc2 := 58) rfl rfl (sh_T hs rfl rfl) (sh_A hs rfl rfl) (
      r_iload (pc2 := 60) rfl rfl rfl (
      r_aload (pc2 := 61) rfl rfl rfl (
      r_getI (pc2 := 64) rfl rfl (sh_T hs rfl rfl) (
      r_iast (len := 30) (pc2 := 65) rfl rfl (sh_T hs rfl rfl) (sh_L hs rfl rfl) rfl h10 fun g16 => (
      r_aload (pc2 := 66) rfl rfl rfl (
      r_getA (pc2 := 69) rfl rfl (sh_T hs rfl rfl) (sh_A hs rfl rfl) (
      r_iload (pc2 := 71) rfl rfl rfl (
      r_aload (pc2 := 72) rfl rfl rfl (
      r_getI (pc2 := 75) rfl rfl (sh_T hs rfl rfl) (
      r_iast (len := 30) (pc2 := 76) rfl rfl (sh_T hs rfl rfl) (sh_L hs rfl rfl) rfl h10 fun g17 => (
      r_iinc (kk := 1) (L2 := [some (.ref 44), some (gv c1), some (gv c2), some (gv c3), some (gv c4), some (gv (v5 + 1))]) (pc2 := 79) rfl ic_1 rfl rfl rfl (
      r_goto (t := 3) rfl (
      ih (v5 + 1) g17)))))))))))))))))))))))))))))) (fun _ =>
      r_iinc (kk := 1) (L2 := [some (.ref 44), some (gv c1), some (gv c2), some (gv c3), some (gv c4), some (gv (v5 + 1))]) (pc2 := 79) rfl ic_1 rfl rfl rfl (
      r_goto (t := 3) rfl (
      ih (v5 + 1) g6)))))))))))) (fun _ =>
      jr_leaf ⟨_, rfl, rfl⟩)))))
theorem rf_md_places {s : gm_S} {n m : Nat} (hs : gm_sh s n m) (d : Nat)  (g : gm_T) (a1 : Int) (a2 : Int) (a3 : Int) (a4 : Int)  : jr (eV s) (md_places g a1 a2 a3 a4) (jm_cl jm_CD km_n (d + 5) 243 [.ref 44, gv a1, gv a2, gv a3, gv a4] (gm_h s g)) := by
  unfold md_places
  exact (r_ent (cd := cd_243) (n := 6) (L0 := [some (.ref 44), some (gv a1), some (gv a2), some (gv a3), some (gv a4), none]) rfl rfl rfl rfl (
      r_ic (x := 0) (pc2 := 1) rfl ic_0 rfl (
      r_istore (L2 := [some (.ref 44), some (gv a1), some (gv a2), some (gv a3), some (gv a4), some (gv 0)]) (pc2 := 3) rfl rfl rfl (
      r_b1 (rl_md_places_l3 hs d   a1 a2 a3 a4  fz 0 g  ) (fun g21 c h => match c, h with | _, ⟨j20, hj20, rfl⟩ => (
      r_vret rfl rfl))))))
theorem rf_md_overlapThere {s : gm_S} {n m : Nat} (hs : gm_sh s n m) (d : Nat)  (g : gm_T) (a1 : Int) (a2 : Int)  : jr (eI s) (md_overlapThere g a1 a2) (jm_cl jm_CD km_n (d + 5) 244 [.ref 44, gv a1, gv a2] (gm_h s g)) := by
  unfold md_overlapThere
  exact (r_ent (cd := cd_244) (n := 3) (L0 := [some (.ref 44), some (gv a1), some (gv a2)]) rfl rfl rfl rfl (
      r_aload (pc2 := 1) rfl rfl rfl (
      r_ic (x := 0) (pc2 := 2) rfl ic_0 rfl (
      r_ic (x := 0) (pc2 := 3) rfl ic_0 rfl (
      r_ic (x := 0) (pc2 := 4) rfl ic_0 rfl (
      r_callVV (pc2 := 7) (args := [.ref 44, gv 0, gv 0, gv 0]) (st2 := []) rfl rfl rfl rfl rfl rfl (rc_of (sh_T hs rfl rfl)) (rf_md_holds hs (d + 3) g 0 0 0 ) fun g1 => (
      r_aload (pc2 := 8) rfl rfl rfl (
      r_aload (pc2 := 9) rfl rfl rfl (
      r_getA (pc2 := 12) rfl rfl (sh_T hs rfl rfl) (sh_A hs rfl rfl) (
      r_iload (pc2 := 13) rfl rfl rfl (
      jr_g fun h2 => r_iald (len := 30) (pc2 := 14) rfl rfl (sh_T hs rfl rfl) (sh_L hs rfl rfl) rfl h2 (
      r_aload (pc2 := 15) rfl rfl rfl (
      r_getA (pc2 := 18) rfl rfl (sh_T hs rfl rfl) (sh_A hs rfl rfl) (
      r_iload (pc2 := 19) rfl rfl rfl (
      r_iald (len := 30) (pc2 := 20) rfl rfl (sh_T hs rfl rfl) (sh_L hs rfl rfl) rfl h2 (
      r_aload (pc2 := 21) rfl rfl rfl (
      r_getA (pc2 := 24) rfl rfl (sh_T hs rfl rfl) (sh_A hs rfl rfl) (
      r_iload (pc2 := 25) rfl rfl rfl (
      r_iald (len := 30) (pc2 := 26) rfl rfl (sh_T hs rfl rfl) (sh_L hs rfl rfl) rfl h2 (
      r_callVV (pc2 := 29) (args := [.ref 44, gv (gm_I g1 85 a1.toNat), gv (gm_I g1 86 a1.toNat), gv (gm_I g1 87 a1.toNat)]) (st2 := []) rfl rfl rfl rfl rfl rfl (rc_of (sh_T hs rfl rfl)) (rf_md_thenBack hs (d + 1) g1 (gm_I g1 85 a1.toNat) (gm_I g1 86 a1.toNat) (gm_I g1 87 a1.toNat) ) fun g3 => (
      r_aload (pc2 := 30) rfl rfl rfl (
      r_aload (pc2 := 31) rfl rfl rfl (
      r_getA (pc2 := 34) rfl rfl (sh_T hs rfl rfl) (sh_A hs rfl rfl) (
      r_iload (pc2 := 35) rfl rfl rfl (
      jr_g fun h4 => r_iald (len := 30) (pc2 := 36) rfl rfl (sh_T hs rfl rfl) (sh_L hs rfl rfl) rfl h4 (
      r_aload (pc2 := 37) rfl rfl rfl (
      r_getA (pc2 := 40) rfl rfl (sh_T hs rfl rfl) (sh_A hs rfl rfl) (
      r_iload (pc2 := 41) rfl rfl rfl (
      r_iald (len := 30) (pc2 := 42) rfl rfl (sh_T hs rfl rfl) (sh_L hs rfl rfl) rfl h4 (
      r_aload (pc2 := 43) rfl rfl rfl (
      r_getA (pc2 := 46) rfl rfl (sh_T hs rfl rfl) (sh_A hs rfl rfl) (
      r_iload (pc2 := 47) rfl rfl rfl (
      r_iald (len := 30) (pc2 := 48) rfl rfl (sh_T hs rfl rfl) (sh_L hs rfl rfl) rfl h4 (
      r_callVV (pc2 := 51) (args := [.ref 44, gv (gm_I g3 85 a2.toNat), gv (gm_I g3 86 a2.toNat), gv (gm_I g3 87 a2.toNat)]) (st2 := []) rfl rfl rfl rfl rfl rfl (rc_of (sh_T hs rfl rfl)) (rf_md_then hs (d + 2) g3 (gm_I g3 85 a2.toNat) (gm_I g3 86 a2.toNat) (gm_I g3 87 a2.toNat) ) fun g5 => (
      r_aload (pc2 := 52) rfl rfl rfl (
      r_iload (pc2 := 53) rfl rfl rfl (
      r_iload (pc2 := 54) rfl rfl rfl (
      r_aload (pc2 := 55) rfl rfl rfl (
      r_getI (pc2 := 58) rfl rfl (sh_T hs rfl rfl) (
      r_aload (pc2 := 59) rfl rfl rfl (
      r_getI (pc2 := 62) rfl rfl (sh_T hs rfl rfl) (
      r_aload (pc2 := 63) rfl rfl rfl (
      r_getI (pc2 := 66) rfl rfl (sh_T hs rfl rfl) (
      r_callVP (pc2 := 69) (args := [.ref 44, gv a1, gv a2, gv (gm_I g5 44 49), gv (gm_I g5 44 50), gv (gm_I g5 44 51)]) (st2 := []) rfl rfl rfl rfl rfl rfl (rc_of (sh_T hs rfl rfl)) (rf_md_overlaps hs d g5 a1 a2 (gm_I g5 44 49) (gm_I g5 44 50) (gm_I g5 44 51) ) fun v6 => (
      r_iret rfl rfl)))))))))))))))))))))))))))))))))))))))))))))
theorem rl_md_clashesBy_l26 {s : gm_S} {n m : Nat} (hs : gm_sh s n m) (d : Nat)  (c5 : Int)  : ∀ (fuel : Nat) (v8 : Int) (g9 : gm_T) (j6 : Option Value) (j7 : Option Value) (hj6 : jm_lg j6 = false) (hj7 : jm_lg j7 = false), jr (fun (q : gm_T) (c : Option jm_R) => ∃ (j10 : Option Value), jm_lg j10 = false ∧ c = jm_sup cd_245 (jm_cl jm_CD km_n d) (55, [some (.ref 44), some (gv c5), j6, j7, j10], [], gm_h s q)) (md_clashesBy_l26  c5 fuel v8 g9) (jm_sup cd_245 (jm_cl jm_CD km_n d) (26, [some (.ref 44), some (gv c5), j6, j7, some (gv v8)], [], gm_h s g9)) := by
  intro fuel
  induction fuel with
  | zero => intros; exact jr_none
  | succ fuel ih =>
    intro v8 g9 j6 j7 hj6 hj7
    unfold md_clashesBy_l26
    exact (
      r_iload (pc2 := 28) rfl rfl rfl (
      r_aload (pc2 := 29) rfl rfl rfl (
      r_getI (pc2 := 32) rfl rfl (sh_T hs rfl rfl) (
      jr_g fun h12 => r_cge (pc2 := 35) (t := 55) rfl h12.1 h12.2 rfl (fun _ =>
      r_aload (pc2 := 36) rfl rfl rfl (
      r_getA (pc2 := 39) rfl rfl (sh_T hs rfl rfl) (sh_A hs rfl rfl) (
      r_iload (pc2 := 41) rfl rfl rfl (
      r_aload (pc2 := 42) rfl rfl rfl (
      r_getA (pc2 := 45) rfl rfl (sh_T hs rfl rfl) (sh_A hs rfl rfl) (
      r_iload (pc2 := 47) rfl rfl rfl (
      jr_g fun h13 => r_iald (len := 60) (pc2 := 48) rfl rfl (sh_T hs rfl rfl) (sh_L hs rfl rfl) rfl h13 (
      r_iast (len := 60) (pc2 := 49) rfl rfl (sh_T hs rfl rfl) (sh_L hs rfl rfl) rfl h13 fun g14 => (
      r_iinc (kk := 1) (L2 := [some (.ref 44), some (gv c5), j6, j7, some (gv (v8 + 1))]) (pc2 := 52) rfl ic_1 rfl rfl (jm_st1j hj7 rfl ⟨rfl, rfl⟩) (
      r_goto (t := 26) rfl (
      ih (v8 + 1) g14 _ _ hj6 hj7))))))))))) (fun _ =>
      jr_leaf ⟨_, rfl, rfl⟩)))))
theorem rf_md_clashesBy {s : gm_S} {n m : Nat} (hs : gm_sh s n m) (d : Nat)  (g : gm_T) (a1 : Int) (a2 : Int) (a3 : Int)  : jr (eI s) (md_clashesBy g a1 a2 a3) (jm_cl jm_CD km_n (d + 1) 245 [.ref 44, gv a1, gv a2, gv a3] (gm_h s g)) := by
  unfold md_clashesBy
  exact (r_ent (cd := cd_245) (n := 5) (L0 := [some (.ref 44), some (gv a1), some (gv a2), some (gv a3), none]) rfl rfl rfl rfl (
      r_aload (pc2 := 1) rfl rfl rfl (
      r_iload (pc2 := 2) rfl rfl rfl (
      r_putI (pc2 := 5) rfl rfl (sh_T hs rfl rfl) fun g1 => (
      r_aload (pc2 := 6) rfl rfl rfl (
      r_iload (pc2 := 7) rfl rfl rfl (
      r_putI (pc2 := 10) rfl rfl (sh_T hs rfl rfl) fun g2 => (
      r_aload (pc2 := 11) rfl rfl rfl (
      r_iload (pc2 := 12) rfl rfl rfl (
      r_putI (pc2 := 15) rfl rfl (sh_T hs rfl rfl) fun g3 => (
      r_aload (pc2 := 16) rfl rfl rfl (
      r_aload (pc2 := 17) rfl rfl rfl (
      r_getI (pc2 := 20) rfl rfl (sh_T hs rfl rfl) (
      r_putI (pc2 := 23) rfl rfl (sh_T hs rfl rfl) fun g4 => (
      r_ic (x := 0) (pc2 := 24) rfl ic_0 rfl (
      r_istore (L2 := [some (.ref 44), some (gv a1), some (gv a2), some (gv a3), some (gv 0)]) (pc2 := 26) rfl rfl rfl (
      r_b1 (rl_md_clashesBy_l26 hs d   a1  fz 0 g4 _ _ rfl rfl) (fun g19 c h => match c, h with | _, ⟨j18, hj18, rfl⟩ => (
      r_ic (x := -10) (pc2 := 57) rfl ic_m10 rfl (
      r_iload (pc2 := 58) rfl rfl rfl (
      r_isub (pc2 := 59) rfl rfl (
      r_iret rfl rfl))))))))))))))))))))))
theorem rl_md_hits_l18 {s : gm_S} {n m : Nat} (hs : gm_sh s n m) (d : Nat)  (c8 : Int) (c9 : Int) (c10 : Int)  : ∀ (fuel : Nat) (v11 : Int) (g12 : gm_T), jr (fun (x : (gm_T) ⊕ (Int × gm_T)) (c : Option jm_R) => match x with | .inl q => (∃ (j13 : Option Value), jm_lg j13 = false ∧ c = jm_sup cd_246 (jm_cl jm_CD km_n (d + 5)) (99, [some (.ref 44), some (gv c8), some (gv c9), some (gv c10), j13], [], gm_h s q)) | .inr r => eI s r c) (md_hits_l18  c8 c9 c10 fuel v11 g12) (jm_sup cd_246 (jm_cl jm_CD km_n (d + 5)) (18, [some (.ref 44), some (gv c8), some (gv c9), some (gv c10), some (gv v11)], [], gm_h s g12)) := by
  intro fuel
  induction fuel with
  | zero => intros; exact jr_none
  | succ fuel ih =>
    intro v11 g12  
    unfold md_hits_l18
    exact (
      r_iload (pc2 := 20) rfl rfl rfl (
      r_aload (pc2 := 21) rfl rfl rfl (
      r_getI (pc2 := 24) rfl rfl (sh_T hs rfl rfl) (
      jr_g fun h15 => r_cge (pc2 := 27) (t := 99) rfl h15.1 h15.2 rfl (fun _ =>
      r_aload (pc2 := 28) rfl rfl rfl (
      r_getA (pc2 := 31) rfl rfl (sh_T hs rfl rfl) (sh_A hs rfl rfl) (
      r_iload (pc2 := 32) rfl rfl rfl (
      jr_g fun h16 => r_iald (len := 30) (pc2 := 33) rfl rfl (sh_T hs rfl rfl) (sh_L hs rfl rfl) rfl h16 (
      r_iload (pc2 := 34) rfl rfl rfl (
      jr_g fun h17 => r_cne (pc2 := 37) (t := 99) rfl h17.1 h17.2 rfl (fun _ =>
      r_aload (pc2 := 38) rfl rfl rfl (
      r_getA (pc2 := 41) rfl rfl (sh_T hs rfl rfl) (sh_A hs rfl rfl) (
      r_iload (pc2 := 43) rfl rfl rfl (
      jr_g fun h18 => r_iald (len := 30) (pc2 := 44) rfl rfl (sh_T hs rfl rfl) (sh_L hs rfl rfl) rfl h18 (
      r_iload (pc2 := 45) rfl rfl rfl (
      jr_g fun h19 => r_ceq (pc2 := 48) (t := 93) rfl h19 h17.2 rfl (fun _ =>
      r_iinc (kk := 1) (L2 := [some (.ref 44), some (gv c8), some (gv c9), some (gv c10), some (gv (v11 + 1))]) (pc2 := 96) rfl ic_1 rfl rfl rfl (
      r_goto (t := 18) rfl (
      ih (v11 + 1) g12))) (fun _ =>
      r_aload (pc2 := 49) rfl rfl rfl (
      r_getA (pc2 := 52) rfl rfl (sh_T hs rfl rfl) (sh_A hs rfl rfl) (
      r_iload (pc2 := 54) rfl rfl rfl (
      r_iald (len := 30) (pc2 := 55) rfl rfl (sh_T hs rfl rfl) (sh_L hs rfl rfl) rfl h18 (
      r_iload (pc2 := 56) rfl rfl rfl (
      jr_g fun h21 => r_ceq (pc2 := 59) (t := 93) rfl h19 h21 rfl (fun _ =>
      r_iinc (kk := 1) (L2 := [some (.ref 44), some (gv c8), some (gv c9), some (gv c10), some (gv (v11 + 1))]) (pc2 := 96) rfl ic_1 rfl rfl rfl (
      r_goto (t := 18) rfl (
      ih (v11 + 1) g12))) (fun _ =>
      r_aload (pc2 := 60) rfl rfl rfl (
      r_getA (pc2 := 63) rfl rfl (sh_T hs rfl rfl) (sh_A hs rfl rfl) (
      r_iload (pc2 := 65) rfl rfl rfl (
      r_iald (len := 30) (pc2 := 66) rfl rfl (sh_T hs rfl rfl) (sh_L hs rfl rfl) rfl h18 (
      r_ic (x := -1) (pc2 := 67) rfl ic_m1 rfl (
      jr_g fun h23 => r_ceq (pc2 := 70) (t := 93) rfl h23 (rgk rfl) rfl (fun _ =>
      r_iinc (kk := 1) (L2 := [some (.ref 44), some (gv c8), some (gv c9), some (gv c10), some (gv (v11 + 1))]) (pc2 := 96) rfl ic_1 rfl rfl rfl (
      r_goto (t := 18) rfl (
      ih (v11 + 1) g12))) (fun _ =>
      r_aload (pc2 := 71) rfl rfl rfl (
      r_iload (pc2 := 72) rfl rfl rfl (
      r_iload (pc2 := 74) rfl rfl rfl (
      r_callVI (pc2 := 77) (args := [.ref 44, gv c10, gv v11]) (st2 := []) rfl rfl rfl rfl rfl rfl (rc_of (sh_T hs rfl rfl)) (rf_md_overlapThere hs d g12 c10 v11 ) fun v25 g26 => (
      r_aload (pc2 := 78) rfl rfl rfl (
      r_getI (pc2 := 81) rfl rfl (sh_T hs rfl rfl) (
      jr_g fun h27 => r_cle (pc2 := 84) (t := 93) rfl h27.1 h27.2 rfl (fun _ =>
      r_iinc (kk := 1) (L2 := [some (.ref 44), some (gv c8), some (gv c9), some (gv c10), some (gv (v11 + 1))]) (pc2 := 96) rfl ic_1 rfl rfl rfl (
      r_goto (t := 18) rfl (
      ih (v11 + 1) g26))) (fun _ =>
      r_aload (pc2 := 85) rfl rfl rfl (
      r_ic (x := 5) (pc2 := 86) rfl ic_5 rfl (
      r_iload (pc2 := 87) rfl rfl rfl (
      r_iload (pc2 := 89) rfl rfl rfl (
      r_callVI (pc2 := 92) (args := [.ref 44, gv 5, gv c10, gv v11]) (st2 := []) rfl rfl rfl rfl rfl rfl (rc_of (sh_T hs rfl rfl)) (rf_md_clashesBy hs (d + 4) g26 5 c10 v11 ) fun v29 g30 => (
      r_iret rfl rfl))))))))))))))))))))))))))))))) (fun _ =>
      jr_leaf ⟨_, rfl, rfl⟩))))))) (fun _ =>
      jr_leaf ⟨_, rfl, rfl⟩)))))
theorem rl_md_hits_l7 {s : gm_S} {n m : Nat} (hs : gm_sh s n m) (d : Nat)  (c2 : Int) (c3 : Int)  : ∀ (fuel : Nat) (v4 : Int) (g6 : gm_T) (j5 : Option Value) (hj5 : jm_lg j5 = false), jr (eI s) (md_hits_l7  c2 c3 fuel v4 g6) (jm_sup cd_246 (jm_cl jm_CD km_n (d + 5)) (7, [some (.ref 44), some (gv c2), some (gv c3), some (gv v4), j5], [], gm_h s g6)) := by
  intro fuel
  induction fuel with
  | zero => intros; exact jr_none
  | succ fuel ih =>
    intro v4 g6 j5 hj5
    unfold md_hits_l7
    exact (
      r_iload (pc2 := 8) rfl rfl rfl (
      r_aload (pc2 := 9) rfl rfl rfl (
      r_getI (pc2 := 12) rfl rfl (sh_T hs rfl rfl) (
      jr_g fun h7 => r_cge (pc2 := 15) (t := 105) rfl h7.1 h7.2 rfl (fun _ =>
      r_ic (x := 0) (pc2 := 16) rfl ic_0 rfl (
      r_istore (L2 := [some (.ref 44), some (gv c2), some (gv c3), some (gv v4), some (gv 0)]) (pc2 := 18) rfl rfl rfl (
      r_c1 (rl_md_hits_l18 hs d   c2 c3 v4  fz 0 g6  ) (fun r c h => jr_leaf h) (fun g32 c h => match c, h with | _, ⟨j31, hj31, rfl⟩ => (
      r_iinc (kk := 1) (L2 := [some (.ref 44), some (gv c2), some (gv c3), some (gv (v4 + 1)), j31]) (pc2 := 102) rfl ic_1 rfl rfl rfl (
      r_goto (t := 7) rfl (
      ih (v4 + 1) g32 _ hj31))))))) (fun _ =>
      r_ic (x := 0) (pc2 := 106) rfl ic_0 rfl (
      r_iret rfl rfl))))))
theorem rf_md_hits {s : gm_S} {n m : Nat} (hs : gm_sh s n m) (d : Nat)  (g : gm_T) (a1 : Int) (a2 : Int)  : jr (eI s) (md_hits g a1 a2) (jm_cl jm_CD km_n (d + 6) 246 [.ref 44, gv a1, gv a2] (gm_h s g)) := by
  unfold md_hits
  exact (r_ent (cd := cd_246) (n := 5) (L0 := [some (.ref 44), some (gv a1), some (gv a2), none, none]) rfl rfl rfl rfl (
      r_aload (pc2 := 1) rfl rfl rfl (
      r_ic (x := 0) (pc2 := 2) rfl ic_0 rfl (
      r_putI (pc2 := 5) rfl rfl (sh_T hs rfl rfl) fun g1 => (
      r_ic (x := 0) (pc2 := 6) rfl ic_0 rfl (
      r_istore (L2 := [some (.ref 44), some (gv a1), some (gv a2), some (gv 0), none]) (pc2 := 7) rfl rfl rfl (
      rl_md_hits_l7 hs d   a1 a2  fz 0 g1 _ rfl)))))))
theorem rl_md_isTaken_l5 {s : gm_S} {n m : Nat} (hs : gm_sh s n m) (d : Nat)  (g : gm_T) (c1 : Int) (c2 : Int)  : ∀ (fuel : Nat) (v3 : Int) (v4 : Int), jr (fun (q : Int) (c : Option jm_R) => ∃ (j6 : Option Value), jm_lg j6 = false ∧ c = jm_sup cd_247 (jm_cl jm_CD km_n d) (84, [some (.ref 44), some (gv c1), some (gv c2), some (gv q), j6], [], gm_h s g)) (md_isTaken_l5 g c1 c2 fuel v3 v4) (jm_sup cd_247 (jm_cl jm_CD km_n d) (5, [some (.ref 44), some (gv c1), some (gv c2), some (gv v3), some (gv v4)], [], gm_h s g)) := by
  intro fuel
  induction fuel with
  | zero => intros; exact jr_none
  | succ fuel ih =>
    intro v3 v4  
    unfold md_isTaken_l5
    exact (
      r_iload (pc2 := 7) rfl rfl rfl (
      r_aload (pc2 := 8) rfl rfl rfl (
      r_getI (pc2 := 11) rfl rfl (sh_T hs rfl rfl) (
      jr_g fun h7 => r_cge (pc2 := 14) (t := 84) rfl h7.1 h7.2 rfl (fun _ =>
      r_iload (pc2 := 15) rfl rfl rfl (
      jr_g fun h8 => r_ifne (pc2 := 18) (t := 72) rfl h8 rfl (fun _ =>
      r_aload (pc2 := 19) rfl rfl rfl (
      r_getA (pc2 := 22) rfl rfl (sh_T hs rfl rfl) (sh_A hs rfl rfl) (
      r_iload (pc2 := 24) rfl rfl rfl (
      jr_g fun h9 => r_iald (len := 60) (pc2 := 25) rfl rfl (sh_T hs rfl rfl) (sh_L hs rfl rfl) rfl h9 (
      jr_g fun h10 => r_ifeq (pc2 := 28) (t := 76) rfl h10 rfl (fun _ =>
      r_ic (x := 0) (pc2 := 77) rfl ic_0 rfl (
      r_istore (L2 := [some (.ref 44), some (gv c1), some (gv c2), some (gv 0), some (gv v4)]) (pc2 := 78) rfl rfl rfl (
      r_iinc (kk := 1) (L2 := [some (.ref 44), some (gv c1), some (gv c2), some (gv 0), some (gv (v4 + 1))]) (pc2 := 81) rfl ic_1 rfl rfl rfl (
      r_goto (t := 5) rfl (
      ih 0 (v4 + 1)))))) (fun _ =>
      r_aload (pc2 := 29) rfl rfl rfl (
      r_getA (pc2 := 32) rfl rfl (sh_T hs rfl rfl) (sh_A hs rfl rfl) (
      r_iload (pc2 := 34) rfl rfl rfl (
      r_iald (len := 60) (pc2 := 35) rfl rfl (sh_T hs rfl rfl) (sh_L hs rfl rfl) rfl h9 (
      r_iload (pc2 := 36) rfl rfl rfl (
      jr_g fun h12 => r_cne (pc2 := 39) (t := 50) rfl h12.1 h12.2 rfl (fun _ =>
      r_aload (pc2 := 40) rfl rfl rfl (
      r_getA (pc2 := 43) rfl rfl (sh_T hs rfl rfl) (sh_A hs rfl rfl) (
      r_iload (pc2 := 45) rfl rfl rfl (
      r_iald (len := 60) (pc2 := 46) rfl rfl (sh_T hs rfl rfl) (sh_L hs rfl rfl) rfl h9 (
      r_iload (pc2 := 47) rfl rfl rfl (
      jr_g fun h13 => r_ceq (pc2 := 50) (t := 72) rfl h13.1 h13.2 rfl (fun _ =>
      r_ic (x := 1) (pc2 := 73) rfl ic_1 rfl (
      r_goto (t := 77) rfl (
      r_istore (L2 := [some (.ref 44), some (gv c1), some (gv c2), some (gv 1), some (gv v4)]) (pc2 := 78) rfl rfl rfl (
      r_iinc (kk := 1) (L2 := [some (.ref 44), some (gv c1), some (gv c2), some (gv 1), some (gv (v4 + 1))]) (pc2 := 81) rfl ic_1 rfl rfl rfl (
      r_goto (t := 5) rfl (
      ih 1 (v4 + 1))))))) (fun _ =>
      r_aload (pc2 := 51) rfl rfl rfl (
      r_getA (pc2 := 54) rfl rfl (sh_T hs rfl rfl) (sh_A hs rfl rfl) (
      r_iload (pc2 := 56) rfl rfl rfl (
      r_iald (len := 60) (pc2 := 57) rfl rfl (sh_T hs rfl rfl) (sh_L hs rfl rfl) rfl h9 (
      r_iload (pc2 := 58) rfl rfl rfl (
      jr_g fun h15 => r_cne (pc2 := 61) (t := 76) rfl h15 h12.2 rfl (fun _ =>
      r_aload (pc2 := 62) rfl rfl rfl (
      r_getA (pc2 := 65) rfl rfl (sh_T hs rfl rfl) (sh_A hs rfl rfl) (
      r_iload (pc2 := 67) rfl rfl rfl (
      r_iald (len := 60) (pc2 := 68) rfl rfl (sh_T hs rfl rfl) (sh_L hs rfl rfl) rfl h9 (
      r_iload (pc2 := 69) rfl rfl rfl (
      jr_g fun h16 => r_cne (pc2 := 72) (t := 76) rfl h16 h13.2 rfl (fun _ =>
      r_ic (x := 1) (pc2 := 73) rfl ic_1 rfl (
      r_goto (t := 77) rfl (
      r_istore (L2 := [some (.ref 44), some (gv c1), some (gv c2), some (gv 1), some (gv v4)]) (pc2 := 78) rfl rfl rfl (
      r_iinc (kk := 1) (L2 := [some (.ref 44), some (gv c1), some (gv c2), some (gv 1), some (gv (v4 + 1))]) (pc2 := 81) rfl ic_1 rfl rfl rfl (
      r_goto (t := 5) rfl (
      ih 1 (v4 + 1))))))) (fun _ =>
      r_ic (x := 0) (pc2 := 77) rfl ic_0 rfl (
      r_istore (L2 := [some (.ref 44), some (gv c1), some (gv c2), some (gv 0), some (gv v4)]) (pc2 := 78) rfl rfl rfl (
      r_iinc (kk := 1) (L2 := [some (.ref 44), some (gv c1), some (gv c2), some (gv 0), some (gv (v4 + 1))]) (pc2 := 81) rfl ic_1 rfl rfl rfl (
      r_goto (t := 5) rfl (
      ih 0 (v4 + 1)))))))))))) (fun _ =>
      r_ic (x := 0) (pc2 := 77) rfl ic_0 rfl (
      r_istore (L2 := [some (.ref 44), some (gv c1), some (gv c2), some (gv 0), some (gv v4)]) (pc2 := 78) rfl rfl rfl (
      r_iinc (kk := 1) (L2 := [some (.ref 44), some (gv c1), some (gv c2), some (gv 0), some (gv (v4 + 1))]) (pc2 := 81) rfl ic_1 rfl rfl rfl (
      r_goto (t := 5) rfl (
      ih 0 (v4 + 1)))))))))))))))))) (fun _ =>
      r_aload (pc2 := 51) rfl rfl rfl (
      r_getA (pc2 := 54) rfl rfl (sh_T hs rfl rfl) (sh_A hs rfl rfl) (
      r_iload (pc2 := 56) rfl rfl rfl (
      r_iald (len := 60) (pc2 := 57) rfl rfl (sh_T hs rfl rfl) (sh_L hs rfl rfl) rfl h9 (
      r_iload (pc2 := 58) rfl rfl rfl (
      jr_g fun h20 => r_cne (pc2 := 61) (t := 76) rfl h20 h12.2 rfl (fun _ =>
      r_aload (pc2 := 62) rfl rfl rfl (
      r_getA (pc2 := 65) rfl rfl (sh_T hs rfl rfl) (sh_A hs rfl rfl) (
      r_iload (pc2 := 67) rfl rfl rfl (
      r_iald (len := 60) (pc2 := 68) rfl rfl (sh_T hs rfl rfl) (sh_L hs rfl rfl) rfl h9 (
      r_iload (pc2 := 69) rfl rfl rfl (
      jr_g fun h21 => r_cne (pc2 := 72) (t := 76) rfl h21.1 h21.2 rfl (fun _ =>
      r_ic (x := 1) (pc2 := 73) rfl ic_1 rfl (
      r_goto (t := 77) rfl (
      r_istore (L2 := [some (.ref 44), some (gv c1), some (gv c2), some (gv 1), some (gv v4)]) (pc2 := 78) rfl rfl rfl (
      r_iinc (kk := 1) (L2 := [some (.ref 44), some (gv c1), some (gv c2), some (gv 1), some (gv (v4 + 1))]) (pc2 := 81) rfl ic_1 rfl rfl rfl (
      r_goto (t := 5) rfl (
      ih 1 (v4 + 1))))))) (fun _ =>
      r_ic (x := 0) (pc2 := 77) rfl ic_0 rfl (
      r_istore (L2 := [some (.ref 44), some (gv c1), some (gv c2), some (gv 0), some (gv v4)]) (pc2 := 78) rfl rfl rfl (
      r_iinc (kk := 1) (L2 := [some (.ref 44), some (gv c1), some (gv c2), some (gv 0), some (gv (v4 + 1))]) (pc2 := 81) rfl ic_1 rfl rfl rfl (
      r_goto (t := 5) rfl (
      ih 0 (v4 + 1)))))))))))) (fun _ =>
      r_ic (x := 0) (pc2 := 77) rfl ic_0 rfl (
      r_istore (L2 := [some (.ref 44), some (gv c1), some (gv c2), some (gv 0), some (gv v4)]) (pc2 := 78) rfl rfl rfl (
      r_iinc (kk := 1) (L2 := [some (.ref 44), some (gv c1), some (gv c2), some (gv 0), some (gv (v4 + 1))]) (pc2 := 81) rfl ic_1 rfl rfl rfl (
      r_goto (t := 5) rfl (
      ih 0 (v4 + 1))))))))))))))))))))))) (fun _ =>
      r_ic (x := 1) (pc2 := 73) rfl ic_1 rfl (
      r_goto (t := 77) rfl (
      r_istore (L2 := [some (.ref 44), some (gv c1), some (gv c2), some (gv 1), some (gv v4)]) (pc2 := 78) rfl rfl rfl (
      r_iinc (kk := 1) (L2 := [some (.ref 44), some (gv c1), some (gv c2), some (gv 1), some (gv (v4 + 1))]) (pc2 := 81) rfl ic_1 rfl rfl rfl (
      r_goto (t := 5) rfl (
      ih 1 (v4 + 1))))))))) (fun _ =>
      jr_leaf ⟨_, rfl, rfl⟩)))))
theorem rf_md_isTaken {s : gm_S} {n m : Nat} (hs : gm_sh s n m) (d : Nat)  (g : gm_T) (a1 : Int) (a2 : Int)  : jr (pI s g) (md_isTaken g a1 a2) (jm_cl jm_CD km_n (d + 1) 247 [.ref 44, gv a1, gv a2] (gm_h s g)) := by
  unfold md_isTaken
  exact (r_ent (cd := cd_247) (n := 5) (L0 := [some (.ref 44), some (gv a1), some (gv a2), none, none]) rfl rfl rfl rfl (
      r_ic (x := 0) (pc2 := 1) rfl ic_0 rfl (
      r_istore (L2 := [some (.ref 44), some (gv a1), some (gv a2), some (gv 0), none]) (pc2 := 2) rfl rfl rfl (
      r_ic (x := 0) (pc2 := 3) rfl ic_0 rfl (
      r_istore (L2 := [some (.ref 44), some (gv a1), some (gv a2), some (gv 0), some (gv 0)]) (pc2 := 5) rfl rfl rfl (
      r_b1 (rl_md_isTaken_l5 hs d  g a1 a2  fz 0 0  ) (fun v26 c h => match c, h with | _, ⟨j27, hj27, rfl⟩ => (
      r_iload (pc2 := 85) rfl rfl rfl (
      jr_g fun hz => r_zret rfl hz rfl)))))))))
theorem rl_md_overlapping_l13 {s : gm_S} {n m : Nat} (hs : gm_sh s n m) (d : Nat)  (c7 : Int) (c8 : Int) (c9 : Int)  : ∀ (fuel : Nat) (v10 : Int) (g11 : gm_T), jr (fun (x : (gm_T) ⊕ (Int × gm_T)) (c : Option jm_R) => match x with | .inl q => (∃ (j12 : Option Value), jm_lg j12 = false ∧ c = jm_sup cd_248 (jm_cl jm_CD km_n (d + 4)) (135, [some (.ref 44), some (gv c7), some (gv c8), some (gv c9), j12], [], gm_h s q)) | .inr r => eI s r c) (md_overlapping_l13  c7 c8 c9 fuel v10 g11) (jm_sup cd_248 (jm_cl jm_CD km_n (d + 4)) (13, [some (.ref 44), some (gv c7), some (gv c8), some (gv c9), some (gv v10)], [], gm_h s g11)) := by
  intro fuel
  induction fuel with
  | zero => intros; exact jr_none
  | succ fuel ih =>
    intro v10 g11  
    unfold md_overlapping_l13
    exact (
      r_iload (pc2 := 15) rfl rfl rfl (
      r_aload (pc2 := 16) rfl rfl rfl (
      r_getI (pc2 := 19) rfl rfl (sh_T hs rfl rfl) (
      jr_g fun h14 => r_cge (pc2 := 22) (t := 135) rfl h14.1 h14.2 rfl (fun _ =>
      r_aload (pc2 := 23) rfl rfl rfl (
      r_getA (pc2 := 26) rfl rfl (sh_T hs rfl rfl) (sh_A hs rfl rfl) (
      r_iload (pc2 := 27) rfl rfl rfl (
      jr_g fun h15 => r_iald (len := 30) (pc2 := 28) rfl rfl (sh_T hs rfl rfl) (sh_L hs rfl rfl) rfl h15 (
      r_aload (pc2 := 29) rfl rfl rfl (
      r_getA (pc2 := 32) rfl rfl (sh_T hs rfl rfl) (sh_A hs rfl rfl) (
      r_iload (pc2 := 33) rfl rfl rfl (
      jr_g fun h16 => r_iald (len := 30) (pc2 := 34) rfl rfl (sh_T hs rfl rfl) (sh_L hs rfl rfl) rfl h16 (
      jr_g fun h17 => r_cne (pc2 := 37) (t := 135) rfl h17.1 h17.2 rfl (fun _ =>
      r_aload (pc2 := 38) rfl rfl rfl (
      r_getA (pc2 := 41) rfl rfl (sh_T hs rfl rfl) (sh_A hs rfl rfl) (
      r_iload (pc2 := 43) rfl rfl rfl (
      jr_g fun h18 => r_iald (len := 30) (pc2 := 44) rfl rfl (sh_T hs rfl rfl) (sh_L hs rfl rfl) rfl h18 (
      r_aload (pc2 := 45) rfl rfl rfl (
      r_getA (pc2 := 48) rfl rfl (sh_T hs rfl rfl) (sh_A hs rfl rfl) (
      r_iload (pc2 := 49) rfl rfl rfl (
      jr_g fun h19 => r_iald (len := 30) (pc2 := 50) rfl rfl (sh_T hs rfl rfl) (sh_L hs rfl rfl) rfl h19 (
      jr_g fun h20 => r_cne (pc2 := 53) (t := 129) rfl h20.1 h20.2 rfl (fun _ =>
      r_aload (pc2 := 54) rfl rfl rfl (
      r_iload (pc2 := 55) rfl rfl rfl (
      r_iload (pc2 := 56) rfl rfl rfl (
      r_callVV (pc2 := 59) (args := [.ref 44, gv c9, gv c7]) (st2 := []) rfl rfl rfl rfl rfl rfl (rc_of (sh_T hs rfl rfl)) (rf_md_within hs d g11 c9 c7 ) fun g21 => (
      r_aload (pc2 := 60) rfl rfl rfl (
      r_aload (pc2 := 61) rfl rfl rfl (
      r_getI (pc2 := 64) rfl rfl (sh_T hs rfl rfl) (
      r_callVV (pc2 := 67) (args := [.ref 44, gv (gm_I g21 44 24)]) (st2 := []) rfl rfl rfl rfl rfl rfl (rc_of (sh_T hs rfl rfl)) (rf_md_thenJoin hs (d + 1) g21 (gm_I g21 44 24) ) fun g22 => (
      r_aload (pc2 := 68) rfl rfl rfl (
      r_iload (pc2 := 69) rfl rfl rfl (
      r_iload (pc2 := 71) rfl rfl rfl (
      r_callVV (pc2 := 74) (args := [.ref 44, gv c8, gv v10]) (st2 := []) rfl rfl rfl rfl rfl rfl (rc_of (sh_T hs rfl rfl)) (rf_md_thenWithin hs d g22 c8 v10 ) fun g23 => (
      r_aload (pc2 := 75) rfl rfl rfl (
      r_iload (pc2 := 76) rfl rfl rfl (
      r_iload (pc2 := 78) rfl rfl rfl (
      r_aload (pc2 := 79) rfl rfl rfl (
      r_getI (pc2 := 82) rfl rfl (sh_T hs rfl rfl) (
      r_aload (pc2 := 83) rfl rfl rfl (
      r_getI (pc2 := 86) rfl rfl (sh_T hs rfl rfl) (
      r_aload (pc2 := 87) rfl rfl rfl (
      r_getI (pc2 := 90) rfl rfl (sh_T hs rfl rfl) (
      r_callVP (pc2 := 93) (args := [.ref 44, gv c9, gv v10, gv (gm_I g23 44 49), gv (gm_I g23 44 50), gv (gm_I g23 44 51)]) (st2 := []) rfl rfl rfl rfl rfl rfl (rc_of (sh_T hs rfl rfl)) (rf_md_overlaps hs d g23 c9 v10 (gm_I g23 44 49) (gm_I g23 44 50) (gm_I g23 44 51) ) fun v24 => (
      r_aload (pc2 := 94) rfl rfl rfl (
      r_getI (pc2 := 97) rfl rfl (sh_T hs rfl rfl) (
      jr_g fun h25 => r_cle (pc2 := 100) (t := 129) rfl h25.1 h25.2 rfl (fun _ =>
      r_iinc (kk := 1) (L2 := [some (.ref 44), some (gv c7), some (gv c8), some (gv c9), some (gv (v10 + 1))]) (pc2 := 132) rfl ic_1 rfl rfl rfl (
      r_goto (t := 13) rfl (
      ih (v10 + 1) g23))) (fun _ =>
      r_aload (pc2 := 101) rfl rfl rfl (
      r_ic (x := 0) (pc2 := 102) rfl ic_0 rfl (
      r_putI (pc2 := 105) rfl rfl (sh_T hs rfl rfl) fun g27 => (
      r_aload (pc2 := 106) rfl rfl rfl (
      r_iload (pc2 := 107) rfl rfl rfl (
      r_iload (pc2 := 108) rfl rfl rfl (
      r_ic (x := 0) (pc2 := 109) rfl ic_0 rfl (
      r_callVV (pc2 := 112) (args := [.ref 44, gv c9, gv c7, gv 0]) (st2 := []) rfl rfl rfl rfl rfl rfl (rc_of (sh_T hs rfl rfl)) (rf_md_goes hs (d + 1) g27 c9 c7 0 ) fun g28 => (
      r_aload (pc2 := 113) rfl rfl rfl (
      r_iload (pc2 := 114) rfl rfl rfl (
      r_iload (pc2 := 116) rfl rfl rfl (
      r_ic (x := 0) (pc2 := 117) rfl ic_0 rfl (
      r_callVV (pc2 := 120) (args := [.ref 44, gv c8, gv v10, gv 0]) (st2 := []) rfl rfl rfl rfl rfl rfl (rc_of (sh_T hs rfl rfl)) (rf_md_goes hs (d + 1) g28 c8 v10 0 ) fun g29 => (
      r_aload (pc2 := 121) rfl rfl rfl (
      r_ic (x := 2) (pc2 := 122) rfl ic_2 rfl (
      r_iload (pc2 := 123) rfl rfl rfl (
      r_iload (pc2 := 125) rfl rfl rfl (
      r_callVI (pc2 := 128) (args := [.ref 44, gv 2, gv c9, gv v10]) (st2 := []) rfl rfl rfl rfl rfl rfl (rc_of (sh_T hs rfl rfl)) (rf_md_clashesBy hs (d + 3) g29 2 c9 v10 ) fun v30 g31 => (
      r_iret rfl rfl)))))))))))))))))))))))))))))))))))))))))))) (fun _ =>
      r_iinc (kk := 1) (L2 := [some (.ref 44), some (gv c7), some (gv c8), some (gv c9), some (gv (v10 + 1))]) (pc2 := 132) rfl ic_1 rfl rfl rfl (
      r_goto (t := 13) rfl (
      ih (v10 + 1) g11)))))))))))) (fun _ =>
      jr_leaf ⟨_, rfl, rfl⟩)))))))))) (fun _ =>
      jr_leaf ⟨_, rfl, rfl⟩)))))
theorem rl_md_overlapping_l2 {s : gm_S} {n m : Nat} (hs : gm_sh s n m) (d : Nat)  (c1 : Int) (c2 : Int)  : ∀ (fuel : Nat) (v3 : Int) (g5 : gm_T) (j4 : Option Value) (hj4 : jm_lg j4 = false), jr (eI s) (md_overlapping_l2  c1 c2 fuel v3 g5) (jm_sup cd_248 (jm_cl jm_CD km_n (d + 4)) (2, [some (.ref 44), some (gv c1), some (gv c2), some (gv v3), j4], [], gm_h s g5)) := by
  intro fuel
  induction fuel with
  | zero => intros; exact jr_none
  | succ fuel ih =>
    intro v3 g5 j4 hj4
    unfold md_overlapping_l2
    exact (
      r_iload (pc2 := 3) rfl rfl rfl (
      r_aload (pc2 := 4) rfl rfl rfl (
      r_getI (pc2 := 7) rfl rfl (sh_T hs rfl rfl) (
      jr_g fun h6 => r_cge (pc2 := 10) (t := 141) rfl h6.1 h6.2 rfl (fun _ =>
      r_ic (x := 0) (pc2 := 11) rfl ic_0 rfl (
      r_istore (L2 := [some (.ref 44), some (gv c1), some (gv c2), some (gv v3), some (gv 0)]) (pc2 := 13) rfl rfl rfl (
      r_c1 (rl_md_overlapping_l13 hs d   c1 c2 v3  fz 0 g5  ) (fun r c h => jr_leaf h) (fun g34 c h => match c, h with | _, ⟨j33, hj33, rfl⟩ => (
      r_iinc (kk := 1) (L2 := [some (.ref 44), some (gv c1), some (gv c2), some (gv (v3 + 1)), j33]) (pc2 := 138) rfl ic_1 rfl rfl rfl (
      r_goto (t := 2) rfl (
      ih (v3 + 1) g34 _ hj33))))))) (fun _ =>
      r_ic (x := 0) (pc2 := 142) rfl ic_0 rfl (
      r_iret rfl rfl))))))
theorem rf_md_overlapping {s : gm_S} {n m : Nat} (hs : gm_sh s n m) (d : Nat)  (g : gm_T) (a1 : Int) (a2 : Int)  : jr (eI s) (md_overlapping g a1 a2) (jm_cl jm_CD km_n (d + 5) 248 [.ref 44, gv a1, gv a2] (gm_h s g)) := by
  unfold md_overlapping
  exact (r_ent (cd := cd_248) (n := 5) (L0 := [some (.ref 44), some (gv a1), some (gv a2), none, none]) rfl rfl rfl rfl (
      r_ic (x := 0) (pc2 := 1) rfl ic_0 rfl (
      r_istore (L2 := [some (.ref 44), some (gv a1), some (gv a2), some (gv 0), none]) (pc2 := 2) rfl rfl rfl (
      rl_md_overlapping_l2 hs d   a1 a2  fz 0 g _ rfl))))
theorem rf_md_against {s : gm_S} {n m : Nat} (hs : gm_sh s n m) (d : Nat)  (g : gm_T) (a1 : Int) (a2 : Int)  : jr (eI s) (md_against g a1 a2) (jm_cl jm_CD km_n (d + 7) 249 [.ref 44, gv a1, gv a2] (gm_h s g)) := by
  unfold md_against
  exact (r_ent (cd := cd_249) (n := 5) (L0 := [some (.ref 44), some (gv a1), some (gv a2), none, none]) rfl rfl rfl rfl (
      r_aload (pc2 := 1) rfl rfl rfl (
      r_aload (pc2 := 2) rfl rfl rfl (
      r_getA (pc2 := 5) rfl rfl (sh_T hs rfl rfl) (sh_A hs rfl rfl) (
      r_iload (pc2 := 6) rfl rfl rfl (
      jr_g fun h1 => r_iald (len := 30) (pc2 := 7) rfl rfl (sh_T hs rfl rfl) (sh_L hs rfl rfl) rfl h1 (
      r_callVP (pc2 := 10) (args := [.ref 44, gv (gm_I g 78 a1.toNat)]) (st2 := []) rfl rfl rfl rfl rfl rfl (rc_of (sh_T hs rfl rfl)) (rf_md_holder hs (d + 5) g (gm_I g 78 a1.toNat) ) fun v2 => (
      r_istore (L2 := [some (.ref 44), some (gv a1), some (gv a2), some (gv v2), none]) (pc2 := 11) rfl rfl rfl (
      r_aload (pc2 := 12) rfl rfl rfl (
      r_aload (pc2 := 13) rfl rfl rfl (
      r_getA (pc2 := 16) rfl rfl (sh_T hs rfl rfl) (sh_A hs rfl rfl) (
      r_iload (pc2 := 17) rfl rfl rfl (
      jr_g fun h3 => r_iald (len := 30) (pc2 := 18) rfl rfl (sh_T hs rfl rfl) (sh_L hs rfl rfl) rfl h3 (
      r_callVP (pc2 := 21) (args := [.ref 44, gv (gm_I g 78 a2.toNat)]) (st2 := []) rfl rfl rfl rfl rfl rfl (rc_of (sh_T hs rfl rfl)) (rf_md_holder hs (d + 5) g (gm_I g 78 a2.toNat) ) fun v4 => (
      r_istore (L2 := [some (.ref 44), some (gv a1), some (gv a2), some (gv v2), some (gv v4)]) (pc2 := 23) rfl rfl rfl (
      r_iload (pc2 := 24) rfl rfl rfl (
      r_ic (x := -1) (pc2 := 25) rfl ic_m1 rfl (
      jr_g fun h5 => r_cne (pc2 := 28) (t := 36) rfl h5 (rgk rfl) rfl (fun _ =>
      r_iload (pc2 := 30) rfl rfl rfl (
      r_ic (x := -1) (pc2 := 31) rfl ic_m1 rfl (
      jr_g fun h6 => r_cne (pc2 := 34) (t := 36) rfl h6 (rgk rfl) rfl (fun _ =>
      r_ic (x := 0) (pc2 := 35) rfl ic_0 rfl (
      r_iret rfl rfl)) (fun _ =>
      r_aload (pc2 := 37) rfl rfl rfl (
      r_callVV (pc2 := 40) (args := [.ref 44]) (st2 := []) rfl rfl rfl rfl rfl rfl (rc_of (sh_T hs rfl rfl)) (rf_md_walls hs d g ) fun g7 => (
      r_iload (pc2 := 41) rfl rfl rfl (
      r_ic (x := -1) (pc2 := 42) rfl ic_m1 rfl (
      r_ceq (pc2 := 45) (t := 137) rfl h5 (rgk rfl) rfl (fun _ =>
      r_iload (pc2 := 138) rfl rfl rfl (
      r_ic (x := -1) (pc2 := 139) rfl ic_m1 rfl (
      r_ceq (pc2 := 142) (t := 206) rfl h5 (rgk rfl) rfl (fun _ =>
      r_aload (pc2 := 207) rfl rfl rfl (
      r_aload (pc2 := 208) rfl rfl rfl (
      r_getA (pc2 := 211) rfl rfl (sh_T hs rfl rfl) (sh_A hs rfl rfl) (
      r_iload (pc2 := 212) rfl rfl rfl (
      r_iald (len := 30) (pc2 := 213) rfl rfl (sh_T hs rfl rfl) (sh_L hs rfl rfl) rfl h3 (
      r_aload (pc2 := 214) rfl rfl rfl (
      r_getA (pc2 := 217) rfl rfl (sh_T hs rfl rfl) (sh_A hs rfl rfl) (
      r_iload (pc2 := 218) rfl rfl rfl (
      r_iald (len := 30) (pc2 := 219) rfl rfl (sh_T hs rfl rfl) (sh_L hs rfl rfl) rfl h3 (
      r_aload (pc2 := 220) rfl rfl rfl (
      r_getA (pc2 := 223) rfl rfl (sh_T hs rfl rfl) (sh_A hs rfl rfl) (
      r_iload (pc2 := 224) rfl rfl rfl (
      r_iald (len := 30) (pc2 := 225) rfl rfl (sh_T hs rfl rfl) (sh_L hs rfl rfl) rfl h3 (
      r_callVV (pc2 := 228) (args := [.ref 44, gv (gm_I g7 85 a2.toNat), gv (gm_I g7 86 a2.toNat), gv (gm_I g7 87 a2.toNat)]) (st2 := []) rfl rfl rfl rfl rfl rfl (rc_of (sh_T hs rfl rfl)) (rf_md_holds hs (d + 5) g7 (gm_I g7 85 a2.toNat) (gm_I g7 86 a2.toNat) (gm_I g7 87 a2.toNat) ) fun g8 => (
      r_aload (pc2 := 229) rfl rfl rfl (
      r_aload (pc2 := 230) rfl rfl rfl (
      r_getI (pc2 := 233) rfl rfl (sh_T hs rfl rfl) (
      r_callVV (pc2 := 236) (args := [.ref 44, gv (gm_I g8 44 24)]) (st2 := []) rfl rfl rfl rfl rfl rfl (rc_of (sh_T hs rfl rfl)) (rf_md_thenJoinBack hs (d + 2) g8 (gm_I g8 44 24) ) fun g9 => (
      r_aload (pc2 := 237) rfl rfl rfl (
      r_iload (pc2 := 238) rfl rfl rfl (
      r_aload (pc2 := 239) rfl rfl rfl (
      r_getI (pc2 := 242) rfl rfl (sh_T hs rfl rfl) (
      r_aload (pc2 := 243) rfl rfl rfl (
      r_getI (pc2 := 246) rfl rfl (sh_T hs rfl rfl) (
      r_aload (pc2 := 247) rfl rfl rfl (
      r_getI (pc2 := 250) rfl rfl (sh_T hs rfl rfl) (
      r_callVV (pc2 := 253) (args := [.ref 44, gv a1, gv (gm_I g9 44 49), gv (gm_I g9 44 50), gv (gm_I g9 44 51)]) (st2 := []) rfl rfl rfl rfl rfl rfl (rc_of (sh_T hs rfl rfl)) (rf_md_places hs (d + 1) g9 a1 (gm_I g9 44 49) (gm_I g9 44 50) (gm_I g9 44 51) ) fun g10 => (
      r_aload (pc2 := 254) rfl rfl rfl (
      r_aload (pc2 := 255) rfl rfl rfl (
      r_getA (pc2 := 258) rfl rfl (sh_T hs rfl rfl) (sh_A hs rfl rfl) (
      r_iload (pc2 := 259) rfl rfl rfl (
      r_iald (len := 30) (pc2 := 260) rfl rfl (sh_T hs rfl rfl) (sh_L hs rfl rfl) rfl h1 (
      r_aload (pc2 := 261) rfl rfl rfl (
      r_getA (pc2 := 264) rfl rfl (sh_T hs rfl rfl) (sh_A hs rfl rfl) (
      r_iload (pc2 := 265) rfl rfl rfl (
      r_iald (len := 30) (pc2 := 266) rfl rfl (sh_T hs rfl rfl) (sh_L hs rfl rfl) rfl h3 (
      r_callVI (pc2 := 269) (args := [.ref 44, gv (gm_I g10 78 a1.toNat), gv (gm_I g10 78 a2.toNat)]) (st2 := []) rfl rfl rfl rfl rfl rfl (rc_of (sh_T hs rfl rfl)) (rf_md_hits hs d g10 (gm_I g10 78 a1.toNat) (gm_I g10 78 a2.toNat) ) fun v11 g12 => (
      r_iret rfl rfl)))))))))))))))))))))))))))))))))))))) (fun _ =>
      r_aload (pc2 := 143) rfl rfl rfl (
      r_aload (pc2 := 144) rfl rfl rfl (
      r_getA (pc2 := 147) rfl rfl (sh_T hs rfl rfl) (sh_A hs rfl rfl) (
      r_iload (pc2 := 148) rfl rfl rfl (
      r_iald (len := 30) (pc2 := 149) rfl rfl (sh_T hs rfl rfl) (sh_L hs rfl rfl) rfl h1 (
      r_aload (pc2 := 150) rfl rfl rfl (
      r_getA (pc2 := 153) rfl rfl (sh_T hs rfl rfl) (sh_A hs rfl rfl) (
      r_iload (pc2 := 154) rfl rfl rfl (
      r_iald (len := 30) (pc2 := 155) rfl rfl (sh_T hs rfl rfl) (sh_L hs rfl rfl) rfl h1 (
      r_aload (pc2 := 156) rfl rfl rfl (
      r_getA (pc2 := 159) rfl rfl (sh_T hs rfl rfl) (sh_A hs rfl rfl) (
      r_iload (pc2 := 160) rfl rfl rfl (
      r_iald (len := 30) (pc2 := 161) rfl rfl (sh_T hs rfl rfl) (sh_L hs rfl rfl) rfl h1 (
      r_callVV (pc2 := 164) (args := [.ref 44, gv (gm_I g7 85 a1.toNat), gv (gm_I g7 86 a1.toNat), gv (gm_I g7 87 a1.toNat)]) (st2 := []) rfl rfl rfl rfl rfl rfl (rc_of (sh_T hs rfl rfl)) (rf_md_holds hs (d + 5) g7 (gm_I g7 85 a1.toNat) (gm_I g7 86 a1.toNat) (gm_I g7 87 a1.toNat) ) fun g13 => (
      r_aload (pc2 := 165) rfl rfl rfl (
      r_aload (pc2 := 166) rfl rfl rfl (
      r_getI (pc2 := 169) rfl rfl (sh_T hs rfl rfl) (
      r_callVV (pc2 := 172) (args := [.ref 44, gv (gm_I g13 44 24)]) (st2 := []) rfl rfl rfl rfl rfl rfl (rc_of (sh_T hs rfl rfl)) (rf_md_thenJoin hs (d + 3) g13 (gm_I g13 44 24) ) fun g14 => (
      r_aload (pc2 := 173) rfl rfl rfl (
      r_iload (pc2 := 174) rfl rfl rfl (
      r_aload (pc2 := 175) rfl rfl rfl (
      r_getI (pc2 := 178) rfl rfl (sh_T hs rfl rfl) (
      r_aload (pc2 := 179) rfl rfl rfl (
      r_getI (pc2 := 182) rfl rfl (sh_T hs rfl rfl) (
      r_aload (pc2 := 183) rfl rfl rfl (
      r_getI (pc2 := 186) rfl rfl (sh_T hs rfl rfl) (
      r_callVV (pc2 := 189) (args := [.ref 44, gv a2, gv (gm_I g14 44 49), gv (gm_I g14 44 50), gv (gm_I g14 44 51)]) (st2 := []) rfl rfl rfl rfl rfl rfl (rc_of (sh_T hs rfl rfl)) (rf_md_places hs (d + 1) g14 a2 (gm_I g14 44 49) (gm_I g14 44 50) (gm_I g14 44 51) ) fun g15 => (
      r_aload (pc2 := 190) rfl rfl rfl (
      r_aload (pc2 := 191) rfl rfl rfl (
      r_getA (pc2 := 194) rfl rfl (sh_T hs rfl rfl) (sh_A hs rfl rfl) (
      r_iload (pc2 := 195) rfl rfl rfl (
      r_iald (len := 30) (pc2 := 196) rfl rfl (sh_T hs rfl rfl) (sh_L hs rfl rfl) rfl h3 (
      r_aload (pc2 := 197) rfl rfl rfl (
      r_getA (pc2 := 200) rfl rfl (sh_T hs rfl rfl) (sh_A hs rfl rfl) (
      r_iload (pc2 := 201) rfl rfl rfl (
      r_iald (len := 30) (pc2 := 202) rfl rfl (sh_T hs rfl rfl) (sh_L hs rfl rfl) rfl h1 (
      r_callVI (pc2 := 205) (args := [.ref 44, gv (gm_I g15 78 a2.toNat), gv (gm_I g15 78 a1.toNat)]) (st2 := []) rfl rfl rfl rfl rfl rfl (rc_of (sh_T hs rfl rfl)) (rf_md_hits hs d g15 (gm_I g15 78 a2.toNat) (gm_I g15 78 a1.toNat) ) fun v16 g17 => (
      r_iret rfl rfl))))))))))))))))))))))))))))))))))))))))) (fun _ =>
      r_iload (pc2 := 47) rfl rfl rfl (
      r_ic (x := -1) (pc2 := 48) rfl ic_m1 rfl (
      r_ceq (pc2 := 51) (t := 137) rfl h6 (rgk rfl) rfl (fun _ =>
      r_iload (pc2 := 138) rfl rfl rfl (
      r_ic (x := -1) (pc2 := 139) rfl ic_m1 rfl (
      r_ceq (pc2 := 142) (t := 206) rfl h5 (rgk rfl) rfl (fun _ =>
      r_aload (pc2 := 207) rfl rfl rfl (
      r_aload (pc2 := 208) rfl rfl rfl (
      r_getA (pc2 := 211) rfl rfl (sh_T hs rfl rfl) (sh_A hs rfl rfl) (
      r_iload (pc2 := 212) rfl rfl rfl (
      r_iald (len := 30) (pc2 := 213) rfl rfl (sh_T hs rfl rfl) (sh_L hs rfl rfl) rfl h3 (
      r_aload (pc2 := 214) rfl rfl rfl (
      r_getA (pc2 := 217) rfl rfl (sh_T hs rfl rfl) (sh_A hs rfl rfl) (
      r_iload (pc2 := 218) rfl rfl rfl (
      r_iald (len := 30) (pc2 := 219) rfl rfl (sh_T hs rfl rfl) (sh_L hs rfl rfl) rfl h3 (
      r_aload (pc2 := 220) rfl rfl rfl (
      r_getA (pc2 := 223) rfl rfl (sh_T hs rfl rfl) (sh_A hs rfl rfl) (
      r_iload (pc2 := 224) rfl rfl rfl (
      r_iald (len := 30) (pc2 := 225) rfl rfl (sh_T hs rfl rfl) (sh_L hs rfl rfl) rfl h3 (
      r_callVV (pc2 := 228) (args := [.ref 44, gv (gm_I g7 85 a2.toNat), gv (gm_I g7 86 a2.toNat), gv (gm_I g7 87 a2.toNat)]) (st2 := []) rfl rfl rfl rfl rfl rfl (rc_of (sh_T hs rfl rfl)) (rf_md_holds hs (d + 5) g7 (gm_I g7 85 a2.toNat) (gm_I g7 86 a2.toNat) (gm_I g7 87 a2.toNat) ) fun g18 => (
      r_aload (pc2 := 229) rfl rfl rfl (
      r_aload (pc2 := 230) rfl rfl rfl (
      r_getI (pc2 := 233) rfl rfl (sh_T hs rfl rfl) (
      r_callVV (pc2 := 236) (args := [.ref 44, gv (gm_I g18 44 24)]) (st2 := []) rfl rfl rfl rfl rfl rfl (rc_of (sh_T hs rfl rfl)) (rf_md_thenJoinBack hs (d + 2) g18 (gm_I g18 44 24) ) fun g19 => (
      r_aload (pc2 := 237) rfl rfl rfl (
      r_iload (pc2 := 238) rfl rfl rfl (
      r_aload (pc2 := 239) rfl rfl rfl (
      r_getI (pc2 := 242) rfl rfl (sh_T hs rfl rfl) (
      r_aload (pc2 := 243) rfl rfl rfl (
      r_getI (pc2 := 246) rfl rfl (sh_T hs rfl rfl) (
      r_aload (pc2 := 247) rfl rfl rfl (
      r_getI (pc2 := 250) rfl rfl (sh_T hs rfl rfl) (
      r_callVV (pc2 := 253) (args := [.ref 44, gv a1, gv (gm_I g19 44 49), gv (gm_I g19 44 50), gv (gm_I g19 44 51)]) (st2 := []) rfl rfl rfl rfl rfl rfl (rc_of (sh_T hs rfl rfl)) (rf_md_places hs (d + 1) g19 a1 (gm_I g19 44 49) (gm_I g19 44 50) (gm_I g19 44 51) ) fun g20 => (
      r_aload (pc2 := 254) rfl rfl rfl (
      r_aload (pc2 := 255) rfl rfl rfl (
      r_getA (pc2 := 258) rfl rfl (sh_T hs rfl rfl) (sh_A hs rfl rfl) (
      r_iload (pc2 := 259) rfl rfl rfl (
      r_iald (len := 30) (pc2 := 260) rfl rfl (sh_T hs rfl rfl) (sh_L hs rfl rfl) rfl h1 (
      r_aload (pc2 := 261) rfl rfl rfl (
      r_getA (pc2 := 264) rfl rfl (sh_T hs rfl rfl) (sh_A hs rfl rfl) (
      r_iload (pc2 := 265) rfl rfl rfl (
      r_iald (len := 30) (pc2 := 266) rfl rfl (sh_T hs rfl rfl) (sh_L hs rfl rfl) rfl h3 (
      r_callVI (pc2 := 269) (args := [.ref 44, gv (gm_I g20 78 a1.toNat), gv (gm_I g20 78 a2.toNat)]) (st2 := []) rfl rfl rfl rfl rfl rfl (rc_of (sh_T hs rfl rfl)) (rf_md_hits hs d g20 (gm_I g20 78 a1.toNat) (gm_I g20 78 a2.toNat) ) fun v21 g22 => (
      r_iret rfl rfl)))))))))))))))))))))))))))))))))))))) (fun _ =>
      r_aload (pc2 := 143) rfl rfl rfl (
      r_aload (pc2 := 144) rfl rfl rfl (
      r_getA (pc2 := 147) rfl rfl (sh_T hs rfl rfl) (sh_A hs rfl rfl) (
      r_iload (pc2 := 148) rfl rfl rfl (
      r_iald (len := 30) (pc2 := 149) rfl rfl (sh_T hs rfl rfl) (sh_L hs rfl rfl) rfl h1 (
      r_aload (pc2 := 150) rfl rfl rfl (
      r_getA (pc2 := 153) rfl rfl (sh_T hs rfl rfl) (sh_A hs rfl rfl) (
      r_iload (pc2 := 154) rfl rfl rfl (
      r_iald (len := 30) (pc2 := 155) rfl rfl (sh_T hs rfl rfl) (sh_L hs rfl rfl) rfl h1 (
      r_aload (pc2 := 156) rfl rfl rfl (
      r_getA (pc2 := 159) rfl rfl (sh_T hs rfl rfl) (sh_A hs rfl rfl) (
      r_iload (pc2 := 160) rfl rfl rfl (
      r_iald (len := 30) (pc2 := 161) rfl rfl (sh_T hs rfl rfl) (sh_L hs rfl rfl) rfl h1 (
      r_callVV (pc2 := 164) (args := [.ref 44, gv (gm_I g7 85 a1.toNat), gv (gm_I g7 86 a1.toNat), gv (gm_I g7 87 a1.toNat)]) (st2 := []) rfl rfl rfl rfl rfl rfl (rc_of (sh_T hs rfl rfl)) (rf_md_holds hs (d + 5) g7 (gm_I g7 85 a1.toNat) (gm_I g7 86 a1.toNat) (gm_I g7 87 a1.toNat) ) fun g23 => (
      r_aload (pc2 := 165) rfl rfl rfl (
      r_aload (pc2 := 166) rfl rfl rfl (
      r_getI (pc2 := 169) rfl rfl (sh_T hs rfl rfl) (
      r_callVV (pc2 := 172) (args := [.ref 44, gv (gm_I g23 44 24)]) (st2 := []) rfl rfl rfl rfl rfl rfl (rc_of (sh_T hs rfl rfl)) (rf_md_thenJoin hs (d + 3) g23 (gm_I g23 44 24) ) fun g24 => (
      r_aload (pc2 := 173) rfl rfl rfl (
      r_iload (pc2 := 174) rfl rfl rfl (
      r_aload (pc2 := 175) rfl rfl rfl (
      r_getI (pc2 := 178) rfl rfl (sh_T hs rfl rfl) (
      r_aload (pc2 := 179) rfl rfl rfl (
      r_getI (pc2 := 182) rfl rfl (sh_T hs rfl rfl) (
      r_aload (pc2 := 183) rfl rfl rfl (
      r_getI (pc2 := 186) rfl rfl (sh_T hs rfl rfl) (
      r_callVV (pc2 := 189) (args := [.ref 44, gv a2, gv (gm_I g24 44 49), gv (gm_I g24 44 50), gv (gm_I g24 44 51)]) (st2 := []) rfl rfl rfl rfl rfl rfl (rc_of (sh_T hs rfl rfl)) (rf_md_places hs (d + 1) g24 a2 (gm_I g24 44 49) (gm_I g24 44 50) (gm_I g24 44 51) ) fun g25 => (
      r_aload (pc2 := 190) rfl rfl rfl (
      r_aload (pc2 := 191) rfl rfl rfl (
      r_getA (pc2 := 194) rfl rfl (sh_T hs rfl rfl) (sh_A hs rfl rfl) (
      r_iload (pc2 := 195) rfl rfl rfl (
      r_iald (len := 30) (pc2 := 196) rfl rfl (sh_T hs rfl rfl) (sh_L hs rfl rfl) rfl h3 (
      r_aload (pc2 := 197) rfl rfl rfl (
      r_getA (pc2 := 200) rfl rfl (sh_T hs rfl rfl) (sh_A hs rfl rfl) (
      r_iload (pc2 := 201) rfl rfl rfl (
      r_iald (len := 30) (pc2 := 202) rfl rfl (sh_T hs rfl rfl) (sh_L hs rfl rfl) rfl h1 (
      r_callVI (pc2 := 205) (args := [.ref 44, gv (gm_I g25 78 a2.toNat), gv (gm_I g25 78 a1.toNat)]) (st2 := []) rfl rfl rfl rfl rfl rfl (rc_of (sh_T hs rfl rfl)) (rf_md_hits hs d g25 (gm_I g25 78 a2.toNat) (gm_I g25 78 a1.toNat) ) fun v26 g27 => (
      r_iret rfl rfl))))))))))))))))))))))))))))))))))))))))) (fun _ =>
      r_aload (pc2 := 52) rfl rfl rfl (
      r_aload (pc2 := 53) rfl rfl rfl (
      r_getA (pc2 := 56) rfl rfl (sh_T hs rfl rfl) (sh_A hs rfl rfl) (
      r_iload (pc2 := 57) rfl rfl rfl (
      r_iald (len := 30) (pc2 := 58) rfl rfl (sh_T hs rfl rfl) (sh_L hs rfl rfl) rfl h1 (
      r_aload (pc2 := 59) rfl rfl rfl (
      r_getA (pc2 := 62) rfl rfl (sh_T hs rfl rfl) (sh_A hs rfl rfl) (
      r_iload (pc2 := 63) rfl rfl rfl (
      r_iald (len := 30) (pc2 := 64) rfl rfl (sh_T hs rfl rfl) (sh_L hs rfl rfl) rfl h1 (
      r_aload (pc2 := 65) rfl rfl rfl (
      r_getA (pc2 := 68) rfl rfl (sh_T hs rfl rfl) (sh_A hs rfl rfl) (
      r_iload (pc2 := 69) rfl rfl rfl (
      r_iald (len := 30) (pc2 := 70) rfl rfl (sh_T hs rfl rfl) (sh_L hs rfl rfl) rfl h1 (
      r_callVV (pc2 := 73) (args := [.ref 44, gv (gm_I g7 85 a1.toNat), gv (gm_I g7 86 a1.toNat), gv (gm_I g7 87 a1.toNat)]) (st2 := []) rfl rfl rfl rfl rfl rfl (rc_of (sh_T hs rfl rfl)) (rf_md_holds hs (d + 5) g7 (gm_I g7 85 a1.toNat) (gm_I g7 86 a1.toNat) (gm_I g7 87 a1.toNat) ) fun g28 => (
      r_aload (pc2 := 74) rfl rfl rfl (
      r_aload (pc2 := 75) rfl rfl rfl (
      r_getI (pc2 := 78) rfl rfl (sh_T hs rfl rfl) (
      r_callVV (pc2 := 81) (args := [.ref 44, gv (gm_I g28 44 24)]) (st2 := []) rfl rfl rfl rfl rfl rfl (rc_of (sh_T hs rfl rfl)) (rf_md_thenJoin hs (d + 3) g28 (gm_I g28 44 24) ) fun g29 => (
      r_aload (pc2 := 82) rfl rfl rfl (
      r_aload (pc2 := 83) rfl rfl rfl (
      r_getA (pc2 := 86) rfl rfl (sh_T hs rfl rfl) (sh_A hs rfl rfl) (
      r_iload (pc2 := 87) rfl rfl rfl (
      r_iald (len := 30) (pc2 := 88) rfl rfl (sh_T hs rfl rfl) (sh_L hs rfl rfl) rfl h3 (
      r_aload (pc2 := 89) rfl rfl rfl (
      r_getA (pc2 := 92) rfl rfl (sh_T hs rfl rfl) (sh_A hs rfl rfl) (
      r_iload (pc2 := 93) rfl rfl rfl (
      r_iald (len := 30) (pc2 := 94) rfl rfl (sh_T hs rfl rfl) (sh_L hs rfl rfl) rfl h3 (
      r_aload (pc2 := 95) rfl rfl rfl (
      r_getA (pc2 := 98) rfl rfl (sh_T hs rfl rfl) (sh_A hs rfl rfl) (
      r_iload (pc2 := 99) rfl rfl rfl (
      r_iald (len := 30) (pc2 := 100) rfl rfl (sh_T hs rfl rfl) (sh_L hs rfl rfl) rfl h3 (
      r_callVP (pc2 := 103) (args := [.ref 44, gv (gm_I g29 85 a2.toNat), gv (gm_I g29 86 a2.toNat), gv (gm_I g29 87 a2.toNat)]) (st2 := []) rfl rfl rfl rfl rfl rfl (rc_of (sh_T hs rfl rfl)) (rf_md_isHeld hs (d + 5) g29 (gm_I g29 85 a2.toNat) (gm_I g29 86 a2.toNat) (gm_I g29 87 a2.toNat) ) fun v30 => (
      jr_g fun h31 => r_ifeq (pc2 := 106) (t := 108) rfl h31 rfl (fun _ =>
      r_aload (pc2 := 109) rfl rfl rfl (
      r_ic (x := 0) (pc2 := 110) rfl ic_0 rfl (
      r_putI (pc2 := 113) rfl rfl (sh_T hs rfl rfl) fun g32 => (
      r_aload (pc2 := 114) rfl rfl rfl (
      r_iload (pc2 := 115) rfl rfl rfl (
      r_iload (pc2 := 116) rfl rfl rfl (
      r_ic (x := 0) (pc2 := 117) rfl ic_0 rfl (
      r_callVV (pc2 := 120) (args := [.ref 44, gv v2, gv a1, gv 0]) (st2 := []) rfl rfl rfl rfl rfl rfl (rc_of (sh_T hs rfl rfl)) (rf_md_goes hs (d + 3) g32 v2 a1 0 ) fun g33 => (
      r_aload (pc2 := 121) rfl rfl rfl (
      r_iload (pc2 := 122) rfl rfl rfl (
      r_iload (pc2 := 124) rfl rfl rfl (
      r_ic (x := 0) (pc2 := 125) rfl ic_0 rfl (
      r_callVV (pc2 := 128) (args := [.ref 44, gv a2, gv v4, gv 0]) (st2 := []) rfl rfl rfl rfl rfl rfl (rc_of (sh_T hs rfl rfl)) (rf_md_goes hs (d + 3) g33 a2 v4 0 ) fun g34 => (
      r_aload (pc2 := 129) rfl rfl rfl (
      r_ic (x := 3) (pc2 := 130) rfl ic_3 rfl (
      r_iload (pc2 := 131) rfl rfl rfl (
      r_iload (pc2 := 133) rfl rfl rfl (
      r_callVI (pc2 := 136) (args := [.ref 44, gv 3, gv v2, gv v4]) (st2 := []) rfl rfl rfl rfl rfl rfl (rc_of (sh_T hs rfl rfl)) (rf_md_clashesBy hs (d + 5) g34 3 v2 v4 ) fun v35 g36 => (
      r_iret rfl rfl))))))))))))))))))) (fun _ =>
      r_ic (x := 0) (pc2 := 107) rfl ic_0 rfl (
      r_iret rfl rfl)))))))))))))))))))))))))))))))))))))))))))))) (fun _ =>
      r_aload (pc2 := 37) rfl rfl rfl (
      r_callVV (pc2 := 40) (args := [.ref 44]) (st2 := []) rfl rfl rfl rfl rfl rfl (rc_of (sh_T hs rfl rfl)) (rf_md_walls hs d g ) fun g37 => (
      r_iload (pc2 := 41) rfl rfl rfl (
      r_ic (x := -1) (pc2 := 42) rfl ic_m1 rfl (
      r_ceq (pc2 := 45) (t := 137) rfl h5 (rgk rfl) rfl (fun _ =>
      r_iload (pc2 := 138) rfl rfl rfl (
      r_ic (x := -1) (pc2 := 139) rfl ic_m1 rfl (
      r_ceq (pc2 := 142) (t := 206) rfl h5 (rgk rfl) rfl (fun _ =>
      r_aload (pc2 := 207) rfl rfl rfl (
      r_aload (pc2 := 208) rfl rfl rfl (
      r_getA (pc2 := 211) rfl rfl (sh_T hs rfl rfl) (sh_A hs rfl rfl) (
      r_iload (pc2 := 212) rfl rfl rfl (
      r_iald (len := 30) (pc2 := 213) rfl rfl (sh_T hs rfl rfl) (sh_L hs rfl rfl) rfl h3 (
      r_aload (pc2 := 214) rfl rfl rfl (
      r_getA (pc2 := 217) rfl rfl (sh_T hs rfl rfl) (sh_A hs rfl rfl) (
      r_iload (pc2 := 218) rfl rfl rfl (
      r_iald (len := 30) (pc2 := 219) rfl rfl (sh_T hs rfl rfl) (sh_L hs rfl rfl) rfl h3 (
      r_aload (pc2 := 220) rfl rfl rfl (
      r_getA (pc2 := 223) rfl rfl (sh_T hs rfl rfl) (sh_A hs rfl rfl) (
      r_iload (pc2 := 224) rfl rfl rfl (
      r_iald (len := 30) (pc2 := 225) rfl rfl (sh_T hs rfl rfl) (sh_L hs rfl rfl) rfl h3 (
      r_callVV (pc2 := 228) (args := [.ref 44, gv (gm_I g37 85 a2.toNat), gv (gm_I g37 86 a2.toNat), gv (gm_I g37 87 a2.toNat)]) (st2 := []) rfl rfl rfl rfl rfl rfl (rc_of (sh_T hs rfl rfl)) (rf_md_holds hs (d + 5) g37 (gm_I g37 85 a2.toNat) (gm_I g37 86 a2.toNat) (gm_I g37 87 a2.toNat) ) fun g38 => (
      r_aload (pc2 := 229) rfl rfl rfl (
      r_aload (pc2 := 230) rfl rfl rfl (
      r_getI (pc2 := 233) rfl rfl (sh_T hs rfl rfl) (
      r_callVV (pc2 := 236) (args := [.ref 44, gv (gm_I g38 44 24)]) (st2 := []) rfl rfl rfl rfl rfl rfl (rc_of (sh_T hs rfl rfl)) (rf_md_thenJoinBack hs (d + 2) g38 (gm_I g38 44 24) ) fun g39 => (
      r_aload (pc2 := 237) rfl rfl rfl (
      r_iload (pc2 := 238) rfl rfl rfl (
      r_aload (pc2 := 239) rfl rfl rfl (
      r_getI (pc2 := 242) rfl rfl (sh_T hs rfl rfl) (
      r_aload (pc2 := 243) rfl rfl rfl (
      r_getI (pc2 := 246) rfl rfl (sh_T hs rfl rfl) (
      r_aload (pc2 := 247) rfl rfl rfl (
      r_getI (pc2 := 250) rfl rfl (sh_T hs rfl rfl) (
      r_callVV (pc2 := 253) (args := [.ref 44, gv a1, gv (gm_I g39 44 49), gv (gm_I g39 44 50), gv (gm_I g39 44 51)]) (st2 := []) rfl rfl rfl rfl rfl rfl (rc_of (sh_T hs rfl rfl)) (rf_md_places hs (d + 1) g39 a1 (gm_I g39 44 49) (gm_I g39 44 50) (gm_I g39 44 51) ) fun g40 => (
      r_aload (pc2 := 254) rfl rfl rfl (
      r_aload (pc2 := 255) rfl rfl rfl (
      r_getA (pc2 := 258) rfl rfl (sh_T hs rfl rfl) (sh_A hs rfl rfl) (
      r_iload (pc2 := 259) rfl rfl rfl (
      r_iald (len := 30) (pc2 := 260) rfl rfl (sh_T hs rfl rfl) (sh_L hs rfl rfl) rfl h1 (
      r_aload (pc2 := 261) rfl rfl rfl (
      r_getA (pc2 := 264) rfl rfl (sh_T hs rfl rfl) (sh_A hs rfl rfl) (
      r_iload (pc2 := 265) rfl rfl rfl (
      r_iald (len := 30) (pc2 := 266) rfl rfl (sh_T hs rfl rfl) (sh_L hs rfl rfl) rfl h3 (
      r_callVI (pc2 := 269) (args := [.ref 44, gv (gm_I g40 78 a1.toNat), gv (gm_I g40 78 a2.toNat)]) (st2 := []) rfl rfl rfl rfl rfl rfl (rc_of (sh_T hs rfl rfl)) (rf_md_hits hs d g40 (gm_I g40 78 a1.toNat) (gm_I g40 78 a2.toNat) ) fun v41 g42 => (
      r_iret rfl rfl)))))))))))))))))))))))))))))))))))))) (fun _ =>
      r_aload (pc2 := 143) rfl rfl rfl (
      r_aload (pc2 := 144) rfl rfl rfl (
      r_getA (pc2 := 147) rfl rfl (sh_T hs rfl rfl) (sh_A hs rfl rfl) (
      r_iload (pc2 := 148) rfl rfl rfl (
      r_iald (len := 30) (pc2 := 149) rfl rfl (sh_T hs rfl rfl) (sh_L hs rfl rfl) rfl h1 (
      r_aload (pc2 := 150) rfl rfl rfl (
      r_getA (pc2 := 153) rfl rfl (sh_T hs rfl rfl) (sh_A hs rfl rfl) (
      r_iload (pc2 := 154) rfl rfl rfl (
      r_iald (len := 30) (pc2 := 155) rfl rfl (sh_T hs rfl rfl) (sh_L hs rfl rfl) rfl h1 (
      r_aload (pc2 := 156) rfl rfl rfl (
      r_getA (pc2 := 159) rfl rfl (sh_T hs rfl rfl) (sh_A hs rfl rfl) (
      r_iload (pc2 := 160) rfl rfl rfl (
      r_iald (len := 30) (pc2 := 161) rfl rfl (sh_T hs rfl rfl) (sh_L hs rfl rfl) rfl h1 (
      r_callVV (pc2 := 164) (args := [.ref 44, gv (gm_I g37 85 a1.toNat), gv (gm_I g37 86 a1.toNat), gv (gm_I g37 87 a1.toNat)]) (st2 := []) rfl rfl rfl rfl rfl rfl (rc_of (sh_T hs rfl rfl)) (rf_md_holds hs (d + 5) g37 (gm_I g37 85 a1.toNat) (gm_I g37 86 a1.toNat) (gm_I g37 87 a1.toNat) ) fun g43 => (
      r_aload (pc2 := 165) rfl rfl rfl (
      r_aload (pc2 := 166) rfl rfl rfl (
      r_getI (pc2 := 169) rfl rfl (sh_T hs rfl rfl) (
      r_callVV (pc2 := 172) (args := [.ref 44, gv (gm_I g43 44 24)]) (st2 := []) rfl rfl rfl rfl rfl rfl (rc_of (sh_T hs rfl rfl)) (rf_md_thenJoin hs (d + 3) g43 (gm_I g43 44 24) ) fun g44 => (
      r_aload (pc2 := 173) rfl rfl rfl (
      r_iload (pc2 := 174) rfl rfl rfl (
      r_aload (pc2 := 175) rfl rfl rfl (
      r_getI (pc2 := 178) rfl rfl (sh_T hs rfl rfl) (
      r_aload (pc2 := 179) rfl rfl rfl (
      r_getI (pc2 := 182) rfl rfl (sh_T hs rfl rfl) (
      r_aload (pc2 := 183) rfl rfl rfl (
      r_getI (pc2 := 186) rfl rfl (sh_T hs rfl rfl) (
      r_callVV (pc2 := 189) (args := [.ref 44, gv a2, gv (gm_I g44 44 49), gv (gm_I g44 44 50), gv (gm_I g44 44 51)]) (st2 := []) rfl rfl rfl rfl rfl rfl (rc_of (sh_T hs rfl rfl)) (rf_md_places hs (d + 1) g44 a2 (gm_I g44 44 49) (gm_I g44 44 50) (gm_I g44 44 51) ) fun g45 => (
      r_aload (pc2 := 190) rfl rfl rfl (
      r_aload (pc2 := 191) rfl rfl rfl (
      r_getA (pc2 := 194) rfl rfl (sh_T hs rfl rfl) (sh_A hs rfl rfl) (
      r_iload (pc2 := 195) rfl rfl rfl (
      r_iald (len := 30) (pc2 := 196) rfl rfl (sh_T hs rfl rfl) (sh_L hs rfl rfl) rfl h3 (
      r_aload (pc2 := 197) rfl rfl rfl (
      r_getA (pc2 := 200) rfl rfl (sh_T hs rfl rfl) (sh_A hs rfl rfl) (
      r_iload (pc2 := 201) rfl rfl rfl (
      r_iald (len := 30) (pc2 := 202) rfl rfl (sh_T hs rfl rfl) (sh_L hs rfl rfl) rfl h1 (
      r_callVI (pc2 := 205) (args := [.ref 44, gv (gm_I g45 78 a2.toNat), gv (gm_I g45 78 a1.toNat)]) (st2 := []) rfl rfl rfl rfl rfl rfl (rc_of (sh_T hs rfl rfl)) (rf_md_hits hs d g45 (gm_I g45 78 a2.toNat) (gm_I g45 78 a1.toNat) ) fun v46 g47 => (
      r_iret rfl rfl))))))))))))))))))))))))))))))))))))))))) (fun _ =>
      r_iload (pc2 := 47) rfl rfl rfl (
      r_ic (x := -1) (pc2 := 48) rfl ic_m1 rfl (
      jr_g fun h48 => r_ceq (pc2 := 51) (t := 137) rfl h48 (rgk rfl) rfl (fun _ =>
      r_iload (pc2 := 138) rfl rfl rfl (
      r_ic (x := -1) (pc2 := 139) rfl ic_m1 rfl (
      r_ceq (pc2 := 142) (t := 206) rfl h5 (rgk rfl) rfl (fun _ =>
      r_aload (pc2 := 207) rfl rfl rfl (
      r_aload (pc2 := 208) rfl rfl rfl (
      r_getA (pc2 := 211) rfl rfl (sh_T hs rfl rfl) (sh_A hs rfl rfl) (
      r_iload (pc2 := 212) rfl rfl rfl (
      r_iald (len := 30) (pc2 := 213) rfl rfl (sh_T hs rfl rfl) (sh_L hs rfl rfl) rfl h3 (
      r_aload (pc2 := 214) rfl rfl rfl (
      r_getA (pc2 := 217) rfl rfl (sh_T hs rfl rfl) (sh_A hs rfl rfl) (
      r_iload (pc2 := 218) rfl rfl rfl (
      r_iald (len := 30) (pc2 := 219) rfl rfl (sh_T hs rfl rfl) (sh_L hs rfl rfl) rfl h3 (
      r_aload (pc2 := 220) rfl rfl rfl (
      r_getA (pc2 := 223) rfl rfl (sh_T hs rfl rfl) (sh_A hs rfl rfl) (
      r_iload (pc2 := 224) rfl rfl rfl (
      r_iald (len := 30) (pc2 := 225) rfl rfl (sh_T hs rfl rfl) (sh_L hs rfl rfl) rfl h3 (
      r_callVV (pc2 := 228) (args := [.ref 44, gv (gm_I g37 85 a2.toNat), gv (gm_I g37 86 a2.toNat), gv (gm_I g37 87 a2.toNat)]) (st2 := []) rfl rfl rfl rfl rfl rfl (rc_of (sh_T hs rfl rfl)) (rf_md_holds hs (d + 5) g37 (gm_I g37 85 a2.toNat) (gm_I g37 86 a2.toNat) (gm_I g37 87 a2.toNat) ) fun g49 => (
      r_aload (pc2 := 229) rfl rfl rfl (
      r_aload (pc2 := 230) rfl rfl rfl (
      r_getI (pc2 := 233) rfl rfl (sh_T hs rfl rfl) (
      r_callVV (pc2 := 236) (args := [.ref 44, gv (gm_I g49 44 24)]) (st2 := []) rfl rfl rfl rfl rfl rfl (rc_of (sh_T hs rfl rfl)) (rf_md_thenJoinBack hs (d + 2) g49 (gm_I g49 44 24) ) fun g50 => (
      r_aload (pc2 := 237) rfl rfl rfl (
      r_iload (pc2 := 238) rfl rfl rfl (
      r_aload (pc2 := 239) rfl rfl rfl (
      r_getI (pc2 := 242) rfl rfl (sh_T hs rfl rfl) (
      r_aload (pc2 := 243) rfl rfl rfl (
      r_getI (pc2 := 246) rfl rfl (sh_T hs rfl rfl) (
      r_aload (pc2 := 247) rfl rfl rfl (
      r_getI (pc2 := 250) rfl rfl (sh_T hs rfl rfl) (
      r_callVV (pc2 := 253) (args := [.ref 44, gv a1, gv (gm_I g50 44 49), gv (gm_I g50 44 50), gv (gm_I g50 44 51)]) (st2 := []) rfl rfl rfl rfl rfl rfl (rc_of (sh_T hs rfl rfl)) (rf_md_places hs (d + 1) g50 a1 (gm_I g50 44 49) (gm_I g50 44 50) (gm_I g50 44 51) ) fun g51 => (
      r_aload (pc2 := 254) rfl rfl rfl (
      r_aload (pc2 := 255) rfl rfl rfl (
      r_getA (pc2 := 258) rfl rfl (sh_T hs rfl rfl) (sh_A hs rfl rfl) (
      r_iload (pc2 := 259) rfl rfl rfl (
      r_iald (len := 30) (pc2 := 260) rfl rfl (sh_T hs rfl rfl) (sh_L hs rfl rfl) rfl h1 (
      r_aload (pc2 := 261) rfl rfl rfl (
      r_getA (pc2 := 264) rfl rfl (sh_T hs rfl rfl) (sh_A hs rfl rfl) (
      r_iload (pc2 := 265) rfl rfl rfl (
      r_iald (len := 30) (pc2 := 266) rfl rfl (sh_T hs rfl rfl) (sh_L hs rfl rfl) rfl h3 (
      r_callVI (pc2 := 269) (args := [.ref 44, gv (gm_I g51 78 a1.toNat), gv (gm_I g51 78 a2.toNat)]) (st2 := []) rfl rfl rfl rfl rfl rfl (rc_of (sh_T hs rfl rfl)) (rf_md_hits hs d g51 (gm_I g51 78 a1.toNat) (gm_I g51 78 a2.toNat) ) fun v52 g53 => (
      r_iret rfl rfl)))))))))))))))))))))))))))))))))))))) (fun _ =>
      r_aload (pc2 := 143) rfl rfl rfl (
      r_aload (pc2 := 144) rfl rfl rfl (
      r_getA (pc2 := 147) rfl rfl (sh_T hs rfl rfl) (sh_A hs rfl rfl) (
      r_iload (pc2 := 148) rfl rfl rfl (
      r_iald (len := 30) (pc2 := 149) rfl rfl (sh_T hs rfl rfl) (sh_L hs rfl rfl) rfl h1 (
      r_aload (pc2 := 150) rfl rfl rfl (
      r_getA (pc2 := 153) rfl rfl (sh_T hs rfl rfl) (sh_A hs rfl rfl) (
      r_iload (pc2 := 154) rfl rfl rfl (
      r_iald (len := 30) (pc2 := 155) rfl rfl (sh_T hs rfl rfl) (sh_L hs rfl rfl) rfl h1 (
      r_aload (pc2 := 156) rfl rfl rfl (
      r_getA (pc2 := 159) rfl rfl (sh_T hs rfl rfl) (sh_A hs rfl rfl) (
      r_iload (pc2 := 160) rfl rfl rfl (
      r_iald (len := 30) (pc2 := 161) rfl rfl (sh_T hs rfl rfl) (sh_L hs rfl rfl) rfl h1 (
      r_callVV (pc2 := 164) (args := [.ref 44, gv (gm_I g37 85 a1.toNat), gv (gm_I g37 86 a1.toNat), gv (gm_I g37 87 a1.toNat)]) (st2 := []) rfl rfl rfl rfl rfl rfl (rc_of (sh_T hs rfl rfl)) (rf_md_holds hs (d + 5) g37 (gm_I g37 85 a1.toNat) (gm_I g37 86 a1.toNat) (gm_I g37 87 a1.toNat) ) fun g54 => (
      r_aload (pc2 := 165) rfl rfl rfl (
      r_aload (pc2 := 166) rfl rfl rfl (
      r_getI (pc2 := 169) rfl rfl (sh_T hs rfl rfl) (
      r_callVV (pc2 := 172) (args := [.ref 44, gv (gm_I g54 44 24)]) (st2 := []) rfl rfl rfl rfl rfl rfl (rc_of (sh_T hs rfl rfl)) (rf_md_thenJoin hs (d + 3) g54 (gm_I g54 44 24) ) fun g55 => (
      r_aload (pc2 := 173) rfl rfl rfl (
      r_iload (pc2 := 174) rfl rfl rfl (
      r_aload (pc2 := 175) rfl rfl rfl (
      r_getI (pc2 := 178) rfl rfl (sh_T hs rfl rfl) (
      r_aload (pc2 := 179) rfl rfl rfl (
      r_getI (pc2 := 182) rfl rfl (sh_T hs rfl rfl) (
      r_aload (pc2 := 183) rfl rfl rfl (
      r_getI (pc2 := 186) rfl rfl (sh_T hs rfl rfl) (
      r_callVV (pc2 := 189) (args := [.ref 44, gv a2, gv (gm_I g55 44 49), gv (gm_I g55 44 50), gv (gm_I g55 44 51)]) (st2 := []) rfl rfl rfl rfl rfl rfl (rc_of (sh_T hs rfl rfl)) (rf_md_places hs (d + 1) g55 a2 (gm_I g55 44 49) (gm_I g55 44 50) (gm_I g55 44 51) ) fun g56 => (
      r_aload (pc2 := 190) rfl rfl rfl (
      r_aload (pc2 := 191) rfl rfl rfl (
      r_getA (pc2 := 194) rfl rfl (sh_T hs rfl rfl) (sh_A hs rfl rfl) (
      r_iload (pc2 := 195) rfl rfl rfl (
      r_iald (len := 30) (pc2 := 196) rfl rfl (sh_T hs rfl rfl) (sh_L hs rfl rfl) rfl h3 (
      r_aload (pc2 := 197) rfl rfl rfl (
      r_getA (pc2 := 200) rfl rfl (sh_T hs rfl rfl) (sh_A hs rfl rfl) (
      r_iload (pc2 := 201) rfl rfl rfl (
      r_iald (len := 30) (pc2 := 202) rfl rfl (sh_T hs rfl rfl) (sh_L hs rfl rfl) rfl h1 (
      r_callVI (pc2 := 205) (args := [.ref 44, gv (gm_I g56 78 a2.toNat), gv (gm_I g56 78 a1.toNat)]) (st2 := []) rfl rfl rfl rfl rfl rfl (rc_of (sh_T hs rfl rfl)) (rf_md_hits hs d g56 (gm_I g56 78 a2.toNat) (gm_I g56 78 a1.toNat) ) fun v57 g58 => (
      r_iret rfl rfl))))))))))))))))))))))))))))))))))))))))) (fun _ =>
      r_aload (pc2 := 52) rfl rfl rfl (
      r_aload (pc2 := 53) rfl rfl rfl (
      r_getA (pc2 := 56) rfl rfl (sh_T hs rfl rfl) (sh_A hs rfl rfl) (
      r_iload (pc2 := 57) rfl rfl rfl (
      r_iald (len := 30) (pc2 := 58) rfl rfl (sh_T hs rfl rfl) (sh_L hs rfl rfl) rfl h1 (
      r_aload (pc2 := 59) rfl rfl rfl (
      r_getA (pc2 := 62) rfl rfl (sh_T hs rfl rfl) (sh_A hs rfl rfl) (
      r_iload (pc2 := 63) rfl rfl rfl (
      r_iald (len := 30) (pc2 := 64) rfl rfl (sh_T hs rfl rfl) (sh_L hs rfl rfl) rfl h1 (
      r_aload (pc2 := 65) rfl rfl rfl (
      r_getA (pc2 := 68) rfl rfl (sh_T hs rfl rfl) (sh_A hs rfl rfl) (
      r_iload (pc2 := 69) rfl rfl rfl (
      r_iald (len := 30) (pc2 := 70) rfl rfl (sh_T hs rfl rfl) (sh_L hs rfl rfl) rfl h1 (
      r_callVV (pc2 := 73) (args := [.ref 44, gv (gm_I g37 85 a1.toNat), gv (gm_I g37 86 a1.toNat), gv (gm_I g37 87 a1.toNat)]) (st2 := []) rfl rfl rfl rfl rfl rfl (rc_of (sh_T hs rfl rfl)) (rf_md_holds hs (d + 5) g37 (gm_I g37 85 a1.toNat) (gm_I g37 86 a1.toNat) (gm_I g37 87 a1.toNat) ) fun g59 => (
      r_aload (pc2 := 74) rfl rfl rfl (
      r_aload (pc2 := 75) rfl rfl rfl (
      r_getI (pc2 := 78) rfl rfl (sh_T hs rfl rfl) (
      r_callVV (pc2 := 81) (args := [.ref 44, gv (gm_I g59 44 24)]) (st2 := []) rfl rfl rfl rfl rfl rfl (rc_of (sh_T hs rfl rfl)) (rf_md_thenJoin hs (d + 3) g59 (gm_I g59 44 24) ) fun g60 => (
      r_aload (pc2 := 82) rfl rfl rfl (
      r_aload (pc2 := 83) rfl rfl rfl (
      r_getA (pc2 := 86) rfl rfl (sh_T hs rfl rfl) (sh_A hs rfl rfl) (
      r_iload (pc2 := 87) rfl rfl rfl (
      r_iald (len := 30) (pc2 := 88) rfl rfl (sh_T hs rfl rfl) (sh_L hs rfl rfl) rfl h3 (
      r_aload (pc2 := 89) rfl rfl rfl (
      r_getA (pc2 := 92) rfl rfl (sh_T hs rfl rfl) (sh_A hs rfl rfl) (
      r_iload (pc2 := 93) rfl rfl rfl (
      r_iald (len := 30) (pc2 := 94) rfl rfl (sh_T hs rfl rfl) (sh_L hs rfl rfl) rfl h3 (
      r_aload (pc2 := 95) rfl rfl rfl (
      r_getA (pc2 := 98) rfl rfl (sh_T hs rfl rfl) (sh_A hs rfl rfl) (
      r_iload (pc2 := 99) rfl rfl rfl (
      r_iald (len := 30) (pc2 := 100) rfl rfl (sh_T hs rfl rfl) (sh_L hs rfl rfl) rfl h3 (
      r_callVP (pc2 := 103) (args := [.ref 44, gv (gm_I g60 85 a2.toNat), gv (gm_I g60 86 a2.toNat), gv (gm_I g60 87 a2.toNat)]) (st2 := []) rfl rfl rfl rfl rfl rfl (rc_of (sh_T hs rfl rfl)) (rf_md_isHeld hs (d + 5) g60 (gm_I g60 85 a2.toNat) (gm_I g60 86 a2.toNat) (gm_I g60 87 a2.toNat) ) fun v61 => (
      jr_g fun h62 => r_ifeq (pc2 := 106) (t := 108) rfl h62 rfl (fun _ =>
      r_aload (pc2 := 109) rfl rfl rfl (
      r_ic (x := 0) (pc2 := 110) rfl ic_0 rfl (
      r_putI (pc2 := 113) rfl rfl (sh_T hs rfl rfl) fun g63 => (
      r_aload (pc2 := 114) rfl rfl rfl (
      r_iload (pc2 := 115) rfl rfl rfl (
      r_iload (pc2 := 116) rfl rfl rfl (
      r_ic (x := 0) (pc2 := 117) rfl ic_0 rfl (
      r_callVV (pc2 := 120) (args := [.ref 44, gv v2, gv a1, gv 0]) (st2 := []) rfl rfl rfl rfl rfl rfl (rc_of (sh_T hs rfl rfl)) (rf_md_goes hs (d + 3) g63 v2 a1 0 ) fun g64 => (
      r_aload (pc2 := 121) rfl rfl rfl (
      r_iload (pc2 := 122) rfl rfl rfl (
      r_iload (pc2 := 124) rfl rfl rfl (
      r_ic (x := 0) (pc2 := 125) rfl ic_0 rfl (
      r_callVV (pc2 := 128) (args := [.ref 44, gv a2, gv v4, gv 0]) (st2 := []) rfl rfl rfl rfl rfl rfl (rc_of (sh_T hs rfl rfl)) (rf_md_goes hs (d + 3) g64 a2 v4 0 ) fun g65 => (
      r_aload (pc2 := 129) rfl rfl rfl (
      r_ic (x := 3) (pc2 := 130) rfl ic_3 rfl (
      r_iload (pc2 := 131) rfl rfl rfl (
      r_iload (pc2 := 133) rfl rfl rfl (
      r_callVI (pc2 := 136) (args := [.ref 44, gv 3, gv v2, gv v4]) (st2 := []) rfl rfl rfl rfl rfl rfl (rc_of (sh_T hs rfl rfl)) (rf_md_clashesBy hs (d + 5) g65 3 v2 v4 ) fun v66 g67 => (
      r_iret rfl rfl))))))))))))))))))) (fun _ =>
      r_ic (x := 0) (pc2 := 107) rfl ic_0 rfl (
      r_iret rfl rfl)))))))))))))))))))))))))))))))))))))))))))))))))))))))))))))
theorem rf_md_clashOf {s : gm_S} {n m : Nat} (hs : gm_sh s n m) (d : Nat)  (g : gm_T) (a1 : Int) (a2 : Int)  : jr (eI s) (md_clashOf g a1 a2) (jm_cl jm_CD km_n (d + 8) 250 [.ref 44, gv a1, gv a2] (gm_h s g)) := by
  unfold md_clashOf
  exact (r_ent (cd := cd_250) (n := 4) (L0 := [some (.ref 44), some (gv a1), some (gv a2), none]) rfl rfl rfl rfl (
      r_aload (pc2 := 1) rfl rfl rfl (
      r_callVV (pc2 := 4) (args := [.ref 44]) (st2 := []) rfl rfl rfl rfl rfl rfl (rc_of (sh_T hs rfl rfl)) (rf_md_groups hs (d + 1) g ) fun g1 => (
      r_aload (pc2 := 5) rfl rfl rfl (
      r_getA (pc2 := 8) rfl rfl (sh_T hs rfl rfl) (sh_A hs rfl rfl) (
      r_iload (pc2 := 9) rfl rfl rfl (
      jr_g fun h2 => r_iald (len := 30) (pc2 := 10) rfl rfl (sh_T hs rfl rfl) (sh_L hs rfl rfl) rfl h2 (
      r_aload (pc2 := 11) rfl rfl rfl (
      r_getA (pc2 := 14) rfl rfl (sh_T hs rfl rfl) (sh_A hs rfl rfl) (
      r_iload (pc2 := 15) rfl rfl rfl (
      jr_g fun h3 => r_iald (len := 30) (pc2 := 16) rfl rfl (sh_T hs rfl rfl) (sh_L hs rfl rfl) rfl h3 (
      jr_g fun h4 => r_cne (pc2 := 19) (t := 118) rfl h4.1 h4.2 rfl (fun _ =>
      r_aload (pc2 := 20) rfl rfl rfl (
      r_iload (pc2 := 21) rfl rfl rfl (
      r_iload (pc2 := 22) rfl rfl rfl (
      r_callVV (pc2 := 25) (args := [.ref 44, gv a1, gv a2]) (st2 := []) rfl rfl rfl rfl rfl rfl (rc_of (sh_T hs rfl rfl)) (rf_md_within hs (d + 3) g1 a1 a2 ) fun g5 => (
      r_aload (pc2 := 26) rfl rfl rfl (
      r_getI (pc2 := 29) rfl rfl (sh_T hs rfl rfl) (
      r_istoreL (L3 := fun v6 => [some (.ref 44), some (gv a1), some (gv a2), some (gv v6)]) (pc2 := 30) rfl rfl (fun _ => rfl) fun v6 => (
      r_aload (pc2 := 31) rfl rfl rfl (
      r_aload (pc2 := 32) rfl rfl rfl (
      r_getA (pc2 := 35) rfl rfl (sh_T hs rfl rfl) (sh_A hs rfl rfl) (
      r_aload (pc2 := 36) rfl rfl rfl (
      r_iload (pc2 := 37) rfl rfl rfl (
      r_aload (pc2 := 38) rfl rfl rfl (
      r_getA (pc2 := 41) rfl rfl (sh_T hs rfl rfl) (sh_A hs rfl rfl) (
      r_iload (pc2 := 42) rfl rfl rfl (
      jr_g fun h7 => r_iald (len := 60) (pc2 := 43) rfl rfl (sh_T hs rfl rfl) (sh_L hs rfl rfl) rfl h7 (
      r_iload (pc2 := 44) rfl rfl rfl (
      r_aload (pc2 := 45) rfl rfl rfl (
      r_getA (pc2 := 48) rfl rfl (sh_T hs rfl rfl) (sh_A hs rfl rfl) (
      r_iload (pc2 := 49) rfl rfl rfl (
      r_iald (len := 60) (pc2 := 50) rfl rfl (sh_T hs rfl rfl) (sh_L hs rfl rfl) rfl h7 (
      r_callVP (pc2 := 53) (args := [.ref 44, gv a1, gv (gm_I g5 66 v6.toNat), gv a2, gv (gm_I g5 68 v6.toNat)]) (st2 := [.ref 63, .ref 44]) rfl rfl rfl rfl rfl rfl (rc_of (sh_T hs rfl rfl)) (rf_md_entry hs (d + 6) g5 a1 (gm_I g5 66 v6.toNat) a2 (gm_I g5 68 v6.toNat) ) fun v8 => (
      jr_g fun h9 => r_iald (len := 57600) (pc2 := 54) rfl rfl (sh_T hs rfl rfl) (sh_L hs rfl rfl) rfl h9 (
      r_aload (pc2 := 55) rfl rfl rfl (
      r_iload (pc2 := 56) rfl rfl rfl (
      r_aload (pc2 := 57) rfl rfl rfl (
      r_getA (pc2 := 60) rfl rfl (sh_T hs rfl rfl) (sh_A hs rfl rfl) (
      r_iload (pc2 := 61) rfl rfl rfl (
      r_iald (len := 60) (pc2 := 62) rfl rfl (sh_T hs rfl rfl) (sh_L hs rfl rfl) rfl h7 (
      r_iload (pc2 := 63) rfl rfl rfl (
      r_aload (pc2 := 64) rfl rfl rfl (
      r_getA (pc2 := 67) rfl rfl (sh_T hs rfl rfl) (sh_A hs rfl rfl) (
      r_iload (pc2 := 68) rfl rfl rfl (
      r_iald (len := 60) (pc2 := 69) rfl rfl (sh_T hs rfl rfl) (sh_L hs rfl rfl) rfl h7 (
      r_callVP (pc2 := 72) (args := [.ref 44, gv a1, gv (gm_I g5 66 v6.toNat), gv a2, gv (gm_I g5 68 v6.toNat)]) (st2 := [gv (gm_I g5 63 v8.toNat), .ref 44]) rfl rfl rfl rfl rfl rfl (rc_of (sh_T hs rfl rfl)) (rf_md_fitX hs (d + 5) g5 a1 (gm_I g5 66 v6.toNat) a2 (gm_I g5 68 v6.toNat) ) fun v10 => (
      r_aload (pc2 := 73) rfl rfl rfl (
      r_iload (pc2 := 74) rfl rfl rfl (
      r_aload (pc2 := 75) rfl rfl rfl (
      r_getA (pc2 := 78) rfl rfl (sh_T hs rfl rfl) (sh_A hs rfl rfl) (
      r_iload (pc2 := 79) rfl rfl rfl (
      r_iald (len := 60) (pc2 := 80) rfl rfl (sh_T hs rfl rfl) (sh_L hs rfl rfl) rfl h7 (
      r_iload (pc2 := 81) rfl rfl rfl (
      r_aload (pc2 := 82) rfl rfl rfl (
      r_getA (pc2 := 85) rfl rfl (sh_T hs rfl rfl) (sh_A hs rfl rfl) (
      r_iload (pc2 := 86) rfl rfl rfl (
      r_iald (len := 60) (pc2 := 87) rfl rfl (sh_T hs rfl rfl) (sh_L hs rfl rfl) rfl h7 (
      r_callVP (pc2 := 90) (args := [.ref 44, gv a1, gv (gm_I g5 66 v6.toNat), gv a2, gv (gm_I g5 68 v6.toNat)]) (st2 := [gv v10, gv (gm_I g5 63 v8.toNat), .ref 44]) rfl rfl rfl rfl rfl rfl (rc_of (sh_T hs rfl rfl)) (rf_md_fitY hs (d + 5) g5 a1 (gm_I g5 66 v6.toNat) a2 (gm_I g5 68 v6.toNat) ) fun v11 => (
      r_callVP (pc2 := 93) (args := [.ref 44, gv (gm_I g5 63 v8.toNat), gv v10, gv v11]) (st2 := []) rfl rfl rfl rfl rfl rfl (rc_of (sh_T hs rfl rfl)) (rf_md_isHeld hs (d + 6) g5 (gm_I g5 63 v8.toNat) v10 v11 ) fun v12 => (
      jr_g fun h13 => r_ifeq (pc2 := 96) (t := 98) rfl h13 rfl (fun _ =>
      r_aload (pc2 := 99) rfl rfl rfl (
      r_ic (x := 0) (pc2 := 100) rfl ic_0 rfl (
      r_putI (pc2 := 103) rfl rfl (sh_T hs rfl rfl) fun g14 => (
      r_aload (pc2 := 104) rfl rfl rfl (
      r_iload (pc2 := 105) rfl rfl rfl (
      r_iload (pc2 := 106) rfl rfl rfl (
      r_ic (x := 0) (pc2 := 107) rfl ic_0 rfl (
      r_callVV (pc2 := 110) (args := [.ref 44, gv a1, gv a2, gv 0]) (st2 := []) rfl rfl rfl rfl rfl rfl (rc_of (sh_T hs rfl rfl)) (rf_md_goes hs (d + 4) g14 a1 a2 0 ) fun g15 => (
      r_aload (pc2 := 111) rfl rfl rfl (
      r_ic (x := 1) (pc2 := 112) rfl ic_1 rfl (
      r_iload (pc2 := 113) rfl rfl rfl (
      r_iload (pc2 := 114) rfl rfl rfl (
      r_callVI (pc2 := 117) (args := [.ref 44, gv 1, gv a1, gv a2]) (st2 := []) rfl rfl rfl rfl rfl rfl (rc_of (sh_T hs rfl rfl)) (rf_md_clashesBy hs (d + 6) g15 1 a1 a2 ) fun v16 g17 => (
      r_iret rfl rfl)))))))))))))) (fun _ =>
      r_ic (x := 0) (pc2 := 97) rfl ic_0 rfl (
      r_iret rfl rfl))))))))))))))))))))))))))))))))))))))))))))))))))) (fun _ =>
      r_aload (pc2 := 119) rfl rfl rfl (
      r_iload (pc2 := 120) rfl rfl rfl (
      r_iload (pc2 := 121) rfl rfl rfl (
      r_callVI (pc2 := 124) (args := [.ref 44, gv a1, gv a2]) (st2 := []) rfl rfl rfl rfl rfl rfl (rc_of (sh_T hs rfl rfl)) (rf_md_overlapping hs (d + 2) g1 a1 a2 ) fun v18 g19 => (
      r_istore (L2 := [some (.ref 44), some (gv a1), some (gv a2), some (gv v18)]) (pc2 := 125) rfl rfl rfl (
      r_iload (pc2 := 126) rfl rfl rfl (
      jr_g fun h20 => r_ifeq (pc2 := 129) (t := 133) rfl h20 rfl (fun _ =>
      r_aload (pc2 := 134) rfl rfl rfl (
      r_iload (pc2 := 135) rfl rfl rfl (
      r_iload (pc2 := 136) rfl rfl rfl (
      r_callVI (pc2 := 139) (args := [.ref 44, gv a1, gv a2]) (st2 := []) rfl rfl rfl rfl rfl rfl (rc_of (sh_T hs rfl rfl)) (rf_md_against hs d g19 a1 a2 ) fun v21 g22 => (
      r_iret rfl rfl))))) (fun _ =>
      r_iload (pc2 := 130) rfl rfl rfl (
      r_goto (t := 139) rfl (
      r_iret rfl rfl))))))))))))))))))))))
theorem rf_md_join {s : gm_S} {n m : Nat} (hs : gm_sh s n m) (d : Nat)  (g : gm_T) (a1 : Int) (a2 : Int) (a3 : Int) (a4 : Int)  : jr (eI s) (md_join g a1 a2 a3 a4) (jm_cl jm_CD km_n (d + 9) 251 [.ref 44, gv a1, gv a2, gv a3, gv a4] (gm_h s g)) := by
  unfold md_join
  exact (r_ent (cd := cd_251) (n := 6) (L0 := [some (.ref 44), some (gv a1), some (gv a2), some (gv a3), some (gv a4), none]) rfl rfl rfl rfl (
      r_aload (pc2 := 1) rfl rfl rfl (
      r_iload (pc2 := 2) rfl rfl rfl (
      r_iload (pc2 := 3) rfl rfl rfl (
      r_callVP (pc2 := 6) (args := [.ref 44, gv a1, gv a2]) (st2 := []) rfl rfl rfl rfl rfl rfl (rc_of (sh_T hs rfl rfl)) (rf_md_isEdge hs (d + 5) g a1 a2 ) fun v1 => (
      jr_g fun h2 => r_ifeq (pc2 := 9) (t := 19) rfl h2 rfl (fun _ =>
      r_ic (x := -1) (pc2 := 20) rfl ic_m1 rfl (
      r_iret rfl rfl)) (fun _ =>
      r_aload (pc2 := 10) rfl rfl rfl (
      r_iload (pc2 := 11) rfl rfl rfl (
      r_iload (pc2 := 13) rfl rfl rfl (
      r_callVP (pc2 := 16) (args := [.ref 44, gv a3, gv a4]) (st2 := []) rfl rfl rfl rfl rfl rfl (rc_of (sh_T hs rfl rfl)) (rf_md_isEdge hs (d + 5) g a3 a4 ) fun v3 => (
      jr_g fun h4 => r_ifne (pc2 := 19) (t := 21) rfl h4 rfl (fun _ =>
      r_ic (x := -1) (pc2 := 20) rfl ic_m1 rfl (
      r_iret rfl rfl)) (fun _ =>
      r_iload (pc2 := 22) rfl rfl rfl (
      r_iload (pc2 := 23) rfl rfl rfl (
      jr_g fun h5 => r_cne (pc2 := 26) (t := 29) rfl h5.1 h5.2 rfl (fun _ =>
      r_ic (x := -2) (pc2 := 28) rfl ic_m2 rfl (
      r_iret rfl rfl)) (fun _ =>
      r_aload (pc2 := 30) rfl rfl rfl (
      r_iload (pc2 := 31) rfl rfl rfl (
      r_iload (pc2 := 32) rfl rfl rfl (
      r_iload (pc2 := 33) rfl rfl rfl (
      r_iload (pc2 := 35) rfl rfl rfl (
      r_callVP (pc2 := 38) (args := [.ref 44, gv a1, gv a2, gv a3, gv a4]) (st2 := []) rfl rfl rfl rfl rfl rfl (rc_of (sh_T hs rfl rfl)) (rf_md_isFit hs (d + 6) g a1 a2 a3 a4 ) fun v6 => (
      jr_g fun h7 => r_ifeq (pc2 := 41) (t := 60) rfl h7 rfl (fun _ =>
      r_ic (x := -3) (pc2 := 62) rfl ic_m3 rfl (
      r_iret rfl rfl)) (fun _ =>
      r_aload (pc2 := 42) rfl rfl rfl (
      r_iload (pc2 := 43) rfl rfl rfl (
      r_iload (pc2 := 44) rfl rfl rfl (
      r_callVP (pc2 := 47) (args := [.ref 44, gv a1, gv a2]) (st2 := []) rfl rfl rfl rfl rfl rfl (rc_of (sh_T hs rfl rfl)) (rf_md_isTaken hs (d + 7) g a1 a2 ) fun v8 => (
      jr_g fun h9 => r_ifne (pc2 := 50) (t := 60) rfl h9 rfl (fun _ =>
      r_aload (pc2 := 51) rfl rfl rfl (
      r_iload (pc2 := 52) rfl rfl rfl (
      r_iload (pc2 := 54) rfl rfl rfl (
      r_callVP (pc2 := 57) (args := [.ref 44, gv a3, gv a4]) (st2 := []) rfl rfl rfl rfl rfl rfl (rc_of (sh_T hs rfl rfl)) (rf_md_isTaken hs (d + 7) g a3 a4 ) fun v10 => (
      jr_g fun h11 => r_ifeq (pc2 := 60) (t := 63) rfl h11 rfl (fun _ =>
      r_aload (pc2 := 64) rfl rfl rfl (
      r_getI (pc2 := 67) rfl rfl (sh_T hs rfl rfl) (
      r_ic (x := 60) (pc2 := 69) rfl ic_60 rfl (
      jr_g fun h12 => r_cne (pc2 := 72) (t := 75) rfl h12 (rgk rfl) rfl (fun _ =>
      r_ic (x := -4) (pc2 := 74) rfl ic_m4 rfl (
      r_iret rfl rfl)) (fun _ =>
      r_aload (pc2 := 76) rfl rfl rfl (
      r_getA (pc2 := 79) rfl rfl (sh_T hs rfl rfl) (sh_A hs rfl rfl) (
      r_aload (pc2 := 80) rfl rfl rfl (
      r_getI (pc2 := 83) rfl rfl (sh_T hs rfl rfl) (
      r_iload (pc2 := 84) rfl rfl rfl (
      jr_g fun h14 => r_iast (len := 60) (pc2 := 85) rfl rfl (sh_T hs rfl rfl) (sh_L hs rfl rfl) rfl h14 fun g13 => (
      r_aload (pc2 := 86) rfl rfl rfl (
      r_getA (pc2 := 89) rfl rfl (sh_T hs rfl rfl) (sh_A hs rfl rfl) (
      r_aload (pc2 := 90) rfl rfl rfl (
      r_getI (pc2 := 93) rfl rfl (sh_T hs rfl rfl) (
      r_iload (pc2 := 94) rfl rfl rfl (
      jr_g fun h16 => r_iast (len := 60) (pc2 := 95) rfl rfl (sh_T hs rfl rfl) (sh_L hs rfl rfl) rfl h16 fun g15 => (
      r_aload (pc2 := 96) rfl rfl rfl (
      r_getA (pc2 := 99) rfl rfl (sh_T hs rfl rfl) (sh_A hs rfl rfl) (
      r_aload (pc2 := 100) rfl rfl rfl (
      r_getI (pc2 := 103) rfl rfl (sh_T hs rfl rfl) (
      r_iload (pc2 := 104) rfl rfl rfl (
      jr_g fun h18 => r_iast (len := 60) (pc2 := 105) rfl rfl (sh_T hs rfl rfl) (sh_L hs rfl rfl) rfl h18 fun g17 => (
      r_aload (pc2 := 106) rfl rfl rfl (
      r_getA (pc2 := 109) rfl rfl (sh_T hs rfl rfl) (sh_A hs rfl rfl) (
      r_aload (pc2 := 110) rfl rfl rfl (
      r_getI (pc2 := 113) rfl rfl (sh_T hs rfl rfl) (
      r_iload (pc2 := 115) rfl rfl rfl (
      jr_g fun h20 => r_iast (len := 60) (pc2 := 116) rfl rfl (sh_T hs rfl rfl) (sh_L hs rfl rfl) rfl h20 fun g19 => (
      r_aload (pc2 := 117) rfl rfl rfl (
      r_getA (pc2 := 120) rfl rfl (sh_T hs rfl rfl) (sh_A hs rfl rfl) (
      r_aload (pc2 := 121) rfl rfl rfl (
      r_getI (pc2 := 124) rfl rfl (sh_T hs rfl rfl) (
      r_ic (x := 0) (pc2 := 125) rfl ic_0 rfl (
      jr_g fun h22 => r_zast (len := 60) (pc2 := 126) rfl rfl (sh_T hs rfl rfl) (sh_L hs rfl rfl) rfl h22 (by decide) fun g21 => (
      r_aload (pc2 := 127) rfl rfl rfl (
      r_iload (pc2 := 128) rfl rfl rfl (
      r_iload (pc2 := 129) rfl rfl rfl (
      r_callVI (pc2 := 132) (args := [.ref 44, gv a1, gv a3]) (st2 := []) rfl rfl rfl rfl rfl rfl (rc_of (sh_T hs rfl rfl)) (rf_md_clashOf hs d g21 a1 a3 ) fun v23 g24 => (
      r_istore (L2 := [some (.ref 44), some (gv a1), some (gv a2), some (gv a3), some (gv a4), some (gv v23)]) (pc2 := 134) rfl rfl rfl (
      r_iload (pc2 := 136) rfl rfl rfl (
      jr_g fun h25 => r_ifeq (pc2 := 139) (t := 142) rfl h25 rfl (fun _ =>
      r_aload (pc2 := 143) rfl rfl rfl (
      r_getA (pc2 := 146) rfl rfl (sh_T hs rfl rfl) (sh_A hs rfl rfl) (
      r_aload (pc2 := 147) rfl rfl rfl (
      r_getI (pc2 := 150) rfl rfl (sh_T hs rfl rfl) (
      r_ic (x := 1) (pc2 := 151) rfl ic_1 rfl (
      jr_g fun h27 => r_zast (len := 60) (pc2 := 152) rfl rfl (sh_T hs rfl rfl) (sh_L hs rfl rfl) rfl h27 (by decide) fun g26 => (
      r_aload (pc2 := 153) rfl rfl rfl (
      r_dup (pc2 := 154) rfl rfl rfl (
      r_getI (pc2 := 157) rfl rfl (sh_T hs rfl rfl) (
      r_ic (x := 1) (pc2 := 158) rfl ic_1 rfl (
      r_iadd (pc2 := 159) rfl rfl (
      r_putI (pc2 := 162) rfl rfl (sh_T hs rfl rfl) fun g28 => (
      r_aload (pc2 := 163) rfl rfl rfl (
      r_getI (pc2 := 166) rfl rfl (sh_T hs rfl rfl) (
      r_ic (x := 1) (pc2 := 167) rfl ic_1 rfl (
      r_isub (pc2 := 168) rfl rfl (
      r_iret rfl rfl))))))))))))))))) (fun _ =>
      r_iload (pc2 := 141) rfl rfl rfl (
      r_iret rfl rfl))))))))))))))))))))))))))))))))))))))))))) (fun _ =>
      r_ic (x := -3) (pc2 := 62) rfl ic_m3 rfl (
      r_iret rfl rfl))))))) (fun _ =>
      r_ic (x := -3) (pc2 := 62) rfl ic_m3 rfl (
      r_iret rfl rfl))))))))))))))))))))))))))))
theorem rf_md_isJoin {s : gm_S} {n m : Nat} (hs : gm_sh s n m) (d : Nat)  (g : gm_T) (a1 : Int)  : jr (pI s g) (md_isJoin g a1) (jm_cl jm_CD km_n (d + 2) 252 [.ref 44, gv a1] (gm_h s g)) := by
  unfold md_isJoin
  exact (r_ent (cd := cd_252) (n := 2) (L0 := [some (.ref 44), some (gv a1)]) rfl rfl rfl rfl (
      r_iload (pc2 := 1) rfl rfl rfl (
      r_ic (x := 0) (pc2 := 2) rfl ic_0 rfl (
      r_aload (pc2 := 3) rfl rfl rfl (
      r_getI (pc2 := 6) rfl rfl (sh_T hs rfl rfl) (
      r_ic (x := 1) (pc2 := 7) rfl ic_1 rfl (
      r_isub (pc2 := 8) rfl rfl (
      r_callSP (pc2 := 11) (args := [gv a1, gv 0, gv ((gm_I g 44 24) - 1)]) (st2 := []) rfl rfl rfl rfl rfl rfl (rf_md_in hs d g a1 0 ((gm_I g 44 24) - 1) ) fun v1 => (
      jr_g fun h2 => r_ifeq (pc2 := 14) (t := 27) rfl h2 rfl (fun _ =>
      r_ic (x := 0) (pc2 := 28) rfl ic_0 rfl (
      r_zret rfl (by decide) rfl)) (fun _ =>
      r_aload (pc2 := 15) rfl rfl rfl (
      r_getA (pc2 := 18) rfl rfl (sh_T hs rfl rfl) (sh_A hs rfl rfl) (
      r_iload (pc2 := 19) rfl rfl rfl (
      jr_g fun h3 => r_iald (len := 60) (pc2 := 20) rfl rfl (sh_T hs rfl rfl) (sh_L hs rfl rfl) rfl h3 (
      jr_g fun h4 => r_ifeq (pc2 := 23) (t := 27) rfl h4 rfl (fun _ =>
      r_ic (x := 0) (pc2 := 28) rfl ic_0 rfl (
      r_zret rfl (by decide) rfl)) (fun _ =>
      r_ic (x := 1) (pc2 := 24) rfl ic_1 rfl (
      r_goto (t := 28) rfl (
      r_zret rfl (by decide) rfl)))))))))))))))))
theorem rl_md_sizeOf_l4 {s : gm_S} {n m : Nat} (hs : gm_sh s n m) (d : Nat)  (g : gm_T) (c1 : Int)  : ∀ (fuel : Nat) (v2 : Int) (v3 : Int), jr (fun (q : Int) (c : Option jm_R) => ∃ (j5 : Option Value), jm_lg j5 = false ∧ c = jm_sup cd_253 (jm_cl jm_CD km_n d) (36, [some (.ref 44), some (gv c1), some (gv q), j5], [], gm_h s g)) (md_sizeOf_l4 g c1 fuel v2 v3) (jm_sup cd_253 (jm_cl jm_CD km_n d) (4, [some (.ref 44), some (gv c1), some (gv v2), some (gv v3)], [], gm_h s g)) := by
  intro fuel
  induction fuel with
  | zero => intros; exact jr_none
  | succ fuel ih =>
    intro v2 v3  
    unfold md_sizeOf_l4
    exact (
      r_iload (pc2 := 5) rfl rfl rfl (
      r_aload (pc2 := 6) rfl rfl rfl (
      r_getI (pc2 := 9) rfl rfl (sh_T hs rfl rfl) (
      jr_g fun h6 => r_cge (pc2 := 12) (t := 36) rfl h6.1 h6.2 rfl (fun _ =>
      r_iload (pc2 := 13) rfl rfl rfl (
      r_aload (pc2 := 14) rfl rfl rfl (
      r_getA (pc2 := 17) rfl rfl (sh_T hs rfl rfl) (sh_A hs rfl rfl) (
      r_iload (pc2 := 18) rfl rfl rfl (
      jr_g fun h7 => r_iald (len := 30) (pc2 := 19) rfl rfl (sh_T hs rfl rfl) (sh_L hs rfl rfl) rfl h7 (
      r_iload (pc2 := 20) rfl rfl rfl (
      jr_g fun h8 => r_cne (pc2 := 23) (t := 27) rfl h8.1 h8.2 rfl (fun _ =>
      r_ic (x := 1) (pc2 := 24) rfl ic_1 rfl (
      r_goto (t := 28) rfl (
      r_iadd (pc2 := 29) rfl rfl (
      r_istoreL (L3 := fun v9 => [some (.ref 44), some (gv c1), some (gv v9), some (gv v3)]) (pc2 := 30) rfl rfl (fun _ => rfl) fun v9 => (
      r_iinc (kk := 1) (L2 := [some (.ref 44), some (gv c1), some (gv v9), some (gv (v3 + 1))]) (pc2 := 33) rfl ic_1 rfl rfl rfl (
      r_goto (t := 4) rfl (
      ih v9 (v3 + 1)))))))) (fun _ =>
      r_ic (x := 0) (pc2 := 28) rfl ic_0 rfl (
      r_iadd (pc2 := 29) rfl rfl (
      r_istoreL (L3 := fun v11 => [some (.ref 44), some (gv c1), some (gv v11), some (gv v3)]) (pc2 := 30) rfl rfl (fun _ => rfl) fun v11 => (
      r_iinc (kk := 1) (L2 := [some (.ref 44), some (gv c1), some (gv v11), some (gv (v3 + 1))]) (pc2 := 33) rfl ic_1 rfl rfl rfl (
      r_goto (t := 4) rfl (
      ih v11 (v3 + 1)))))))))))))) (fun _ =>
      jr_leaf ⟨_, rfl, rfl⟩)))))
theorem rf_md_sizeOf {s : gm_S} {n m : Nat} (hs : gm_sh s n m) (d : Nat)  (g : gm_T) (a1 : Int)  : jr (pI s g) (md_sizeOf g a1) (jm_cl jm_CD km_n (d + 1) 253 [.ref 44, gv a1] (gm_h s g)) := by
  unfold md_sizeOf
  exact (r_ent (cd := cd_253) (n := 4) (L0 := [some (.ref 44), some (gv a1), none, none]) rfl rfl rfl rfl (
      r_ic (x := 0) (pc2 := 1) rfl ic_0 rfl (
      r_istore (L2 := [some (.ref 44), some (gv a1), some (gv 0), none]) (pc2 := 2) rfl rfl rfl (
      r_ic (x := 0) (pc2 := 3) rfl ic_0 rfl (
      r_istore (L2 := [some (.ref 44), some (gv a1), some (gv 0), some (gv 0)]) (pc2 := 4) rfl rfl rfl (
      r_b1 (rl_md_sizeOf_l4 hs d  g a1  fz 0 0  ) (fun v13 c h => match c, h with | _, ⟨j14, hj14, rfl⟩ => (
      r_iload (pc2 := 37) rfl rfl rfl (
      r_iret rfl rfl)))))))))
theorem rf_md_undo {s : gm_S} {n m : Nat} (hs : gm_sh s n m) (d : Nat)  (g : gm_T) (a1 : Int)  : jr (eI s) (md_undo g a1) (jm_cl jm_CD km_n (d + 7) 254 [.ref 44, gv a1] (gm_h s g)) := by
  unfold md_undo
  exact (r_ent (cd := cd_254) (n := 4) (L0 := [some (.ref 44), some (gv a1), none, none]) rfl rfl rfl rfl (
      r_aload (pc2 := 1) rfl rfl rfl (
      r_iload (pc2 := 2) rfl rfl rfl (
      r_callVP (pc2 := 5) (args := [.ref 44, gv a1]) (st2 := []) rfl rfl rfl rfl rfl rfl (rc_of (sh_T hs rfl rfl)) (rf_md_isJoin hs (d + 4) g a1 ) fun v1 => (
      jr_g fun h2 => r_ifne (pc2 := 8) (t := 10) rfl h2 rfl (fun _ =>
      r_ic (x := -1) (pc2 := 9) rfl ic_m1 rfl (
      r_iret rfl rfl)) (fun _ =>
      r_aload (pc2 := 11) rfl rfl rfl (
      r_getA (pc2 := 14) rfl rfl (sh_T hs rfl rfl) (sh_A hs rfl rfl) (
      r_iload (pc2 := 15) rfl rfl rfl (
      r_ic (x := 0) (pc2 := 16) rfl ic_0 rfl (
      jr_g fun h4 => r_zast (len := 60) (pc2 := 17) rfl rfl (sh_T hs rfl rfl) (sh_L hs rfl rfl) rfl h4 (by decide) fun g3 => (
      r_aload (pc2 := 18) rfl rfl rfl (
      r_callVV (pc2 := 21) (args := [.ref 44]) (st2 := []) rfl rfl rfl rfl rfl rfl (rc_of (sh_T hs rfl rfl)) (rf_md_groups hs d g3 ) fun g5 => (
      r_aload (pc2 := 22) rfl rfl rfl (
      r_getA (pc2 := 25) rfl rfl (sh_T hs rfl rfl) (sh_A hs rfl rfl) (
      r_aload (pc2 := 26) rfl rfl rfl (
      r_getA (pc2 := 29) rfl rfl (sh_T hs rfl rfl) (sh_A hs rfl rfl) (
      r_iload (pc2 := 30) rfl rfl rfl (
      r_iald (len := 60) (pc2 := 31) rfl rfl (sh_T hs rfl rfl) (sh_L hs rfl rfl) rfl h4 (
      jr_g fun h6 => r_iald (len := 30) (pc2 := 32) rfl rfl (sh_T hs rfl rfl) (sh_L hs rfl rfl) rfl h6 (
      r_istoreL (L3 := fun v7 => [some (.ref 44), some (gv a1), some (gv v7), none]) (pc2 := 33) rfl rfl (fun _ => rfl) fun v7 => (
      r_aload (pc2 := 34) rfl rfl rfl (
      r_getA (pc2 := 37) rfl rfl (sh_T hs rfl rfl) (sh_A hs rfl rfl) (
      r_aload (pc2 := 38) rfl rfl rfl (
      r_getA (pc2 := 41) rfl rfl (sh_T hs rfl rfl) (sh_A hs rfl rfl) (
      r_iload (pc2 := 42) rfl rfl rfl (
      r_iald (len := 60) (pc2 := 43) rfl rfl (sh_T hs rfl rfl) (sh_L hs rfl rfl) rfl h4 (
      jr_g fun h8 => r_iald (len := 30) (pc2 := 44) rfl rfl (sh_T hs rfl rfl) (sh_L hs rfl rfl) rfl h8 (
      r_istoreL (L3 := fun v9 => [some (.ref 44), some (gv a1), some (gv v7), some (gv v9)]) (pc2 := 45) rfl rfl (fun _ => rfl) fun v9 => (
      r_aload (pc2 := 46) rfl rfl rfl (
      r_iload (pc2 := 47) rfl rfl rfl (
      r_callVP (pc2 := 50) (args := [.ref 44, gv v7]) (st2 := []) rfl rfl rfl rfl rfl rfl (rc_of (sh_T hs rfl rfl)) (rf_md_sizeOf hs (d + 5) g5 v7 ) fun v10 => (
      r_iload (pc2 := 51) rfl rfl rfl (
      r_iload (pc2 := 52) rfl rfl rfl (
      jr_g fun h11 => r_cne (pc2 := 55) (t := 59) rfl h11.1 h11.2 rfl (fun _ =>
      r_ic (x := 0) (pc2 := 56) rfl ic_0 rfl (
      r_goto (t := 64) rfl (
      r_iadd (pc2 := 65) rfl rfl (
      r_iret rfl rfl)))) (fun _ =>
      r_aload (pc2 := 60) rfl rfl rfl (
      r_iload (pc2 := 61) rfl rfl rfl (
      r_callVP (pc2 := 64) (args := [.ref 44, gv v9]) (st2 := [gv v10]) rfl rfl rfl rfl rfl rfl (rc_of (sh_T hs rfl rfl)) (rf_md_sizeOf hs (d + 5) g5 v9 ) fun v12 => (
      r_iadd (pc2 := 65) rfl rfl (
      r_iret rfl rfl)))))))))))))))))))))))))))))))))))))))
theorem rf_md_isBestNow {s : gm_S} {n m : Nat} (hs : gm_sh s n m) (d : Nat)  (g : gm_T) (a1 : Int)  : jr (eI s) (md_isBestNow g a1) (jm_cl jm_CD km_n (d + 6) 255 [.ref 44, gv a1] (gm_h s g)) := by
  unfold md_isBestNow
  exact (r_ent (cd := cd_255) (n := 2) (L0 := [some (.ref 44), some (gv a1)]) rfl rfl rfl rfl (
      r_aload (pc2 := 1) rfl rfl rfl (
      r_aload (pc2 := 2) rfl rfl rfl (
      r_getA (pc2 := 5) rfl rfl (sh_T hs rfl rfl) (sh_A hs rfl rfl) (
      r_iload (pc2 := 6) rfl rfl rfl (
      jr_g fun h1 => r_iald (len := 60) (pc2 := 7) rfl rfl (sh_T hs rfl rfl) (sh_L hs rfl rfl) rfl h1 (
      r_aload (pc2 := 8) rfl rfl rfl (
      r_getA (pc2 := 11) rfl rfl (sh_T hs rfl rfl) (sh_A hs rfl rfl) (
      r_iload (pc2 := 12) rfl rfl rfl (
      r_iald (len := 60) (pc2 := 13) rfl rfl (sh_T hs rfl rfl) (sh_L hs rfl rfl) rfl h1 (
      r_aload (pc2 := 14) rfl rfl rfl (
      r_getA (pc2 := 17) rfl rfl (sh_T hs rfl rfl) (sh_A hs rfl rfl) (
      r_iload (pc2 := 18) rfl rfl rfl (
      r_iald (len := 60) (pc2 := 19) rfl rfl (sh_T hs rfl rfl) (sh_L hs rfl rfl) rfl h1 (
      r_aload (pc2 := 20) rfl rfl rfl (
      r_getA (pc2 := 23) rfl rfl (sh_T hs rfl rfl) (sh_A hs rfl rfl) (
      r_iload (pc2 := 24) rfl rfl rfl (
      r_iald (len := 60) (pc2 := 25) rfl rfl (sh_T hs rfl rfl) (sh_L hs rfl rfl) rfl h1 (
      r_callVP (pc2 := 28) (args := [.ref 44, gv (gm_I g 65 a1.toNat), gv (gm_I g 66 a1.toNat), gv (gm_I g 67 a1.toNat), gv (gm_I g 68 a1.toNat)]) (st2 := []) rfl rfl rfl rfl rfl rfl (rc_of (sh_T hs rfl rfl)) (rf_md_isFit hs (d + 3) g (gm_I g 65 a1.toNat) (gm_I g 66 a1.toNat) (gm_I g 67 a1.toNat) (gm_I g 68 a1.toNat) ) fun v2 => (
      jr_g fun h3 => r_ifeq (pc2 := 31) (t := 68) rfl h3 rfl (fun _ =>
      r_ic (x := 0) (pc2 := 69) rfl ic_0 rfl (
      r_zret rfl (by decide) rfl)) (fun _ =>
      r_aload (pc2 := 32) rfl rfl rfl (
      r_aload (pc2 := 33) rfl rfl rfl (
      r_getA (pc2 := 36) rfl rfl (sh_T hs rfl rfl) (sh_A hs rfl rfl) (
      r_iload (pc2 := 37) rfl rfl rfl (
      r_iald (len := 60) (pc2 := 38) rfl rfl (sh_T hs rfl rfl) (sh_L hs rfl rfl) rfl h1 (
      r_aload (pc2 := 39) rfl rfl rfl (
      r_getA (pc2 := 42) rfl rfl (sh_T hs rfl rfl) (sh_A hs rfl rfl) (
      r_iload (pc2 := 43) rfl rfl rfl (
      r_iald (len := 60) (pc2 := 44) rfl rfl (sh_T hs rfl rfl) (sh_L hs rfl rfl) rfl h1 (
      r_aload (pc2 := 45) rfl rfl rfl (
      r_getA (pc2 := 48) rfl rfl (sh_T hs rfl rfl) (sh_A hs rfl rfl) (
      r_iload (pc2 := 49) rfl rfl rfl (
      r_iald (len := 60) (pc2 := 50) rfl rfl (sh_T hs rfl rfl) (sh_L hs rfl rfl) rfl h1 (
      r_aload (pc2 := 51) rfl rfl rfl (
      r_getA (pc2 := 54) rfl rfl (sh_T hs rfl rfl) (sh_A hs rfl rfl) (
      r_iload (pc2 := 55) rfl rfl rfl (
      r_iald (len := 60) (pc2 := 56) rfl rfl (sh_T hs rfl rfl) (sh_L hs rfl rfl) rfl h1 (
      r_callVI (pc2 := 59) (args := [.ref 44, gv (gm_I g 65 a1.toNat), gv (gm_I g 66 a1.toNat), gv (gm_I g 67 a1.toNat), gv (gm_I g 68 a1.toNat)]) (st2 := []) rfl rfl rfl rfl rfl rfl (rc_of (sh_T hs rfl rfl)) (rf_md_rivalOf hs d g (gm_I g 65 a1.toNat) (gm_I g 66 a1.toNat) (gm_I g 67 a1.toNat) (gm_I g 68 a1.toNat) ) fun v4 g5 => (
      r_ic (x := -5) (pc2 := 61) rfl ic_m5 rfl (
      jr_g fun h6 => r_cne (pc2 := 64) (t := 68) rfl h6 (rgk rfl) rfl (fun _ =>
      r_ic (x := 1) (pc2 := 65) rfl ic_1 rfl (
      r_goto (t := 69) rfl (
      r_zret rfl (by decide) rfl))) (fun _ =>
      r_ic (x := 0) (pc2 := 69) rfl ic_0 rfl (
      r_zret rfl (by decide) rfl))))))))))))))))))))))))))))))))))))))))))
theorem rf_md_joined {s : gm_S} {n m : Nat} (hs : gm_sh s n m) (d : Nat)  (g : gm_T) (a1 : Int) (a2 : Int)  : jr (eI s) (md_joined g a1 a2) (jm_cl jm_CD km_n (d + 7) 256 [.ref 44, gv a1, gv a2] (gm_h s g)) := by
  unfold md_joined
  exact (r_ent (cd := cd_256) (n := 3) (L0 := [some (.ref 44), some (gv a1), some (gv a2)]) rfl rfl rfl rfl (
      r_aload (pc2 := 1) rfl rfl rfl (
      r_iload (pc2 := 2) rfl rfl rfl (
      r_callVP (pc2 := 5) (args := [.ref 44, gv a1]) (st2 := []) rfl rfl rfl rfl rfl rfl (rc_of (sh_T hs rfl rfl)) (rf_md_isJoin hs (d + 4) g a1 ) fun v1 => (
      jr_g fun h2 => r_ifne (pc2 := 8) (t := 10) rfl h2 rfl (fun _ =>
      r_ic (x := -1) (pc2 := 9) rfl ic_m1 rfl (
      r_iret rfl rfl)) (fun _ =>
      r_iload (pc2 := 11) rfl rfl rfl (
      jr_g fun h3 => (jr_ite (fun h4 => r_sw (pc2 := 44) rfl (sw_yes ic_0 h4) (
      r_aload (pc2 := 45) rfl rfl rfl (
      r_getA (pc2 := 48) rfl rfl (sh_T hs rfl rfl) (sh_A hs rfl rfl) (
      r_iload (pc2 := 49) rfl rfl rfl (
      jr_g fun h15 => r_iald (len := 60) (pc2 := 50) rfl rfl (sh_T hs rfl rfl) (sh_L hs rfl rfl) rfl h15 (
      r_iret rfl rfl)))))) (fun h4 =>
      jr_ite (fun h5 => r_sw (pc2 := 51) rfl (sw_no ic_0 h3 (rgk rfl) h4 (sw_yes ic_1 h5)) (
      r_aload (pc2 := 52) rfl rfl rfl (
      r_getA (pc2 := 55) rfl rfl (sh_T hs rfl rfl) (sh_A hs rfl rfl) (
      r_iload (pc2 := 56) rfl rfl rfl (
      jr_g fun h14 => r_iald (len := 60) (pc2 := 57) rfl rfl (sh_T hs rfl rfl) (sh_L hs rfl rfl) rfl h14 (
      r_iret rfl rfl)))))) (fun h5 =>
      jr_ite (fun h6 => r_sw (pc2 := 58) rfl (sw_no ic_0 h3 (rgk rfl) h4 (sw_no ic_1 h3 (rgk rfl) h5 (sw_yes ic_2 h6))) (
      r_aload (pc2 := 59) rfl rfl rfl (
      r_getA (pc2 := 62) rfl rfl (sh_T hs rfl rfl) (sh_A hs rfl rfl) (
      r_iload (pc2 := 63) rfl rfl rfl (
      jr_g fun h13 => r_iald (len := 60) (pc2 := 64) rfl rfl (sh_T hs rfl rfl) (sh_L hs rfl rfl) rfl h13 (
      r_iret rfl rfl)))))) (fun h6 =>
      jr_ite (fun h7 => r_sw (pc2 := 65) rfl (sw_no ic_0 h3 (rgk rfl) h4 (sw_no ic_1 h3 (rgk rfl) h5 (sw_no ic_2 h3 (rgk rfl) h6 (sw_yes ic_3 h7)))) (
      r_aload (pc2 := 66) rfl rfl rfl (
      r_getA (pc2 := 69) rfl rfl (sh_T hs rfl rfl) (sh_A hs rfl rfl) (
      r_iload (pc2 := 70) rfl rfl rfl (
      jr_g fun h12 => r_iald (len := 60) (pc2 := 71) rfl rfl (sh_T hs rfl rfl) (sh_L hs rfl rfl) rfl h12 (
      r_iret rfl rfl)))))) (fun h7 =>
      jr_ite (fun h8 => r_sw (pc2 := 72) rfl (sw_no ic_0 h3 (rgk rfl) h4 (sw_no ic_1 h3 (rgk rfl) h5 (sw_no ic_2 h3 (rgk rfl) h6 (sw_no ic_3 h3 (rgk rfl) h7 (sw_yes ic_4 h8))))) (
      r_aload (pc2 := 73) rfl rfl rfl (
      r_iload (pc2 := 74) rfl rfl rfl (
      r_callVI (pc2 := 77) (args := [.ref 44, gv a1]) (st2 := []) rfl rfl rfl rfl rfl rfl (rc_of (sh_T hs rfl rfl)) (rf_md_isBestNow hs d g a1 ) fun v9 g10 => (
      jr_g fun h11 => r_ifeq (pc2 := 80) (t := 84) rfl h11 rfl (fun _ =>
      r_ic (x := 0) (pc2 := 85) rfl ic_0 rfl (
      r_iret rfl rfl)) (fun _ =>
      r_ic (x := 1) (pc2 := 81) rfl ic_1 rfl (
      r_goto (t := 85) rfl (
      r_iret rfl rfl)))))))) (fun h8 =>
      r_sw (pc2 := 86) rfl (sw_no ic_0 h3 (rgk rfl) h4 (sw_no ic_1 h3 (rgk rfl) h5 (sw_no ic_2 h3 (rgk rfl) h6 (sw_no ic_3 h3 (rgk rfl) h7 (sw_no ic_4 h3 (rgk rfl) h8 rfl))))) (
      r_ic (x := -1) (pc2 := 87) rfl ic_m1 rfl (
      r_iret rfl rfl)))))))))))))))
theorem rl_md_joinsIn_l4 {s : gm_S} {n m : Nat} (hs : gm_sh s n m) (d : Nat)  (g : gm_T) (c1 : Int)  : ∀ (fuel : Nat) (v2 : Int) (v3 : Int), jr (fun (q : Int) (c : Option jm_R) => ∃ (j5 : Option Value), jm_lg j5 = false ∧ c = jm_sup cd_257 (jm_cl jm_CD km_n d) (50, [some (.ref 44), some (gv c1), some (gv q), j5], [], gm_h s g)) (md_joinsIn_l4 g c1 fuel v2 v3) (jm_sup cd_257 (jm_cl jm_CD km_n d) (4, [some (.ref 44), some (gv c1), some (gv v2), some (gv v3)], [], gm_h s g)) := by
  intro fuel
  induction fuel with
  | zero => intros; exact jr_none
  | succ fuel ih =>
    intro v2 v3  
    unfold md_joinsIn_l4
    exact (
      r_iload (pc2 := 5) rfl rfl rfl (
      r_aload (pc2 := 6) rfl rfl rfl (
      r_getI (pc2 := 9) rfl rfl (sh_T hs rfl rfl) (
      jr_g fun h6 => r_cge (pc2 := 12) (t := 50) rfl h6.1 h6.2 rfl (fun _ =>
      r_iload (pc2 := 13) rfl rfl rfl (
      r_aload (pc2 := 14) rfl rfl rfl (
      r_getA (pc2 := 17) rfl rfl (sh_T hs rfl rfl) (sh_A hs rfl rfl) (
      r_iload (pc2 := 18) rfl rfl rfl (
      jr_g fun h7 => r_iald (len := 60) (pc2 := 19) rfl rfl (sh_T hs rfl rfl) (sh_L hs rfl rfl) rfl h7 (
      jr_g fun h8 => r_ifeq (pc2 := 22) (t := 41) rfl h8 rfl (fun _ =>
      r_ic (x := 0) (pc2 := 42) rfl ic_0 rfl (
      r_iadd (pc2 := 43) rfl rfl (
      r_istoreL (L3 := fun v9 => [some (.ref 44), some (gv c1), some (gv v9), some (gv v3)]) (pc2 := 44) rfl rfl (fun _ => rfl) fun v9 => (
      r_iinc (kk := 1) (L2 := [some (.ref 44), some (gv c1), some (gv v9), some (gv (v3 + 1))]) (pc2 := 47) rfl ic_1 rfl rfl rfl (
      r_goto (t := 4) rfl (
      ih v9 (v3 + 1))))))) (fun _ =>
      r_aload (pc2 := 23) rfl rfl rfl (
      r_getA (pc2 := 26) rfl rfl (sh_T hs rfl rfl) (sh_A hs rfl rfl) (
      r_aload (pc2 := 27) rfl rfl rfl (
      r_getA (pc2 := 30) rfl rfl (sh_T hs rfl rfl) (sh_A hs rfl rfl) (
      r_iload (pc2 := 31) rfl rfl rfl (
      r_iald (len := 60) (pc2 := 32) rfl rfl (sh_T hs rfl rfl) (sh_L hs rfl rfl) rfl h7 (
      jr_g fun h11 => r_iald (len := 30) (pc2 := 33) rfl rfl (sh_T hs rfl rfl) (sh_L hs rfl rfl) rfl h11 (
      r_iload (pc2 := 34) rfl rfl rfl (
      jr_g fun h12 => r_cne (pc2 := 37) (t := 41) rfl h12.1 h12.2 rfl (fun _ =>
      r_ic (x := 1) (pc2 := 38) rfl ic_1 rfl (
      r_goto (t := 42) rfl (
      r_iadd (pc2 := 43) rfl rfl (
      r_istoreL (L3 := fun v13 => [some (.ref 44), some (gv c1), some (gv v13), some (gv v3)]) (pc2 := 44) rfl rfl (fun _ => rfl) fun v13 => (
      r_iinc (kk := 1) (L2 := [some (.ref 44), some (gv c1), some (gv v13), some (gv (v3 + 1))]) (pc2 := 47) rfl ic_1 rfl rfl rfl (
      r_goto (t := 4) rfl (
      ih v13 (v3 + 1)))))))) (fun _ =>
      r_ic (x := 0) (pc2 := 42) rfl ic_0 rfl (
      r_iadd (pc2 := 43) rfl rfl (
      r_istoreL (L3 := fun v15 => [some (.ref 44), some (gv c1), some (gv v15), some (gv v3)]) (pc2 := 44) rfl rfl (fun _ => rfl) fun v15 => (
      r_iinc (kk := 1) (L2 := [some (.ref 44), some (gv c1), some (gv v15), some (gv (v3 + 1))]) (pc2 := 47) rfl ic_1 rfl rfl rfl (
      r_goto (t := 4) rfl (
      ih v15 (v3 + 1)))))))))))))))))))))) (fun _ =>
      jr_leaf ⟨_, rfl, rfl⟩)))))
theorem rf_md_joinsIn {s : gm_S} {n m : Nat} (hs : gm_sh s n m) (d : Nat)  (g : gm_T) (a1 : Int)  : jr (pI s g) (md_joinsIn g a1) (jm_cl jm_CD km_n (d + 1) 257 [.ref 44, gv a1] (gm_h s g)) := by
  unfold md_joinsIn
  exact (r_ent (cd := cd_257) (n := 4) (L0 := [some (.ref 44), some (gv a1), none, none]) rfl rfl rfl rfl (
      r_ic (x := 0) (pc2 := 1) rfl ic_0 rfl (
      r_istore (L2 := [some (.ref 44), some (gv a1), some (gv 0), none]) (pc2 := 2) rfl rfl rfl (
      r_ic (x := 0) (pc2 := 3) rfl ic_0 rfl (
      r_istore (L2 := [some (.ref 44), some (gv a1), some (gv 0), some (gv 0)]) (pc2 := 4) rfl rfl rfl (
      r_b1 (rl_md_joinsIn_l4 hs d  g a1  fz 0 0  ) (fun v17 c h => match c, h with | _, ⟨j18, hj18, rfl⟩ => (
      r_iload (pc2 := 51) rfl rfl rfl (
      r_iret rfl rfl)))))))))
theorem rf_md_group {s : gm_S} {n m : Nat} (hs : gm_sh s n m) (d : Nat)  (g : gm_T) (a1 : Int) (a2 : Int)  : jr (eI s) (md_group g a1 a2) (jm_cl jm_CD km_n (d + 7) 258 [.ref 44, gv a1, gv a2] (gm_h s g)) := by
  unfold md_group
  exact (r_ent (cd := cd_258) (n := 3) (L0 := [some (.ref 44), some (gv a1), some (gv a2)]) rfl rfl rfl rfl (
      r_aload (pc2 := 1) rfl rfl rfl (
      r_iload (pc2 := 2) rfl rfl rfl (
      r_callVP (pc2 := 5) (args := [.ref 44, gv a1]) (st2 := []) rfl rfl rfl rfl rfl rfl (rc_of (sh_T hs rfl rfl)) (rf_md_isBit hs (d + 4) g a1 ) fun v1 => (
      jr_g fun h2 => r_ifne (pc2 := 8) (t := 10) rfl h2 rfl (fun _ =>
      r_ic (x := -1) (pc2 := 9) rfl ic_m1 rfl (
      r_iret rfl rfl)) (fun _ =>
      r_aload (pc2 := 11) rfl rfl rfl (
      r_callVV (pc2 := 14) (args := [.ref 44]) (st2 := []) rfl rfl rfl rfl rfl rfl (rc_of (sh_T hs rfl rfl)) (rf_md_groups hs d g ) fun g3 => (
      r_iload (pc2 := 15) rfl rfl rfl (
      jr_g fun h4 => r_ifne (pc2 := 18) (t := 27) rfl h4 rfl (fun _ =>
      r_aload (pc2 := 19) rfl rfl rfl (
      r_getA (pc2 := 22) rfl rfl (sh_T hs rfl rfl) (sh_A hs rfl rfl) (
      r_iload (pc2 := 23) rfl rfl rfl (
      jr_g fun h5 => r_iald (len := 30) (pc2 := 24) rfl rfl (sh_T hs rfl rfl) (sh_L hs rfl rfl) rfl h5 (
      r_goto (t := 64) rfl (
      r_iret rfl rfl)))))) (fun _ =>
      r_iload (pc2 := 28) rfl rfl rfl (
      r_ic (x := 1) (pc2 := 29) rfl ic_1 rfl (
      r_cne (pc2 := 32) (t := 45) rfl h4 (rgk rfl) rfl (fun _ =>
      r_aload (pc2 := 33) rfl rfl rfl (
      r_aload (pc2 := 34) rfl rfl rfl (
      r_getA (pc2 := 37) rfl rfl (sh_T hs rfl rfl) (sh_A hs rfl rfl) (
      r_iload (pc2 := 38) rfl rfl rfl (
      jr_g fun h6 => r_iald (len := 30) (pc2 := 39) rfl rfl (sh_T hs rfl rfl) (sh_L hs rfl rfl) rfl h6 (
      r_callVP (pc2 := 42) (args := [.ref 44, gv (gm_I g3 78 a1.toNat)]) (st2 := []) rfl rfl rfl rfl rfl rfl (rc_of (sh_T hs rfl rfl)) (rf_md_sizeOf hs (d + 5) g3 (gm_I g3 78 a1.toNat) ) fun v7 => (
      r_goto (t := 64) rfl (
      r_iret rfl rfl)))))))) (fun _ =>
      r_iload (pc2 := 46) rfl rfl rfl (
      r_ic (x := 2) (pc2 := 47) rfl ic_2 rfl (
      r_cne (pc2 := 50) (t := 63) rfl h4 (rgk rfl) rfl (fun _ =>
      r_aload (pc2 := 51) rfl rfl rfl (
      r_aload (pc2 := 52) rfl rfl rfl (
      r_getA (pc2 := 55) rfl rfl (sh_T hs rfl rfl) (sh_A hs rfl rfl) (
      r_iload (pc2 := 56) rfl rfl rfl (
      jr_g fun h8 => r_iald (len := 30) (pc2 := 57) rfl rfl (sh_T hs rfl rfl) (sh_L hs rfl rfl) rfl h8 (
      r_callVP (pc2 := 60) (args := [.ref 44, gv (gm_I g3 78 a1.toNat)]) (st2 := []) rfl rfl rfl rfl rfl rfl (rc_of (sh_T hs rfl rfl)) (rf_md_joinsIn hs (d + 5) g3 (gm_I g3 78 a1.toNat) ) fun v9 => (
      r_goto (t := 64) rfl (
      r_iret rfl rfl)))))))) (fun _ =>
      r_ic (x := -1) (pc2 := 64) rfl ic_m1 rfl (
      r_iret rfl rfl)))))))))))))))))
theorem rf_md_clash {s : gm_S} {n m : Nat} (hs : gm_sh s n m) (d : Nat)  (g : gm_T) (a1 : Int)  : jr (pI s g) (md_clash g a1) (jm_cl jm_CD km_n (d + 2) 259 [.ref 44, gv a1] (gm_h s g)) := by
  unfold md_clash
  exact (r_ent (cd := cd_259) (n := 2) (L0 := [some (.ref 44), some (gv a1)]) rfl rfl rfl rfl (
      r_aload (pc2 := 1) rfl rfl rfl (
      r_getI (pc2 := 4) rfl rfl (sh_T hs rfl rfl) (
      jr_g fun h1 => r_ifne (pc2 := 7) (t := 9) rfl h1 rfl (fun _ =>
      r_ic (x := -1) (pc2 := 8) rfl ic_m1 rfl (
      r_iret rfl rfl)) (fun _ =>
      r_iload (pc2 := 10) rfl rfl rfl (
      jr_g fun h2 => (jr_ite (fun h6 => r_sw (pc2 := 40) rfl (sw_yes ic_0 h6) (
      r_aload (pc2 := 41) rfl rfl rfl (
      r_getI (pc2 := 44) rfl rfl (sh_T hs rfl rfl) (
      r_iret rfl rfl)))) (fun h6 =>
      jr_ite (fun h7 => r_sw (pc2 := 45) rfl (sw_no ic_0 h2 (rgk rfl) h6 (sw_yes ic_1 h7)) (
      r_aload (pc2 := 46) rfl rfl rfl (
      r_getI (pc2 := 49) rfl rfl (sh_T hs rfl rfl) (
      r_iret rfl rfl)))) (fun h7 =>
      jr_ite (fun h8 => r_sw (pc2 := 50) rfl (sw_no ic_0 h2 (rgk rfl) h6 (sw_no ic_1 h2 (rgk rfl) h7 (sw_yes ic_2 h8))) (
      r_aload (pc2 := 51) rfl rfl rfl (
      r_getI (pc2 := 54) rfl rfl (sh_T hs rfl rfl) (
      r_iret rfl rfl)))) (fun h8 =>
      jr_ite (fun h9 => r_sw (pc2 := 55) rfl (sw_no ic_0 h2 (rgk rfl) h6 (sw_no ic_1 h2 (rgk rfl) h7 (sw_no ic_2 h2 (rgk rfl) h8 (sw_yes ic_3 h9)))) (
      r_aload (pc2 := 56) rfl rfl rfl (
      r_getI (pc2 := 59) rfl rfl (sh_T hs rfl rfl) (
      r_iret rfl rfl)))) (fun h9 =>
      r_sw (pc2 := 60) rfl (sw_no ic_0 h2 (rgk rfl) h6 (sw_no ic_1 h2 (rgk rfl) h7 (sw_no ic_2 h2 (rgk rfl) h8 (sw_no ic_3 h2 (rgk rfl) h9 rfl)))) (
      r_iload (pc2 := 61) rfl rfl rfl (
      r_ic (x := 10) (pc2 := 63) rfl ic_10 rfl (
      r_isubN (pc2 := 64) rfl rfl (
      r_ic (x := 0) (pc2 := 65) rfl ic_0 rfl (
      r_aload (pc2 := 66) rfl rfl rfl (
      r_getI (pc2 := 69) rfl rfl (sh_T hs rfl rfl) (
      r_ic (x := 1) (pc2 := 70) rfl ic_1 rfl (
      r_isubN (pc2 := 71) rfl rfl (
      r_callSP (pc2 := 74) (args := [gv (nm (a1 - 10)), gv 0, gv (nm ((gm_I g 44 36) - 1))]) (st2 := []) rfl rfl rfl rfl rfl rfl (rf_md_in hs d g (nm (a1 - 10)) 0 (nm ((gm_I g 44 36) - 1)) ) fun v3 => (
      jr_g fun h4 => r_ifeq (pc2 := 77) (t := 89) rfl h4 rfl (fun _ =>
      r_ic (x := -1) (pc2 := 90) rfl ic_m1 rfl (
      r_iret rfl rfl)) (fun _ =>
      r_aload (pc2 := 78) rfl rfl rfl (
      r_getA (pc2 := 81) rfl rfl (sh_T hs rfl rfl) (sh_A hs rfl rfl) (
      r_iload (pc2 := 82) rfl rfl rfl (
      r_ic (x := 10) (pc2 := 84) rfl ic_10 rfl (
      r_isubN (pc2 := 85) rfl rfl (
      jr_g fun h5 => r_iald (len := 60) (pc2 := 86) rfl rfl (sh_T hs rfl rfl) (sh_L hs rfl rfl) rfl h5 (
      r_goto (t := 90) rfl (
      r_iret rfl rfl)))))))))))))))))))))))))))))
theorem rf_md_isPlace {s : gm_S} {n m : Nat} (hs : gm_sh s n m) (d : Nat)  (g : gm_T) (a0 : Int) (a1 : Int) (a2 : Int)  : jr (pI s g) (md_isPlace g a0 a1 a2) (jm_cl jm_CD km_n (d + 2) 260 [gv a0, gv a1, gv a2] (gm_h s g)) := by
  unfold md_isPlace
  exact (r_ent (cd := cd_260) (n := 3) (L0 := [some (gv a0), some (gv a1), some (gv a2)]) rfl rfl rfl rfl (
      r_iload (pc2 := 1) rfl rfl rfl (
      r_ic (x := 0) (pc2 := 2) rfl ic_0 rfl (
      r_ic (x := 3) (pc2 := 3) rfl ic_3 rfl (
      r_callSP (pc2 := 6) (args := [gv a0, gv 0, gv 3]) (st2 := []) rfl rfl rfl rfl rfl rfl (rf_md_in hs d g a0 0 3 ) fun v1 => (
      jr_g fun h2 => r_ifeq (pc2 := 9) (t := 39) rfl h2 rfl (fun _ =>
      r_ic (x := 0) (pc2 := 40) rfl ic_0 rfl (
      r_zret rfl (by decide) rfl)) (fun _ =>
      r_iload (pc2 := 10) rfl rfl rfl (
      r_ic (x := -500) (pc2 := 13) rfl ic_m500 rfl (
      r_ic (x := 500) (pc2 := 16) rfl ic_500 rfl (
      r_callSP (pc2 := 19) (args := [gv a1, gv (-500), gv 500]) (st2 := []) rfl rfl rfl rfl rfl rfl (rf_md_in hs d g a1 (-500) 500 ) fun v3 => (
      jr_g fun h4 => r_ifeq (pc2 := 22) (t := 39) rfl h4 rfl (fun _ =>
      r_ic (x := 0) (pc2 := 40) rfl ic_0 rfl (
      r_zret rfl (by decide) rfl)) (fun _ =>
      r_iload (pc2 := 23) rfl rfl rfl (
      r_ic (x := -500) (pc2 := 26) rfl ic_m500 rfl (
      r_ic (x := 500) (pc2 := 29) rfl ic_500 rfl (
      r_callSP (pc2 := 32) (args := [gv a2, gv (-500), gv 500]) (st2 := []) rfl rfl rfl rfl rfl rfl (rf_md_in hs d g a2 (-500) 500 ) fun v5 => (
      jr_g fun h6 => r_ifeq (pc2 := 35) (t := 39) rfl h6 rfl (fun _ =>
      r_ic (x := 0) (pc2 := 40) rfl ic_0 rfl (
      r_zret rfl (by decide) rfl)) (fun _ =>
      r_ic (x := 1) (pc2 := 36) rfl ic_1 rfl (
      r_goto (t := 40) rfl (
      r_zret rfl (by decide) rfl)))))))))))))))))))
theorem rf_md_stays {s : gm_S} {n m : Nat} (hs : gm_sh s n m) (d : Nat)  (g : gm_T) (a1 : Int) (a2 : Int) (a3 : Int) (a4 : Int)  : jr (eV s) (md_stays g a1 a2 a3 a4) (jm_cl jm_CD km_n (d + 1) 261 [.ref 44, gv a1, gv a2, gv a3, gv a4] (gm_h s g)) := by
  unfold md_stays
  exact (r_ent (cd := cd_261) (n := 5) (L0 := [some (.ref 44), some (gv a1), some (gv a2), some (gv a3), some (gv a4)]) rfl rfl rfl rfl (
      r_aload (pc2 := 1) rfl rfl rfl (
      r_getA (pc2 := 4) rfl rfl (sh_T hs rfl rfl) (sh_A hs rfl rfl) (
      r_iload (pc2 := 5) rfl rfl rfl (
      r_iload (pc2 := 6) rfl rfl rfl (
      jr_g fun h2 => r_iast (len := 30) (pc2 := 7) rfl rfl (sh_T hs rfl rfl) (sh_L hs rfl rfl) rfl h2 fun g1 => (
      r_aload (pc2 := 8) rfl rfl rfl (
      r_getA (pc2 := 11) rfl rfl (sh_T hs rfl rfl) (sh_A hs rfl rfl) (
      r_iload (pc2 := 12) rfl rfl rfl (
      r_iload (pc2 := 13) rfl rfl rfl (
      r_iast (len := 30) (pc2 := 14) rfl rfl (sh_T hs rfl rfl) (sh_L hs rfl rfl) rfl h2 fun g3 => (
      r_aload (pc2 := 15) rfl rfl rfl (
      r_getA (pc2 := 18) rfl rfl (sh_T hs rfl rfl) (sh_A hs rfl rfl) (
      r_iload (pc2 := 19) rfl rfl rfl (
      r_iload (pc2 := 21) rfl rfl rfl (
      r_iast (len := 30) (pc2 := 22) rfl rfl (sh_T hs rfl rfl) (sh_L hs rfl rfl) rfl h2 fun g4 => (
      r_vret rfl rfl)))))))))))))))))
theorem rl_md_putsNone_l2 {s : gm_S} {n m : Nat} (hs : gm_sh s n m) (d : Nat)  (c1 : Int)  : ∀ (fuel : Nat) (v2 : Int) (g3 : gm_T), jr (fun (q : gm_T) (c : Option jm_R) => ∃ (j4 : Option Value), jm_lg j4 = false ∧ c = jm_sup cd_262 (jm_cl jm_CD km_n d) (46, [some (.ref 44), some (gv c1), j4], [], gm_h s q)) (md_putsNone_l2  c1 fuel v2 g3) (jm_sup cd_262 (jm_cl jm_CD km_n d) (2, [some (.ref 44), some (gv c1), some (gv v2)], [], gm_h s g3)) := by
  intro fuel
  induction fuel with
  | zero => intros; exact jr_none
  | succ fuel ih =>
    intro v2 g3  
    unfold md_putsNone_l2
    exact (
      r_iload (pc2 := 3) rfl rfl rfl (
      r_aload (pc2 := 4) rfl rfl rfl (
      r_getI (pc2 := 7) rfl rfl (sh_T hs rfl rfl) (
      jr_g fun h6 => r_cge (pc2 := 10) (t := 46) rfl h6.1 h6.2 rfl (fun _ =>
      r_aload (pc2 := 11) rfl rfl rfl (
      r_getA (pc2 := 14) rfl rfl (sh_T hs rfl rfl) (sh_A hs rfl rfl) (
      r_iload (pc2 := 15) rfl rfl rfl (
      r_aload (pc2 := 16) rfl rfl rfl (
      r_getA (pc2 := 19) rfl rfl (sh_T hs rfl rfl) (sh_A hs rfl rfl) (
      r_iload (pc2 := 20) rfl rfl rfl (
      jr_g fun h7 => r_iald (len := 30) (pc2 := 21) rfl rfl (sh_T hs rfl rfl) (sh_L hs rfl rfl) rfl h7 (
      jr_g fun h8 => r_ifeq (pc2 := 24) (t := 38) rfl h8 rfl (fun _ =>
      r_ic (x := 0) (pc2 := 39) rfl ic_0 rfl (
      r_zast (len := 30) (pc2 := 40) rfl rfl (sh_T hs rfl rfl) (sh_L hs rfl rfl) rfl h7 (by decide) fun g9 => (
      r_iinc (kk := 1) (L2 := [some (.ref 44), some (gv c1), some (gv (v2 + 1))]) (pc2 := 43) rfl ic_1 rfl rfl rfl (
      r_goto (t := 2) rfl (
      ih (v2 + 1) g9))))) (fun _ =>
      r_aload (pc2 := 25) rfl rfl rfl (
      r_getA (pc2 := 28) rfl rfl (sh_T hs rfl rfl) (sh_A hs rfl rfl) (
      r_iload (pc2 := 29) rfl rfl rfl (
      r_iald (len := 30) (pc2 := 30) rfl rfl (sh_T hs rfl rfl) (sh_L hs rfl rfl) rfl h7 (
      r_iload (pc2 := 31) rfl rfl rfl (
      jr_g fun h11 => r_ceq (pc2 := 34) (t := 38) rfl h11.1 h11.2 rfl (fun _ =>
      r_ic (x := 0) (pc2 := 39) rfl ic_0 rfl (
      r_zast (len := 30) (pc2 := 40) rfl rfl (sh_T hs rfl rfl) (sh_L hs rfl rfl) rfl h7 (by decide) fun g12 => (
      r_iinc (kk := 1) (L2 := [some (.ref 44), some (gv c1), some (gv (v2 + 1))]) (pc2 := 43) rfl ic_1 rfl rfl rfl (
      r_goto (t := 2) rfl (
      ih (v2 + 1) g12))))) (fun _ =>
      r_ic (x := 1) (pc2 := 35) rfl ic_1 rfl (
      r_goto (t := 39) rfl (
      r_zast (len := 30) (pc2 := 40) rfl rfl (sh_T hs rfl rfl) (sh_L hs rfl rfl) rfl h7 (by decide) fun g14 => (
      r_iinc (kk := 1) (L2 := [some (.ref 44), some (gv c1), some (gv (v2 + 1))]) (pc2 := 43) rfl ic_1 rfl rfl rfl (
      r_goto (t := 2) rfl (
      ih (v2 + 1) g14)))))))))))))))))))) (fun _ =>
      jr_leaf ⟨_, rfl, rfl⟩)))))
theorem rf_md_putsNone {s : gm_S} {n m : Nat} (hs : gm_sh s n m) (d : Nat)  (g : gm_T) (a1 : Int)  : jr (eV s) (md_putsNone g a1) (jm_cl jm_CD km_n (d + 1) 262 [.ref 44, gv a1] (gm_h s g)) := by
  unfold md_putsNone
  exact (r_ent (cd := cd_262) (n := 3) (L0 := [some (.ref 44), some (gv a1), none]) rfl rfl rfl rfl (
      r_ic (x := 0) (pc2 := 1) rfl ic_0 rfl (
      r_istore (L2 := [some (.ref 44), some (gv a1), some (gv 0)]) (pc2 := 2) rfl rfl rfl (
      r_b1 (rl_md_putsNone_l2 hs d   a1  fz 0 g  ) (fun g17 c h => match c, h with | _, ⟨j16, hj16, rfl⟩ => (
      r_vret rfl rfl))))))
theorem rl_md_againstPlace_l3 {s : gm_S} {n m : Nat} (hs : gm_sh s n m) (d : Nat)  (c1 : Int) (c2 : Int) (c3 : Int) (c4 : Int)  : ∀ (fuel : Nat) (v5 : Int) (g6 : gm_T), jr (fun (x : (gm_T) ⊕ (Int × gm_T)) (c : Option jm_R) => match x with | .inl q => (∃ (j7 : Option Value), jm_lg j7 = false ∧ c = jm_sup cd_263 (jm_cl jm_CD km_n (d + 6)) (115, [some (.ref 44), some (gv c1), some (gv c2), some (gv c3), some (gv c4), j7], [], gm_h s q)) | .inr r => eI s r c) (md_againstPlace_l3  c1 c2 c3 c4 fuel v5 g6) (jm_sup cd_263 (jm_cl jm_CD km_n (d + 6)) (3, [some (.ref 44), some (gv c1), some (gv c2), some (gv c3), some (gv c4), some (gv v5)], [], gm_h s g6)) := by
  intro fuel
  induction fuel with
  | zero => intros; exact jr_none
  | succ fuel ih =>
    intro v5 g6  
    unfold md_againstPlace_l3
    exact (
      r_iload (pc2 := 5) rfl rfl rfl (
      r_aload (pc2 := 6) rfl rfl rfl (
      r_getI (pc2 := 9) rfl rfl (sh_T hs rfl rfl) (
      jr_g fun h9 => r_cge (pc2 := 12) (t := 115) rfl h9.1 h9.2 rfl (fun _ =>
      r_iload (pc2 := 14) rfl rfl rfl (
      r_iload (pc2 := 15) rfl rfl rfl (
      jr_g fun h10 => r_ceq (pc2 := 18) (t := 109) rfl h9.1 h10 rfl (fun _ =>
      r_iinc (kk := 1) (L2 := [some (.ref 44), some (gv c1), some (gv c2), some (gv c3), some (gv c4), some (gv (v5 + 1))]) (pc2 := 112) rfl ic_1 rfl rfl rfl (
      r_goto (t := 3) rfl (
      ih (v5 + 1) g6))) (fun _ =>
      r_aload (pc2 := 19) rfl rfl rfl (
      r_getA (pc2 := 22) rfl rfl (sh_T hs rfl rfl) (sh_A hs rfl rfl) (
      r_iload (pc2 := 24) rfl rfl rfl (
      jr_g fun h12 => r_iald (len := 30) (pc2 := 25) rfl rfl (sh_T hs rfl rfl) (sh_L hs rfl rfl) rfl h12 (
      r_aload (pc2 := 26) rfl rfl rfl (
      r_getA (pc2 := 29) rfl rfl (sh_T hs rfl rfl) (sh_A hs rfl rfl) (
      r_iload (pc2 := 30) rfl rfl rfl (
      jr_g fun h13 => r_iald (len := 30) (pc2 := 31) rfl rfl (sh_T hs rfl rfl) (sh_L hs rfl rfl) rfl h13 (
      jr_g fun h14 => r_cne (pc2 := 34) (t := 109) rfl h14.1 h14.2 rfl (fun _ =>
      r_aload (pc2 := 35) rfl rfl rfl (
      r_getA (pc2 := 38) rfl rfl (sh_T hs rfl rfl) (sh_A hs rfl rfl) (
      r_iload (pc2 := 40) rfl rfl rfl (
      r_iald (len := 30) (pc2 := 41) rfl rfl (sh_T hs rfl rfl) (sh_L hs rfl rfl) rfl h12 (
      jr_g fun h15 => r_ifeq (pc2 := 44) (t := 109) rfl h15 rfl (fun _ =>
      r_iinc (kk := 1) (L2 := [some (.ref 44), some (gv c1), some (gv c2), some (gv c3), some (gv c4), some (gv (v5 + 1))]) (pc2 := 112) rfl ic_1 rfl rfl rfl (
      r_goto (t := 3) rfl (
      ih (v5 + 1) g6))) (fun _ =>
      r_aload (pc2 := 45) rfl rfl rfl (
      r_iload (pc2 := 46) rfl rfl rfl (
      r_iload (pc2 := 47) rfl rfl rfl (
      r_iload (pc2 := 49) rfl rfl rfl (
      r_callVV (pc2 := 52) (args := [.ref 44, gv c2, gv c3, gv c4]) (st2 := []) rfl rfl rfl rfl rfl rfl (rc_of (sh_T hs rfl rfl)) (rf_md_holds hs (d + 5) g6 c2 c3 c4 ) fun g17 => (
      r_aload (pc2 := 53) rfl rfl rfl (
      r_iload (pc2 := 54) rfl rfl rfl (
      r_iload (pc2 := 56) rfl rfl rfl (
      r_callVV (pc2 := 59) (args := [.ref 44, gv c1, gv v5]) (st2 := []) rfl rfl rfl rfl rfl rfl (rc_of (sh_T hs rfl rfl)) (rf_md_thenWithin hs (d + 2) g17 c1 v5 ) fun g18 => (
      r_aload (pc2 := 60) rfl rfl rfl (
      r_aload (pc2 := 61) rfl rfl rfl (
      r_getA (pc2 := 64) rfl rfl (sh_T hs rfl rfl) (sh_A hs rfl rfl) (
      r_iload (pc2 := 66) rfl rfl rfl (
      r_iald (len := 30) (pc2 := 67) rfl rfl (sh_T hs rfl rfl) (sh_L hs rfl rfl) rfl h12 (
      r_aload (pc2 := 68) rfl rfl rfl (
      r_getA (pc2 := 71) rfl rfl (sh_T hs rfl rfl) (sh_A hs rfl rfl) (
      r_iload (pc2 := 73) rfl rfl rfl (
      r_iald (len := 30) (pc2 := 74) rfl rfl (sh_T hs rfl rfl) (sh_L hs rfl rfl) rfl h12 (
      r_aload (pc2 := 75) rfl rfl rfl (
      r_getA (pc2 := 78) rfl rfl (sh_T hs rfl rfl) (sh_A hs rfl rfl) (
      r_iload (pc2 := 80) rfl rfl rfl (
      r_iald (len := 30) (pc2 := 81) rfl rfl (sh_T hs rfl rfl) (sh_L hs rfl rfl) rfl h12 (
      r_callVP (pc2 := 84) (args := [.ref 44, gv (gm_I g18 72 v5.toNat), gv (gm_I g18 73 v5.toNat), gv (gm_I g18 74 v5.toNat)]) (st2 := []) rfl rfl rfl rfl rfl rfl (rc_of (sh_T hs rfl rfl)) (rf_md_isHeld hs (d + 5) g18 (gm_I g18 72 v5.toNat) (gm_I g18 73 v5.toNat) (gm_I g18 74 v5.toNat) ) fun v19 => (
      jr_g fun h20 => r_ifne (pc2 := 87) (t := 109) rfl h20 rfl (fun _ =>
      r_aload (pc2 := 88) rfl rfl rfl (
      r_ic (x := 0) (pc2 := 89) rfl ic_0 rfl (
      r_putI (pc2 := 92) rfl rfl (sh_T hs rfl rfl) fun g21 => (
      r_aload (pc2 := 93) rfl rfl rfl (
      r_iload (pc2 := 95) rfl rfl rfl (
      r_iload (pc2 := 96) rfl rfl rfl (
      r_ic (x := 0) (pc2 := 97) rfl ic_0 rfl (
      r_callVV (pc2 := 100) (args := [.ref 44, gv v5, gv c1, gv 0]) (st2 := []) rfl rfl rfl rfl rfl rfl (rc_of (sh_T hs rfl rfl)) (rf_md_goes hs (d + 3) g21 v5 c1 0 ) fun g22 => (
      r_aload (pc2 := 101) rfl rfl rfl (
      r_ic (x := 4) (pc2 := 102) rfl ic_4 rfl (
      r_iload (pc2 := 104) rfl rfl rfl (
      r_iload (pc2 := 105) rfl rfl rfl (
      r_callVI (pc2 := 108) (args := [.ref 44, gv 4, gv v5, gv c1]) (st2 := []) rfl rfl rfl rfl rfl rfl (rc_of (sh_T hs rfl rfl)) (rf_md_clashesBy hs (d + 5) g22 4 v5 c1 ) fun v23 g24 => (
      r_iret rfl rfl)))))))))))))) (fun _ =>
      r_iinc (kk := 1) (L2 := [some (.ref 44), some (gv c1), some (gv c2), some (gv c3), some (gv c4), some (gv (v5 + 1))]) (pc2 := 112) rfl ic_1 rfl rfl rfl (
      r_goto (t := 3) rfl (
      ih (v5 + 1) g18)))))))))))))))))))))))))))))))) (fun _ =>
      r_iinc (kk := 1) (L2 := [some (.ref 44), some (gv c1), some (gv c2), some (gv c3), some (gv c4), some (gv (v5 + 1))]) (pc2 := 112) rfl ic_1 rfl rfl rfl (
      r_goto (t := 3) rfl (
      ih (v5 + 1) g6))))))))))))))) (fun _ =>
      jr_leaf ⟨_, rfl, rfl⟩)))))
theorem rf_md_againstPlace {s : gm_S} {n m : Nat} (hs : gm_sh s n m) (d : Nat)  (g : gm_T) (a1 : Int) (a2 : Int) (a3 : Int) (a4 : Int)  : jr (eI s) (md_againstPlace g a1 a2 a3 a4) (jm_cl jm_CD km_n (d + 7) 263 [.ref 44, gv a1, gv a2, gv a3, gv a4] (gm_h s g)) := by
  unfold md_againstPlace
  exact (r_ent (cd := cd_263) (n := 6) (L0 := [some (.ref 44), some (gv a1), some (gv a2), some (gv a3), some (gv a4), none]) rfl rfl rfl rfl (
      r_ic (x := 0) (pc2 := 1) rfl ic_0 rfl (
      r_istore (L2 := [some (.ref 44), some (gv a1), some (gv a2), some (gv a3), some (gv a4), some (gv 0)]) (pc2 := 3) rfl rfl rfl (
      r_c1 (rl_md_againstPlace_l3 hs d   a1 a2 a3 a4  fz 0 g  ) (fun r c h => jr_leaf h) (fun g28 c h => match c, h with | _, ⟨j27, hj27, rfl⟩ => (
      r_aload (pc2 := 116) rfl rfl rfl (
      r_callVV (pc2 := 119) (args := [.ref 44]) (st2 := []) rfl rfl rfl rfl rfl rfl (rc_of (sh_T hs rfl rfl)) (rf_md_walls hs d g28 ) fun g29 => (
      r_aload (pc2 := 120) rfl rfl rfl (
      r_iload (pc2 := 121) rfl rfl rfl (
      r_iload (pc2 := 122) rfl rfl rfl (
      r_iload (pc2 := 123) rfl rfl rfl (
      r_iload (pc2 := 125) rfl rfl rfl (
      r_callVV (pc2 := 128) (args := [.ref 44, gv a1, gv a2, gv a3, gv a4]) (st2 := []) rfl rfl rfl rfl rfl rfl (rc_of (sh_T hs rfl rfl)) (rf_md_places hs (d + 1) g29 a1 a2 a3 a4 ) fun g30 => (
      r_aload (pc2 := 129) rfl rfl rfl (
      r_aload (pc2 := 130) rfl rfl rfl (
      r_getA (pc2 := 133) rfl rfl (sh_T hs rfl rfl) (sh_A hs rfl rfl) (
      r_iload (pc2 := 134) rfl rfl rfl (
      jr_g fun h31 => r_iald (len := 30) (pc2 := 135) rfl rfl (sh_T hs rfl rfl) (sh_L hs rfl rfl) rfl h31 (
      r_ic (x := -1) (pc2 := 136) rfl ic_m1 rfl (
      r_callVI (pc2 := 139) (args := [.ref 44, gv (gm_I g30 78 a1.toNat), gv (-1)]) (st2 := []) rfl rfl rfl rfl rfl rfl (rc_of (sh_T hs rfl rfl)) (rf_md_hits hs d g30 (gm_I g30 78 a1.toNat) (-1) ) fun v32 g33 => (
      r_iret rfl rfl)))))))))))))))))))))
theorem rf_md_word {s : gm_S} {n m : Nat} (hs : gm_sh s n m) (d : Nat)  (g : gm_T) (a1 : Int) (a2 : Int) (a3 : Int) (a4 : Int)  : jr (eI s) (md_word g a1 a2 a3 a4) (jm_cl jm_CD km_n (d + 8) 264 [.ref 44, gv a1, gv a2, gv a3, gv a4] (gm_h s g)) := by
  unfold md_word
  exact (r_ent (cd := cd_264) (n := 6) (L0 := [some (.ref 44), some (gv a1), some (gv a2), some (gv a3), some (gv a4), none]) rfl rfl rfl rfl (
      r_aload (pc2 := 1) rfl rfl rfl (
      r_iload (pc2 := 2) rfl rfl rfl (
      r_callVP (pc2 := 5) (args := [.ref 44, gv a1]) (st2 := []) rfl rfl rfl rfl rfl rfl (rc_of (sh_T hs rfl rfl)) (rf_md_isBit hs (d + 5) g a1 ) fun v1 => (
      jr_g fun h2 => r_ifne (pc2 := 8) (t := 10) rfl h2 rfl (fun _ =>
      r_ic (x := -1) (pc2 := 9) rfl ic_m1 rfl (
      r_iret rfl rfl)) (fun _ =>
      r_iload (pc2 := 11) rfl rfl rfl (
      r_iload (pc2 := 12) rfl rfl rfl (
      r_iload (pc2 := 14) rfl rfl rfl (
      r_callSP (pc2 := 17) (args := [gv a2, gv a3, gv a4]) (st2 := []) rfl rfl rfl rfl rfl rfl (rf_md_isPlace hs (d + 5) g a2 a3 a4 ) fun v3 => (
      jr_g fun h4 => r_ifne (pc2 := 20) (t := 23) rfl h4 rfl (fun _ =>
      r_ic (x := -2) (pc2 := 22) rfl ic_m2 rfl (
      r_iret rfl rfl)) (fun _ =>
      r_aload (pc2 := 24) rfl rfl rfl (
      r_callVV (pc2 := 27) (args := [.ref 44]) (st2 := []) rfl rfl rfl rfl rfl rfl (rc_of (sh_T hs rfl rfl)) (rf_md_groups hs (d + 1) g ) fun g5 => (
      r_aload (pc2 := 28) rfl rfl rfl (
      r_iload (pc2 := 29) rfl rfl rfl (
      r_iload (pc2 := 30) rfl rfl rfl (
      r_iload (pc2 := 31) rfl rfl rfl (
      r_iload (pc2 := 33) rfl rfl rfl (
      r_callVI (pc2 := 36) (args := [.ref 44, gv a1, gv a2, gv a3, gv a4]) (st2 := []) rfl rfl rfl rfl rfl rfl (rc_of (sh_T hs rfl rfl)) (rf_md_againstPlace hs d g5 a1 a2 a3 a4 ) fun v6 g7 => (
      r_istore (L2 := [some (.ref 44), some (gv a1), some (gv a2), some (gv a3), some (gv a4), some (gv v6)]) (pc2 := 38) rfl rfl rfl (
      r_iload (pc2 := 40) rfl rfl rfl (
      jr_g fun h8 => r_ifeq (pc2 := 43) (t := 46) rfl h8 rfl (fun _ =>
      r_aload (pc2 := 47) rfl rfl rfl (
      r_aload (pc2 := 48) rfl rfl rfl (
      r_getA (pc2 := 51) rfl rfl (sh_T hs rfl rfl) (sh_A hs rfl rfl) (
      r_iload (pc2 := 52) rfl rfl rfl (
      jr_g fun h9 => r_iald (len := 30) (pc2 := 53) rfl rfl (sh_T hs rfl rfl) (sh_L hs rfl rfl) rfl h9 (
      r_callVV (pc2 := 56) (args := [.ref 44, gv (gm_I g7 78 a1.toNat)]) (st2 := []) rfl rfl rfl rfl rfl rfl (rc_of (sh_T hs rfl rfl)) (rf_md_putsNone hs (d + 6) g7 (gm_I g7 78 a1.toNat) ) fun g10 => (
      r_aload (pc2 := 57) rfl rfl rfl (
      r_getA (pc2 := 60) rfl rfl (sh_T hs rfl rfl) (sh_A hs rfl rfl) (
      r_iload (pc2 := 61) rfl rfl rfl (
      r_ic (x := 1) (pc2 := 62) rfl ic_1 rfl (
      r_zast (len := 30) (pc2 := 63) rfl rfl (sh_T hs rfl rfl) (sh_L hs rfl rfl) rfl h9 (by decide) fun g11 => (
      r_aload (pc2 := 64) rfl rfl rfl (
      r_iload (pc2 := 65) rfl rfl rfl (
      r_iload (pc2 := 66) rfl rfl rfl (
      r_iload (pc2 := 67) rfl rfl rfl (
      r_iload (pc2 := 69) rfl rfl rfl (
      r_callVV (pc2 := 72) (args := [.ref 44, gv a1, gv a2, gv a3, gv a4]) (st2 := []) rfl rfl rfl rfl rfl rfl (rc_of (sh_T hs rfl rfl)) (rf_md_stays hs (d + 6) g11 a1 a2 a3 a4 ) fun g12 => (
      r_aload (pc2 := 73) rfl rfl rfl (
      r_aload (pc2 := 74) rfl rfl rfl (
      r_getA (pc2 := 77) rfl rfl (sh_T hs rfl rfl) (sh_A hs rfl rfl) (
      r_iload (pc2 := 78) rfl rfl rfl (
      r_iald (len := 30) (pc2 := 79) rfl rfl (sh_T hs rfl rfl) (sh_L hs rfl rfl) rfl h9 (
      r_callVP (pc2 := 82) (args := [.ref 44, gv (gm_I g12 78 a1.toNat)]) (st2 := []) rfl rfl rfl rfl rfl rfl (rc_of (sh_T hs rfl rfl)) (rf_md_sizeOf hs (d + 6) g12 (gm_I g12 78 a1.toNat) ) fun v13 => (
      r_iret rfl rfl)))))))))))))))))))))))) (fun _ =>
      r_iload (pc2 := 45) rfl rfl rfl (
      r_iret rfl rfl)))))))))))))))))))))))
theorem rf_md_unsay {s : gm_S} {n m : Nat} (hs : gm_sh s n m) (d : Nat)  (g : gm_T) (a1 : Int)  : jr (eI s) (md_unsay g a1) (jm_cl jm_CD km_n (d + 7) 265 [.ref 44, gv a1] (gm_h s g)) := by
  unfold md_unsay
  exact (r_ent (cd := cd_265) (n := 2) (L0 := [some (.ref 44), some (gv a1)]) rfl rfl rfl rfl (
      r_aload (pc2 := 1) rfl rfl rfl (
      r_iload (pc2 := 2) rfl rfl rfl (
      r_callVP (pc2 := 5) (args := [.ref 44, gv a1]) (st2 := []) rfl rfl rfl rfl rfl rfl (rc_of (sh_T hs rfl rfl)) (rf_md_isBit hs (d + 4) g a1 ) fun v1 => (
      jr_g fun h2 => r_ifne (pc2 := 8) (t := 10) rfl h2 rfl (fun _ =>
      r_ic (x := -1) (pc2 := 9) rfl ic_m1 rfl (
      r_iret rfl rfl)) (fun _ =>
      r_aload (pc2 := 11) rfl rfl rfl (
      r_getA (pc2 := 14) rfl rfl (sh_T hs rfl rfl) (sh_A hs rfl rfl) (
      r_iload (pc2 := 15) rfl rfl rfl (
      jr_g fun h3 => r_iald (len := 30) (pc2 := 16) rfl rfl (sh_T hs rfl rfl) (sh_L hs rfl rfl) rfl h3 (
      jr_g fun h4 => r_ifne (pc2 := 19) (t := 22) rfl h4 rfl (fun _ =>
      r_ic (x := -3) (pc2 := 21) rfl ic_m3 rfl (
      r_iret rfl rfl)) (fun _ =>
      r_aload (pc2 := 23) rfl rfl rfl (
      r_callVV (pc2 := 26) (args := [.ref 44]) (st2 := []) rfl rfl rfl rfl rfl rfl (rc_of (sh_T hs rfl rfl)) (rf_md_groups hs d g ) fun g5 => (
      r_aload (pc2 := 27) rfl rfl rfl (
      r_getA (pc2 := 30) rfl rfl (sh_T hs rfl rfl) (sh_A hs rfl rfl) (
      r_iload (pc2 := 31) rfl rfl rfl (
      r_ic (x := 0) (pc2 := 32) rfl ic_0 rfl (
      r_zast (len := 30) (pc2 := 33) rfl rfl (sh_T hs rfl rfl) (sh_L hs rfl rfl) rfl h3 (by decide) fun g6 => (
      r_aload (pc2 := 34) rfl rfl rfl (
      r_aload (pc2 := 35) rfl rfl rfl (
      r_getA (pc2 := 38) rfl rfl (sh_T hs rfl rfl) (sh_A hs rfl rfl) (
      r_iload (pc2 := 39) rfl rfl rfl (
      r_iald (len := 30) (pc2 := 40) rfl rfl (sh_T hs rfl rfl) (sh_L hs rfl rfl) rfl h3 (
      r_iload (pc2 := 41) rfl rfl rfl (
      r_callVP (pc2 := 44) (args := [.ref 44, gv (gm_I g6 78 a1.toNat), gv a1]) (st2 := []) rfl rfl rfl rfl rfl rfl (rc_of (sh_T hs rfl rfl)) (rf_md_hasWordIn hs (d + 5) g6 (gm_I g6 78 a1.toNat) a1 ) fun v7 => (
      jr_g fun h8 => r_ifne (pc2 := 47) (t := 64) rfl h8 rfl (fun _ =>
      r_aload (pc2 := 48) rfl rfl rfl (
      r_aload (pc2 := 49) rfl rfl rfl (
      r_getA (pc2 := 52) rfl rfl (sh_T hs rfl rfl) (sh_A hs rfl rfl) (
      r_iload (pc2 := 53) rfl rfl rfl (
      r_iald (len := 30) (pc2 := 54) rfl rfl (sh_T hs rfl rfl) (sh_L hs rfl rfl) rfl h3 (
      r_callVV (pc2 := 57) (args := [.ref 44, gv (gm_I g6 78 a1.toNat)]) (st2 := []) rfl rfl rfl rfl rfl rfl (rc_of (sh_T hs rfl rfl)) (rf_md_putsNone hs (d + 5) g6 (gm_I g6 78 a1.toNat) ) fun g9 => (
      r_aload (pc2 := 58) rfl rfl rfl (
      r_getA (pc2 := 61) rfl rfl (sh_T hs rfl rfl) (sh_A hs rfl rfl) (
      r_iload (pc2 := 62) rfl rfl rfl (
      r_ic (x := 1) (pc2 := 63) rfl ic_1 rfl (
      r_zast (len := 30) (pc2 := 64) rfl rfl (sh_T hs rfl rfl) (sh_L hs rfl rfl) rfl h3 (by decide) fun g10 => (
      r_ic (x := 1) (pc2 := 65) rfl ic_1 rfl (
      r_iret rfl rfl))))))))))))) (fun _ =>
      r_ic (x := 1) (pc2 := 65) rfl ic_1 rfl (
      r_iret rfl rfl)))))))))))))))))))))))))))
theorem rf_md_put {s : gm_S} {n m : Nat} (hs : gm_sh s n m) (d : Nat)  (g : gm_T) (a1 : Int) (a2 : Int) (a3 : Int) (a4 : Int)  : jr (eI s) (md_put g a1 a2 a3 a4) (jm_cl jm_CD km_n (d + 8) 266 [.ref 44, gv a1, gv a2, gv a3, gv a4] (gm_h s g)) := by
  unfold md_put
  exact (r_ent (cd := cd_266) (n := 6) (L0 := [some (.ref 44), some (gv a1), some (gv a2), some (gv a3), some (gv a4), none]) rfl rfl rfl rfl (
      r_aload (pc2 := 1) rfl rfl rfl (
      r_iload (pc2 := 2) rfl rfl rfl (
      r_callVP (pc2 := 5) (args := [.ref 44, gv a1]) (st2 := []) rfl rfl rfl rfl rfl rfl (rc_of (sh_T hs rfl rfl)) (rf_md_isBit hs (d + 5) g a1 ) fun v1 => (
      jr_g fun h2 => r_ifne (pc2 := 8) (t := 10) rfl h2 rfl (fun _ =>
      r_ic (x := -1) (pc2 := 9) rfl ic_m1 rfl (
      r_iret rfl rfl)) (fun _ =>
      r_iload (pc2 := 11) rfl rfl rfl (
      r_iload (pc2 := 12) rfl rfl rfl (
      r_iload (pc2 := 14) rfl rfl rfl (
      r_callSP (pc2 := 17) (args := [gv a2, gv a3, gv a4]) (st2 := []) rfl rfl rfl rfl rfl rfl (rf_md_isPlace hs (d + 5) g a2 a3 a4 ) fun v3 => (
      jr_g fun h4 => r_ifne (pc2 := 20) (t := 23) rfl h4 rfl (fun _ =>
      r_ic (x := -2) (pc2 := 22) rfl ic_m2 rfl (
      r_iret rfl rfl)) (fun _ =>
      r_aload (pc2 := 24) rfl rfl rfl (
      r_callVV (pc2 := 27) (args := [.ref 44]) (st2 := []) rfl rfl rfl rfl rfl rfl (rc_of (sh_T hs rfl rfl)) (rf_md_groups hs (d + 1) g ) fun g5 => (
      r_aload (pc2 := 28) rfl rfl rfl (
      r_aload (pc2 := 29) rfl rfl rfl (
      r_getA (pc2 := 32) rfl rfl (sh_T hs rfl rfl) (sh_A hs rfl rfl) (
      r_iload (pc2 := 33) rfl rfl rfl (
      jr_g fun h6 => r_iald (len := 30) (pc2 := 34) rfl rfl (sh_T hs rfl rfl) (sh_L hs rfl rfl) rfl h6 (
      r_ic (x := -1) (pc2 := 35) rfl ic_m1 rfl (
      r_callVP (pc2 := 38) (args := [.ref 44, gv (gm_I g5 78 a1.toNat), gv (-1)]) (st2 := []) rfl rfl rfl rfl rfl rfl (rc_of (sh_T hs rfl rfl)) (rf_md_hasWordIn hs (d + 6) g5 (gm_I g5 78 a1.toNat) (-1) ) fun v7 => (
      jr_g fun h8 => r_ifeq (pc2 := 41) (t := 44) rfl h8 rfl (fun _ =>
      r_aload (pc2 := 45) rfl rfl rfl (
      r_iload (pc2 := 46) rfl rfl rfl (
      r_iload (pc2 := 47) rfl rfl rfl (
      r_iload (pc2 := 48) rfl rfl rfl (
      r_iload (pc2 := 50) rfl rfl rfl (
      r_callVI (pc2 := 53) (args := [.ref 44, gv a1, gv a2, gv a3, gv a4]) (st2 := []) rfl rfl rfl rfl rfl rfl (rc_of (sh_T hs rfl rfl)) (rf_md_againstPlace hs d g5 a1 a2 a3 a4 ) fun v9 g10 => (
      r_istore (L2 := [some (.ref 44), some (gv a1), some (gv a2), some (gv a3), some (gv a4), some (gv v9)]) (pc2 := 55) rfl rfl rfl (
      r_iload (pc2 := 57) rfl rfl rfl (
      jr_g fun h11 => r_ifeq (pc2 := 60) (t := 63) rfl h11 rfl (fun _ =>
      r_aload (pc2 := 64) rfl rfl rfl (
      r_aload (pc2 := 65) rfl rfl rfl (
      r_getA (pc2 := 68) rfl rfl (sh_T hs rfl rfl) (sh_A hs rfl rfl) (
      r_iload (pc2 := 69) rfl rfl rfl (
      r_iald (len := 30) (pc2 := 70) rfl rfl (sh_T hs rfl rfl) (sh_L hs rfl rfl) rfl h6 (
      r_callVV (pc2 := 73) (args := [.ref 44, gv (gm_I g10 78 a1.toNat)]) (st2 := []) rfl rfl rfl rfl rfl rfl (rc_of (sh_T hs rfl rfl)) (rf_md_putsNone hs (d + 6) g10 (gm_I g10 78 a1.toNat) ) fun g12 => (
      r_aload (pc2 := 74) rfl rfl rfl (
      r_getA (pc2 := 77) rfl rfl (sh_T hs rfl rfl) (sh_A hs rfl rfl) (
      r_iload (pc2 := 78) rfl rfl rfl (
      r_ic (x := 1) (pc2 := 79) rfl ic_1 rfl (
      r_zast (len := 30) (pc2 := 80) rfl rfl (sh_T hs rfl rfl) (sh_L hs rfl rfl) rfl h6 (by decide) fun g13 => (
      r_aload (pc2 := 81) rfl rfl rfl (
      r_iload (pc2 := 82) rfl rfl rfl (
      r_iload (pc2 := 83) rfl rfl rfl (
      r_iload (pc2 := 84) rfl rfl rfl (
      r_iload (pc2 := 86) rfl rfl rfl (
      r_callVV (pc2 := 89) (args := [.ref 44, gv a1, gv a2, gv a3, gv a4]) (st2 := []) rfl rfl rfl rfl rfl rfl (rc_of (sh_T hs rfl rfl)) (rf_md_stays hs (d + 6) g13 a1 a2 a3 a4 ) fun g14 => (
      r_aload (pc2 := 90) rfl rfl rfl (
      r_aload (pc2 := 91) rfl rfl rfl (
      r_getA (pc2 := 94) rfl rfl (sh_T hs rfl rfl) (sh_A hs rfl rfl) (
      r_iload (pc2 := 95) rfl rfl rfl (
      r_iald (len := 30) (pc2 := 96) rfl rfl (sh_T hs rfl rfl) (sh_L hs rfl rfl) rfl h6 (
      r_callVP (pc2 := 99) (args := [.ref 44, gv (gm_I g14 78 a1.toNat)]) (st2 := []) rfl rfl rfl rfl rfl rfl (rc_of (sh_T hs rfl rfl)) (rf_md_sizeOf hs (d + 6) g14 (gm_I g14 78 a1.toNat) ) fun v15 => (
      r_iret rfl rfl)))))))))))))))))))))))) (fun _ =>
      r_iload (pc2 := 62) rfl rfl rfl (
      r_iret rfl rfl))))))))))) (fun _ =>
      r_ic (x := -3) (pc2 := 43) rfl ic_m3 rfl (
      r_iret rfl rfl))))))))))))))))))))))
theorem rf_md_lift {s : gm_S} {n m : Nat} (hs : gm_sh s n m) (d : Nat)  (g : gm_T) (a1 : Int)  : jr (eI s) (md_lift g a1) (jm_cl jm_CD km_n (d + 7) 267 [.ref 44, gv a1] (gm_h s g)) := by
  unfold md_lift
  exact (r_ent (cd := cd_267) (n := 2) (L0 := [some (.ref 44), some (gv a1)]) rfl rfl rfl rfl (
      r_aload (pc2 := 1) rfl rfl rfl (
      r_iload (pc2 := 2) rfl rfl rfl (
      r_callVP (pc2 := 5) (args := [.ref 44, gv a1]) (st2 := []) rfl rfl rfl rfl rfl rfl (rc_of (sh_T hs rfl rfl)) (rf_md_isBit hs (d + 4) g a1 ) fun v1 => (
      jr_g fun h2 => r_ifne (pc2 := 8) (t := 10) rfl h2 rfl (fun _ =>
      r_ic (x := -1) (pc2 := 9) rfl ic_m1 rfl (
      r_iret rfl rfl)) (fun _ =>
      r_aload (pc2 := 11) rfl rfl rfl (
      r_callVV (pc2 := 14) (args := [.ref 44]) (st2 := []) rfl rfl rfl rfl rfl rfl (rc_of (sh_T hs rfl rfl)) (rf_md_groups hs d g ) fun g3 => (
      r_aload (pc2 := 15) rfl rfl rfl (
      r_aload (pc2 := 16) rfl rfl rfl (
      r_getA (pc2 := 19) rfl rfl (sh_T hs rfl rfl) (sh_A hs rfl rfl) (
      r_iload (pc2 := 20) rfl rfl rfl (
      jr_g fun h4 => r_iald (len := 30) (pc2 := 21) rfl rfl (sh_T hs rfl rfl) (sh_L hs rfl rfl) rfl h4 (
      r_callVP (pc2 := 24) (args := [.ref 44, gv (gm_I g3 78 a1.toNat)]) (st2 := []) rfl rfl rfl rfl rfl rfl (rc_of (sh_T hs rfl rfl)) (rf_md_holder hs (d + 5) g3 (gm_I g3 78 a1.toNat) ) fun v5 => (
      r_ic (x := -1) (pc2 := 25) rfl ic_m1 rfl (
      jr_g fun h6 => r_ceq (pc2 := 28) (t := 42) rfl h6 (rgk rfl) rfl (fun _ =>
      r_ic (x := -3) (pc2 := 44) rfl ic_m3 rfl (
      r_iret rfl rfl)) (fun _ =>
      r_aload (pc2 := 29) rfl rfl rfl (
      r_aload (pc2 := 30) rfl rfl rfl (
      r_getA (pc2 := 33) rfl rfl (sh_T hs rfl rfl) (sh_A hs rfl rfl) (
      r_iload (pc2 := 34) rfl rfl rfl (
      r_iald (len := 30) (pc2 := 35) rfl rfl (sh_T hs rfl rfl) (sh_L hs rfl rfl) rfl h4 (
      r_ic (x := -1) (pc2 := 36) rfl ic_m1 rfl (
      r_callVP (pc2 := 39) (args := [.ref 44, gv (gm_I g3 78 a1.toNat), gv (-1)]) (st2 := []) rfl rfl rfl rfl rfl rfl (rc_of (sh_T hs rfl rfl)) (rf_md_hasWordIn hs (d + 5) g3 (gm_I g3 78 a1.toNat) (-1) ) fun v7 => (
      jr_g fun h8 => r_ifeq (pc2 := 42) (t := 45) rfl h8 rfl (fun _ =>
      r_aload (pc2 := 46) rfl rfl rfl (
      r_aload (pc2 := 47) rfl rfl rfl (
      r_getA (pc2 := 50) rfl rfl (sh_T hs rfl rfl) (sh_A hs rfl rfl) (
      r_iload (pc2 := 51) rfl rfl rfl (
      r_iald (len := 30) (pc2 := 52) rfl rfl (sh_T hs rfl rfl) (sh_L hs rfl rfl) rfl h4 (
      r_callVV (pc2 := 55) (args := [.ref 44, gv (gm_I g3 78 a1.toNat)]) (st2 := []) rfl rfl rfl rfl rfl rfl (rc_of (sh_T hs rfl rfl)) (rf_md_putsNone hs (d + 5) g3 (gm_I g3 78 a1.toNat) ) fun g9 => (
      r_aload (pc2 := 56) rfl rfl rfl (
      r_aload (pc2 := 57) rfl rfl rfl (
      r_getA (pc2 := 60) rfl rfl (sh_T hs rfl rfl) (sh_A hs rfl rfl) (
      r_iload (pc2 := 61) rfl rfl rfl (
      r_iald (len := 30) (pc2 := 62) rfl rfl (sh_T hs rfl rfl) (sh_L hs rfl rfl) rfl h4 (
      r_callVP (pc2 := 65) (args := [.ref 44, gv (gm_I g9 78 a1.toNat)]) (st2 := []) rfl rfl rfl rfl rfl rfl (rc_of (sh_T hs rfl rfl)) (rf_md_sizeOf hs (d + 5) g9 (gm_I g9 78 a1.toNat) ) fun v10 => (
      r_iret rfl rfl))))))))))))) (fun _ =>
      r_ic (x := -3) (pc2 := 44) rfl ic_m3 rfl (
      r_iret rfl rfl)))))))))))))))))))))))))
theorem rf_md_placed {s : gm_S} {n m : Nat} (hs : gm_sh s n m) (d : Nat)  (g : gm_T) (a1 : Int) (a2 : Int)  : jr (eI s) (md_placed g a1 a2) (jm_cl jm_CD km_n (d + 7) 268 [.ref 44, gv a1, gv a2] (gm_h s g)) := by
  unfold md_placed
  exact (r_ent (cd := cd_268) (n := 3) (L0 := [some (.ref 44), some (gv a1), some (gv a2)]) rfl rfl rfl rfl (
      r_aload (pc2 := 1) rfl rfl rfl (
      r_iload (pc2 := 2) rfl rfl rfl (
      r_callVP (pc2 := 5) (args := [.ref 44, gv a1]) (st2 := []) rfl rfl rfl rfl rfl rfl (rc_of (sh_T hs rfl rfl)) (rf_md_isBit hs (d + 4) g a1 ) fun v1 => (
      jr_g fun h2 => r_ifeq (pc2 := 8) (t := 17) rfl h2 rfl (fun _ =>
      r_ic (x := -100000) (pc2 := 20) rfl ic_m100000 rfl (
      r_iret rfl rfl)) (fun _ =>
      r_iload (pc2 := 9) rfl rfl rfl (
      r_ic (x := 0) (pc2 := 10) rfl ic_0 rfl (
      r_ic (x := 3) (pc2 := 11) rfl ic_3 rfl (
      r_callSP (pc2 := 14) (args := [gv a2, gv 0, gv 3]) (st2 := []) rfl rfl rfl rfl rfl rfl (rf_md_in hs (d + 5) g a2 0 3 ) fun v3 => (
      jr_g fun h4 => r_ifne (pc2 := 17) (t := 21) rfl h4 rfl (fun _ =>
      r_ic (x := -100000) (pc2 := 20) rfl ic_m100000 rfl (
      r_iret rfl rfl)) (fun _ =>
      r_aload (pc2 := 22) rfl rfl rfl (
      r_callVV (pc2 := 25) (args := [.ref 44]) (st2 := []) rfl rfl rfl rfl rfl rfl (rc_of (sh_T hs rfl rfl)) (rf_md_groups hs d g ) fun g5 => (
      r_aload (pc2 := 26) rfl rfl rfl (
      r_iload (pc2 := 27) rfl rfl rfl (
      r_callVI (pc2 := 30) (args := [.ref 44, gv a1]) (st2 := []) rfl rfl rfl rfl rfl rfl (rc_of (sh_T hs rfl rfl)) (rf_md_onWall hs (d + 1) g5 a1 ) fun v6 g7 => (
      jr_g fun h8 => r_ifne (pc2 := 33) (t := 37) rfl h8 rfl (fun _ =>
      r_ic (x := -100000) (pc2 := 36) rfl ic_m100000 rfl (
      r_iret rfl rfl)) (fun _ =>
      r_iload (pc2 := 38) rfl rfl rfl (
      jr_g fun h9 => r_ifne (pc2 := 41) (t := 48) rfl h9 rfl (fun _ =>
      r_aload (pc2 := 42) rfl rfl rfl (
      r_getI (pc2 := 45) rfl rfl (sh_T hs rfl rfl) (
      r_goto (t := 104) rfl (
      r_iret rfl rfl)))) (fun _ =>
      r_iload (pc2 := 49) rfl rfl rfl (
      r_ic (x := 1) (pc2 := 50) rfl ic_1 rfl (
      r_cne (pc2 := 53) (t := 60) rfl h9 (rgk rfl) rfl (fun _ =>
      r_aload (pc2 := 54) rfl rfl rfl (
      r_getI (pc2 := 57) rfl rfl (sh_T hs rfl rfl) (
      r_goto (t := 104) rfl (
      r_iret rfl rfl)))) (fun _ =>
      r_iload (pc2 := 61) rfl rfl rfl (
      r_ic (x := 2) (pc2 := 62) rfl ic_2 rfl (
      r_cne (pc2 := 65) (t := 72) rfl h9 (rgk rfl) rfl (fun _ =>
      r_aload (pc2 := 66) rfl rfl rfl (
      r_getI (pc2 := 69) rfl rfl (sh_T hs rfl rfl) (
      r_goto (t := 104) rfl (
      r_iret rfl rfl)))) (fun _ =>
      r_aload (pc2 := 73) rfl rfl rfl (
      r_getA (pc2 := 76) rfl rfl (sh_T hs rfl rfl) (sh_A hs rfl rfl) (
      r_iload (pc2 := 77) rfl rfl rfl (
      jr_g fun h10 => r_iald (len := 30) (pc2 := 78) rfl rfl (sh_T hs rfl rfl) (sh_L hs rfl rfl) rfl h10 (
      jr_g fun h11 => r_ifeq (pc2 := 81) (t := 85) rfl h11 rfl (fun _ =>
      r_aload (pc2 := 86) rfl rfl rfl (
      r_aload (pc2 := 87) rfl rfl rfl (
      r_getA (pc2 := 90) rfl rfl (sh_T hs rfl rfl) (sh_A hs rfl rfl) (
      r_iload (pc2 := 91) rfl rfl rfl (
      r_iald (len := 30) (pc2 := 92) rfl rfl (sh_T hs rfl rfl) (sh_L hs rfl rfl) rfl h10 (
      r_ic (x := -1) (pc2 := 93) rfl ic_m1 rfl (
      r_callVP (pc2 := 96) (args := [.ref 44, gv (gm_I g7 78 a1.toNat), gv (-1)]) (st2 := []) rfl rfl rfl rfl rfl rfl (rc_of (sh_T hs rfl rfl)) (rf_md_hasWordIn hs (d + 5) g7 (gm_I g7 78 a1.toNat) (-1) ) fun v12 => (
      jr_g fun h13 => r_ifeq (pc2 := 99) (t := 103) rfl h13 rfl (fun _ =>
      r_ic (x := 0) (pc2 := 104) rfl ic_0 rfl (
      r_iret rfl rfl)) (fun _ =>
      r_ic (x := 1) (pc2 := 100) rfl ic_1 rfl (
      r_goto (t := 104) rfl (
      r_iret rfl rfl))))))))))) (fun _ =>
      r_ic (x := 2) (pc2 := 82) rfl ic_2 rfl (
      r_goto (t := 104) rfl (
      r_iret rfl rfl))))))))))))))))))))))))))))))))
theorem rl_md_at_l6 {s : gm_S} {n m : Nat} (hs : gm_sh s n m) (d : Nat)  (c2 : Int) (c3 : Int)  : ∀ (fuel : Nat) (v4 : Int) (g8 : gm_T) (j5 : Option Value) (j6 : Option Value) (j7 : Option Value) (hj5 : jm_lg j5 = false) (hj6 : jm_lg j6 = false) (hj7 : jm_lg j7 = false), jr (eI s) (md_at_l6  c2 c3 fuel v4 g8) (jm_sup cd_269 (jm_cl jm_CD km_n (d + 6)) (6, [some (.ref 44), some (gv c2), some (gv c3), some (gv v4), j5, j6, j7], [], gm_h s g8)) := by
  intro fuel
  induction fuel with
  | zero => intros; exact jr_none
  | succ fuel ih =>
    intro v4 g8 j5 j6 j7 hj5 hj6 hj7
    unfold md_at_l6
    exact (
      r_iload (pc2 := 7) rfl rfl rfl (
      r_aload (pc2 := 8) rfl rfl rfl (
      r_getI (pc2 := 11) rfl rfl (sh_T hs rfl rfl) (
      jr_g fun h9 => r_cge (pc2 := 14) (t := 90) rfl h9.1 h9.2 rfl (fun _ =>
      r_aload (pc2 := 15) rfl rfl rfl (
      r_iload (pc2 := 16) rfl rfl rfl (
      r_callVI (pc2 := 19) (args := [.ref 44, gv v4]) (st2 := []) rfl rfl rfl rfl rfl rfl (rc_of (sh_T hs rfl rfl)) (rf_md_onWall hs (d + 1) g8 v4 ) fun v10 g11 => (
      jr_g fun h12 => r_ifeq (pc2 := 22) (t := 84) rfl h12 rfl (fun _ =>
      r_iinc (kk := 1) (L2 := [some (.ref 44), some (gv c2), some (gv c3), some (gv (v4 + 1)), j5, j6, j7]) (pc2 := 87) rfl ic_1 rfl rfl rfl (
      r_goto (t := 6) rfl (
      ih (v4 + 1) g11 _ _ _ hj5 hj6 hj7))) (fun _ =>
      r_ic (x := 4) (pc2 := 23) rfl ic_4 rfl (
      r_aload (pc2 := 24) rfl rfl rfl (
      r_getI (pc2 := 27) rfl rfl (sh_T hs rfl rfl) (
      r_isubN (pc2 := 28) rfl rfl (
      r_ic (x := 4) (pc2 := 29) rfl ic_4 rfl (
      jr_g fun hd => r_irem (pc2 := 30) rfl rfl hd ⟨by decide, by decide⟩ (
      r_istoreL (L3 := fun v14 => [some (.ref 44), some (gv c2), some (gv c3), some (gv v4), some (gv v14), j6, j7]) (pc2 := 32) rfl rfl (fun _ => rfl) fun v14 => (
      r_iload (pc2 := 34) rfl rfl rfl (
      r_iload (pc2 := 35) rfl rfl rfl (
      r_aload (pc2 := 36) rfl rfl rfl (
      r_getI (pc2 := 39) rfl rfl (sh_T hs rfl rfl) (
      r_isubN (pc2 := 40) rfl rfl (
      r_iload (pc2 := 41) rfl rfl rfl (
      r_aload (pc2 := 42) rfl rfl rfl (
      r_getI (pc2 := 45) rfl rfl (sh_T hs rfl rfl) (
      r_isubN (pc2 := 46) rfl rfl (
      r_callSP (pc2 := 49) (args := [gv v14, gv (nm (c2 - (gm_I g11 44 50))), gv (nm (c3 - (gm_I g11 44 51)))]) (st2 := []) rfl rfl rfl rfl rfl rfl (rf_md_cellTurnedX hs (d + 4) g11 v14 (nm (c2 - (gm_I g11 44 50))) (nm (c3 - (gm_I g11 44 51))) ) fun v15 => (
      r_istore (L2 := [some (.ref 44), some (gv c2), some (gv c3), some (gv v4), some (gv v14), some (gv v15), j7]) (pc2 := 51) rfl rfl rfl (
      r_iload (pc2 := 53) rfl rfl rfl (
      r_iload (pc2 := 54) rfl rfl rfl (
      r_aload (pc2 := 55) rfl rfl rfl (
      r_getI (pc2 := 58) rfl rfl (sh_T hs rfl rfl) (
      r_isubN (pc2 := 59) rfl rfl (
      r_iload (pc2 := 60) rfl rfl rfl (
      r_aload (pc2 := 61) rfl rfl rfl (
      r_getI (pc2 := 64) rfl rfl (sh_T hs rfl rfl) (
      r_isubN (pc2 := 65) rfl rfl (
      r_callSP (pc2 := 68) (args := [gv v14, gv (nm (c2 - (gm_I g11 44 50))), gv (nm (c3 - (gm_I g11 44 51)))]) (st2 := []) rfl rfl rfl rfl rfl rfl (rf_md_cellTurnedY hs (d + 4) g11 v14 (nm (c2 - (gm_I g11 44 50))) (nm (c3 - (gm_I g11 44 51))) ) fun v16 => (
      r_istore (L2 := [some (.ref 44), some (gv c2), some (gv c3), some (gv v4), some (gv v14), some (gv v15), some (gv v16)]) (pc2 := 70) rfl rfl rfl (
      r_aload (pc2 := 71) rfl rfl rfl (
      r_iload (pc2 := 72) rfl rfl rfl (
      r_iload (pc2 := 74) rfl rfl rfl (
      r_iload (pc2 := 76) rfl rfl rfl (
      r_callVP (pc2 := 79) (args := [.ref 44, gv v4, gv v15, gv v16]) (st2 := []) rfl rfl rfl rfl rfl rfl (rc_of (sh_T hs rfl rfl)) (rf_md_hasCell hs (d + 3) g11 v4 v15 v16 ) fun v17 => (
      jr_g fun h18 => r_ifeq (pc2 := 82) (t := 84) rfl h18 rfl (fun _ =>
      r_iinc (kk := 1) (L2 := [some (.ref 44), some (gv c2), some (gv c3), some (gv (v4 + 1)), some (gv v14), some (gv v15), some (gv v16)]) (pc2 := 87) rfl ic_1 rfl rfl rfl (
      r_goto (t := 6) rfl (
      ih (v4 + 1) g11 _ _ _ rfl rfl rfl))) (fun _ =>
      r_iload (pc2 := 83) rfl rfl rfl (
      r_iret rfl rfl))))))))))))))))))))))))))))))))))))))))) (fun _ =>
      r_ic (x := -1) (pc2 := 91) rfl ic_m1 rfl (
      r_iret rfl rfl))))))
theorem rf_md_at {s : gm_S} {n m : Nat} (hs : gm_sh s n m) (d : Nat)  (g : gm_T) (a1 : Int) (a2 : Int)  : jr (eI s) (md_at g a1 a2) (jm_cl jm_CD km_n (d + 7) 269 [.ref 44, gv a1, gv a2] (gm_h s g)) := by
  unfold md_at
  exact (r_ent (cd := cd_269) (n := 7) (L0 := [some (.ref 44), some (gv a1), some (gv a2), none, none, none, none]) rfl rfl rfl rfl (
      r_aload (pc2 := 1) rfl rfl rfl (
      r_callVV (pc2 := 4) (args := [.ref 44]) (st2 := []) rfl rfl rfl rfl rfl rfl (rc_of (sh_T hs rfl rfl)) (rf_md_groups hs d g ) fun g1 => (
      r_ic (x := 0) (pc2 := 5) rfl ic_0 rfl (
      r_istore (L2 := [some (.ref 44), some (gv a1), some (gv a2), some (gv 0), none, none, none]) (pc2 := 6) rfl rfl rfl (
      rl_md_at_l6 hs d   a1 a2  fz 0 g1 _ _ _ rfl rfl rfl))))))
theorem rl_md_judges_l2 {s : gm_S} {n m : Nat} (hs : gm_sh s n m) (d : Nat)    : ∀ (fuel : Nat) (v1 : Int) (g2 : gm_T), jr (fun (q : gm_T) (c : Option jm_R) => ∃ (j3 : Option Value), jm_lg j3 = false ∧ c = jm_sup cd_270 (jm_cl jm_CD km_n (d + 6)) (44, [some (.ref 44), j3], [], gm_h s q)) (md_judges_l2   fuel v1 g2) (jm_sup cd_270 (jm_cl jm_CD km_n (d + 6)) (2, [some (.ref 44), some (gv v1)], [], gm_h s g2)) := by
  intro fuel
  induction fuel with
  | zero => intros; exact jr_none
  | succ fuel ih =>
    intro v1 g2  
    unfold md_judges_l2
    exact (
      r_iload (pc2 := 3) rfl rfl rfl (
      r_aload (pc2 := 4) rfl rfl rfl (
      r_getI (pc2 := 7) rfl rfl (sh_T hs rfl rfl) (
      jr_g fun h5 => r_cge (pc2 := 10) (t := 44) rfl h5.1 h5.2 rfl (fun _ =>
      r_aload (pc2 := 11) rfl rfl rfl (
      r_getA (pc2 := 14) rfl rfl (sh_T hs rfl rfl) (sh_A hs rfl rfl) (
      r_iload (pc2 := 15) rfl rfl rfl (
      r_aload (pc2 := 16) rfl rfl rfl (
      r_getA (pc2 := 19) rfl rfl (sh_T hs rfl rfl) (sh_A hs rfl rfl) (
      r_iload (pc2 := 20) rfl rfl rfl (
      jr_g fun h6 => r_iald (len := 60) (pc2 := 21) rfl rfl (sh_T hs rfl rfl) (sh_L hs rfl rfl) rfl h6 (
      jr_g fun h7 => r_ifeq (pc2 := 24) (t := 36) rfl h7 rfl (fun _ =>
      r_ic (x := 0) (pc2 := 37) rfl ic_0 rfl (
      r_zast (len := 60) (pc2 := 38) rfl rfl (sh_T hs rfl rfl) (sh_L hs rfl rfl) rfl h6 (by decide) fun g8 => (
      r_iinc (kk := 1) (L2 := [some (.ref 44), some (gv (v1 + 1))]) (pc2 := 41) rfl ic_1 rfl rfl rfl (
      r_goto (t := 2) rfl (
      ih (v1 + 1) g8))))) (fun _ =>
      r_aload (pc2 := 25) rfl rfl rfl (
      r_iload (pc2 := 26) rfl rfl rfl (
      r_callVI (pc2 := 29) (args := [.ref 44, gv v1]) (st2 := [gv v1, .ref 82]) rfl rfl rfl rfl rfl rfl (rc_of (sh_T hs rfl rfl)) (rf_md_isBestNow hs d g2 v1 ) fun v10 g11 => (
      jr_g fun h12 => r_ifeq (pc2 := 32) (t := 36) rfl h12 rfl (fun _ =>
      r_ic (x := 0) (pc2 := 37) rfl ic_0 rfl (
      r_zast (len := 60) (pc2 := 38) rfl rfl (sh_T hs rfl rfl) (sh_L hs rfl rfl) rfl h6 (by decide) fun g13 => (
      r_iinc (kk := 1) (L2 := [some (.ref 44), some (gv (v1 + 1))]) (pc2 := 41) rfl ic_1 rfl rfl rfl (
      r_goto (t := 2) rfl (
      ih (v1 + 1) g13))))) (fun _ =>
      r_ic (x := 1) (pc2 := 33) rfl ic_1 rfl (
      r_goto (t := 37) rfl (
      r_zast (len := 60) (pc2 := 38) rfl rfl (sh_T hs rfl rfl) (sh_L hs rfl rfl) rfl h6 (by decide) fun g15 => (
      r_iinc (kk := 1) (L2 := [some (.ref 44), some (gv (v1 + 1))]) (pc2 := 41) rfl ic_1 rfl rfl rfl (
      r_goto (t := 2) rfl (
      ih (v1 + 1) g15)))))))))))))))))) (fun _ =>
      jr_leaf ⟨_, rfl, rfl⟩)))))
theorem rf_md_judges {s : gm_S} {n m : Nat} (hs : gm_sh s n m) (d : Nat)  (g : gm_T)   : jr (eV s) (md_judges g ) (jm_cl jm_CD km_n (d + 7) 270 [.ref 44] (gm_h s g)) := by
  unfold md_judges
  exact (r_ent (cd := cd_270) (n := 2) (L0 := [some (.ref 44), none]) rfl rfl rfl rfl (
      r_ic (x := 0) (pc2 := 1) rfl ic_0 rfl (
      r_istore (L2 := [some (.ref 44), some (gv 0)]) (pc2 := 2) rfl rfl rfl (
      r_b1 (rl_md_judges_l2 hs d     fz 0 g  ) (fun g18 c h => match c, h with | _, ⟨j17, hj17, rfl⟩ => (
      r_vret rfl rfl))))))
theorem rl_md_provedFrom_l10 {s : gm_S} {n m : Nat} (hs : gm_sh s n m) (d : Nat)  (g : gm_T)   : ∀ (fuel : Nat) (v3 : Int) (v4 : Int) (j2 : Option Value) (hj2 : jm_lg j2 = false), jr (fun (q : Int) (c : Option jm_R) => ∃ (j6 : Option Value), jm_lg j6 = false ∧ c = jm_sup cd_271 (jm_cl jm_CD km_n (d + 2)) (69, [some (.ref 44), j2, some (gv q), j6], [], gm_h s g)) (md_provedFrom_l10 g  fuel v3 v4) (jm_sup cd_271 (jm_cl jm_CD km_n (d + 2)) (10, [some (.ref 44), j2, some (gv v3), some (gv v4)], [], gm_h s g)) := by
  intro fuel
  induction fuel with
  | zero => intros; exact jr_none
  | succ fuel ih =>
    intro v3 v4 j2 hj2
    unfold md_provedFrom_l10
    exact (
      r_iload (pc2 := 11) rfl rfl rfl (
      r_aload (pc2 := 12) rfl rfl rfl (
      r_getI (pc2 := 15) rfl rfl (sh_T hs rfl rfl) (
      jr_g fun h7 => r_cge (pc2 := 18) (t := 69) rfl h7.1 h7.2 rfl (fun _ =>
      r_aload (pc2 := 19) rfl rfl rfl (
      r_getA (pc2 := 22) rfl rfl (sh_T hs rfl rfl) (sh_A hs rfl rfl) (
      r_iload (pc2 := 23) rfl rfl rfl (
      jr_g fun h8 => r_iald (len := 30) (pc2 := 24) rfl rfl (sh_T hs rfl rfl) (sh_L hs rfl rfl) rfl h8 (
      jr_g fun h9 => r_ifeq (pc2 := 27) (t := 61) rfl h9 rfl (fun _ =>
      r_iload (pc2 := 62) rfl rfl rfl (
      r_istore (L2 := [some (.ref 44), j2, some (gv v3), some (gv v4)]) (pc2 := 63) rfl rfl (jm_st1j hj2 rfl ⟨rfl, rfl⟩) (
      r_iinc (kk := 1) (L2 := [some (.ref 44), j2, some (gv v3), some (gv (v4 + 1))]) (pc2 := 66) rfl ic_1 rfl rfl rfl (
      r_goto (t := 10) rfl (
      ih v3 (v4 + 1) _ hj2))))) (fun _ =>
      r_aload (pc2 := 28) rfl rfl rfl (
      r_getA (pc2 := 31) rfl rfl (sh_T hs rfl rfl) (sh_A hs rfl rfl) (
      r_iload (pc2 := 32) rfl rfl rfl (
      r_iald (len := 30) (pc2 := 33) rfl rfl (sh_T hs rfl rfl) (sh_L hs rfl rfl) rfl h8 (
      r_ic (x := -1) (pc2 := 34) rfl ic_m1 rfl (
      jr_g fun h11 => r_ceq (pc2 := 37) (t := 61) rfl h11 (rgk rfl) rfl (fun _ =>
      r_iload (pc2 := 62) rfl rfl rfl (
      r_istore (L2 := [some (.ref 44), j2, some (gv v3), some (gv v4)]) (pc2 := 63) rfl rfl (jm_st1j hj2 rfl ⟨rfl, rfl⟩) (
      r_iinc (kk := 1) (L2 := [some (.ref 44), j2, some (gv v3), some (gv (v4 + 1))]) (pc2 := 66) rfl ic_1 rfl rfl rfl (
      r_goto (t := 10) rfl (
      ih v3 (v4 + 1) _ hj2))))) (fun _ =>
      r_iload (pc2 := 38) rfl rfl rfl (
      r_ic (x := -1) (pc2 := 39) rfl ic_m1 rfl (
      jr_g fun h13 => r_ceq (pc2 := 42) (t := 57) rfl h13 (rgk rfl) rfl (fun _ =>
      r_iload (pc2 := 58) rfl rfl rfl (
      r_goto (t := 62) rfl (
      r_istore (L2 := [some (.ref 44), j2, some (gv v4), some (gv v4)]) (pc2 := 63) rfl rfl (jm_st1j hj2 rfl ⟨rfl, rfl⟩) (
      r_iinc (kk := 1) (L2 := [some (.ref 44), j2, some (gv v4), some (gv (v4 + 1))]) (pc2 := 66) rfl ic_1 rfl rfl rfl (
      r_goto (t := 10) rfl (
      ih v4 (v4 + 1) _ hj2)))))) (fun _ =>
      r_aload (pc2 := 43) rfl rfl rfl (
      r_getA (pc2 := 46) rfl rfl (sh_T hs rfl rfl) (sh_A hs rfl rfl) (
      r_iload (pc2 := 47) rfl rfl rfl (
      r_iald (len := 30) (pc2 := 48) rfl rfl (sh_T hs rfl rfl) (sh_L hs rfl rfl) rfl h8 (
      r_aload (pc2 := 49) rfl rfl rfl (
      r_getA (pc2 := 52) rfl rfl (sh_T hs rfl rfl) (sh_A hs rfl rfl) (
      r_iload (pc2 := 53) rfl rfl rfl (
      jr_g fun h15 => r_iald (len := 30) (pc2 := 54) rfl rfl (sh_T hs rfl rfl) (sh_L hs rfl rfl) rfl h15 (
      jr_g fun h16 => r_cge (pc2 := 57) (t := 61) rfl h11 h16 rfl (fun _ =>
      r_iload (pc2 := 58) rfl rfl rfl (
      r_goto (t := 62) rfl (
      r_istore (L2 := [some (.ref 44), j2, some (gv v4), some (gv v4)]) (pc2 := 63) rfl rfl (jm_st1j hj2 rfl ⟨rfl, rfl⟩) (
      r_iinc (kk := 1) (L2 := [some (.ref 44), j2, some (gv v4), some (gv (v4 + 1))]) (pc2 := 66) rfl ic_1 rfl rfl rfl (
      r_goto (t := 10) rfl (
      ih v4 (v4 + 1) _ hj2)))))) (fun _ =>
      r_iload (pc2 := 62) rfl rfl rfl (
      r_istore (L2 := [some (.ref 44), j2, some (gv v3), some (gv v4)]) (pc2 := 63) rfl rfl (jm_st1j hj2 rfl ⟨rfl, rfl⟩) (
      r_iinc (kk := 1) (L2 := [some (.ref 44), j2, some (gv v3), some (gv (v4 + 1))]) (pc2 := 66) rfl ic_1 rfl rfl rfl (
      r_goto (t := 10) rfl (
      ih v3 (v4 + 1) _ hj2)))))))))))))))))))))))))))) (fun _ =>
      jr_leaf ⟨_, rfl, rfl⟩)))))
theorem rf_md_provedFrom {s : gm_S} {n m : Nat} (hs : gm_sh s n m) (d : Nat)  (g : gm_T) (a1 : Int)  : jr (eI s) (md_provedFrom g a1) (jm_cl jm_CD km_n (d + 3) 271 [.ref 44, gv a1] (gm_h s g)) := by
  unfold md_provedFrom
  exact (r_ent (cd := cd_271) (n := 4) (L0 := [some (.ref 44), some (gv a1), none, none]) rfl rfl rfl rfl (
      r_aload (pc2 := 1) rfl rfl rfl (
      r_iload (pc2 := 2) rfl rfl rfl (
      r_ic (x := 1) (pc2 := 3) rfl ic_1 rfl (
      r_callVV (pc2 := 6) (args := [.ref 44, gv a1, gv 1]) (st2 := []) rfl rfl rfl rfl rfl rfl (rc_of (sh_T hs rfl rfl)) (rf_md_reckons hs d g a1 1 ) fun g1 => (
      r_ic (x := -1) (pc2 := 7) rfl ic_m1 rfl (
      r_istore (L2 := [some (.ref 44), some (gv a1), some (gv (-1)), none]) (pc2 := 8) rfl rfl rfl (
      r_ic (x := 0) (pc2 := 9) rfl ic_0 rfl (
      r_istore (L2 := [some (.ref 44), some (gv a1), some (gv (-1)), some (gv 0)]) (pc2 := 10) rfl rfl rfl (
      r_b1 (rl_md_provedFrom_l10 hs d  g1   fz (-1) 0 _ rfl) (fun v20 c h => match c, h with | _, ⟨j21, hj21, rfl⟩ => (
      r_iload (pc2 := 70) rfl rfl rfl (
      r_iret rfl rfl)))))))))))))
theorem rf_md_proof {s : gm_S} {n m : Nat} (hs : gm_sh s n m) (d : Nat)  (g : gm_T) (a1 : Int)  : jr (eI s) (md_proof g a1) (jm_cl jm_CD km_n (d + 8) 272 [.ref 44, gv a1] (gm_h s g)) := by
  unfold md_proof
  exact (r_ent (cd := cd_272) (n := 3) (L0 := [some (.ref 44), some (gv a1), none]) rfl rfl rfl rfl (
      r_aload (pc2 := 1) rfl rfl rfl (
      r_iload (pc2 := 2) rfl rfl rfl (
      r_callVP (pc2 := 5) (args := [.ref 44, gv a1]) (st2 := []) rfl rfl rfl rfl rfl rfl (rc_of (sh_T hs rfl rfl)) (rf_md_isBit hs (d + 5) g a1 ) fun v1 => (
      jr_g fun h2 => r_ifne (pc2 := 8) (t := 10) rfl h2 rfl (fun _ =>
      r_ic (x := -1) (pc2 := 9) rfl ic_m1 rfl (
      r_iret rfl rfl)) (fun _ =>
      r_aload (pc2 := 11) rfl rfl rfl (
      r_callVV (pc2 := 14) (args := [.ref 44]) (st2 := []) rfl rfl rfl rfl rfl rfl (rc_of (sh_T hs rfl rfl)) (rf_md_judges hs d g ) fun g3 => (
      r_aload (pc2 := 15) rfl rfl rfl (
      r_iload (pc2 := 16) rfl rfl rfl (
      r_callVI (pc2 := 19) (args := [.ref 44, gv a1]) (st2 := []) rfl rfl rfl rfl rfl rfl (rc_of (sh_T hs rfl rfl)) (rf_md_provedFrom hs (d + 4) g3 a1 ) fun v4 g5 => (
      r_istore (L2 := [some (.ref 44), some (gv a1), some (gv v4)]) (pc2 := 20) rfl rfl rfl (
      r_iload (pc2 := 21) rfl rfl rfl (
      r_ic (x := -1) (pc2 := 22) rfl ic_m1 rfl (
      jr_g fun h6 => r_cne (pc2 := 25) (t := 30) rfl h6 (rgk rfl) rfl (fun _ =>
      r_ic (x := -3) (pc2 := 27) rfl ic_m3 rfl (
      r_goto (t := 36) rfl (
      r_iret rfl rfl))) (fun _ =>
      r_aload (pc2 := 31) rfl rfl rfl (
      r_getA (pc2 := 34) rfl rfl (sh_T hs rfl rfl) (sh_A hs rfl rfl) (
      r_iload (pc2 := 35) rfl rfl rfl (
      jr_g fun h7 => r_iald (len := 30) (pc2 := 36) rfl rfl (sh_T hs rfl rfl) (sh_L hs rfl rfl) rfl h7 (
      r_iret rfl rfl)))))))))))))))))))
theorem rf_md_reason {s : gm_S} {n m : Nat} (hs : gm_sh s n m) (d : Nat)  (g : gm_T) (a1 : Int) (a2 : Int)  : jr (eI s) (md_reason g a1 a2) (jm_cl jm_CD km_n (d + 8) 273 [.ref 44, gv a1, gv a2] (gm_h s g)) := by
  unfold md_reason
  exact (r_ent (cd := cd_273) (n := 4) (L0 := [some (.ref 44), some (gv a1), some (gv a2), none]) rfl rfl rfl rfl (
      r_aload (pc2 := 1) rfl rfl rfl (
      r_iload (pc2 := 2) rfl rfl rfl (
      r_callVP (pc2 := 5) (args := [.ref 44, gv a1]) (st2 := []) rfl rfl rfl rfl rfl rfl (rc_of (sh_T hs rfl rfl)) (rf_md_isBit hs (d + 5) g a1 ) fun v1 => (
      jr_g fun h2 => r_ifne (pc2 := 8) (t := 10) rfl h2 rfl (fun _ =>
      r_ic (x := -1) (pc2 := 9) rfl ic_m1 rfl (
      r_iret rfl rfl)) (fun _ =>
      r_aload (pc2 := 11) rfl rfl rfl (
      r_callVV (pc2 := 14) (args := [.ref 44]) (st2 := []) rfl rfl rfl rfl rfl rfl (rc_of (sh_T hs rfl rfl)) (rf_md_judges hs d g ) fun g3 => (
      r_aload (pc2 := 15) rfl rfl rfl (
      r_iload (pc2 := 16) rfl rfl rfl (
      r_callVI (pc2 := 19) (args := [.ref 44, gv a1]) (st2 := []) rfl rfl rfl rfl rfl rfl (rc_of (sh_T hs rfl rfl)) (rf_md_provedFrom hs (d + 4) g3 a1 ) fun v4 g5 => (
      r_istore (L2 := [some (.ref 44), some (gv a1), some (gv a2), some (gv v4)]) (pc2 := 20) rfl rfl rfl (
      r_iload (pc2 := 21) rfl rfl rfl (
      r_ic (x := -1) (pc2 := 22) rfl ic_m1 rfl (
      jr_g fun h6 => r_cne (pc2 := 25) (t := 27) rfl h6 (rgk rfl) rfl (fun _ =>
      r_ic (x := -1) (pc2 := 26) rfl ic_m1 rfl (
      r_iret rfl rfl)) (fun _ =>
      r_aload (pc2 := 28) rfl rfl rfl (
      r_ic (x := 0) (pc2 := 29) rfl ic_0 rfl (
      r_putI (pc2 := 32) rfl rfl (sh_T hs rfl rfl) fun g7 => (
      r_aload (pc2 := 33) rfl rfl rfl (
      r_iload (pc2 := 34) rfl rfl rfl (
      r_iload (pc2 := 35) rfl rfl rfl (
      r_ic (x := 1) (pc2 := 36) rfl ic_1 rfl (
      r_callVV (pc2 := 39) (args := [.ref 44, gv v4, gv a1, gv 1]) (st2 := []) rfl rfl rfl rfl rfl rfl (rc_of (sh_T hs rfl rfl)) (rf_md_goes hs (d + 4) g7 v4 a1 1 ) fun g8 => (
      r_iload (pc2 := 40) rfl rfl rfl (
      r_ic (x := 0) (pc2 := 41) rfl ic_0 rfl (
      r_aload (pc2 := 42) rfl rfl rfl (
      r_getI (pc2 := 45) rfl rfl (sh_T hs rfl rfl) (
      r_ic (x := 1) (pc2 := 46) rfl ic_1 rfl (
      r_isub (pc2 := 47) rfl rfl (
      r_callSP (pc2 := 50) (args := [gv a2, gv 0, gv ((gm_I g8 44 55) - 1)]) (st2 := []) rfl rfl rfl rfl rfl rfl (rf_md_in hs (d + 6) g8 a2 0 ((gm_I g8 44 55) - 1) ) fun v9 => (
      jr_g fun h10 => r_ifeq (pc2 := 53) (t := 62) rfl h10 rfl (fun _ =>
      r_ic (x := -1) (pc2 := 63) rfl ic_m1 rfl (
      r_iret rfl rfl)) (fun _ =>
      r_aload (pc2 := 54) rfl rfl rfl (
      r_getA (pc2 := 57) rfl rfl (sh_T hs rfl rfl) (sh_A hs rfl rfl) (
      r_iload (pc2 := 58) rfl rfl rfl (
      jr_g fun h11 => r_iald (len := 60) (pc2 := 59) rfl rfl (sh_T hs rfl rfl) (sh_L hs rfl rfl) rfl h11 (
      r_goto (t := 63) rfl (
      r_iret rfl rfl))))))))))))))))))))))))))))))))))))
theorem rl_md_readsRows_l28 {s : gm_S} {n m : Nat} (hs : gm_sh s n m) (d : Nat)    : ∀ (fuel : Nat) (v13 : Int) (g14 : gm_T) (j12 : Option Value) (hj12 : jm_lg j12 = false), jr (fun (q : Int × gm_T) (c : Option jm_R) => c = jm_sup cd_274 (jm_cl jm_CD km_n (d + 2)) (114, [some (.ref 44), j12, some (gv q.1)], [], gm_h s q.2)) (md_readsRows_l28   fuel v13 g14) (jm_sup cd_274 (jm_cl jm_CD km_n (d + 2)) (28, [some (.ref 44), j12, some (gv v13)], [], gm_h s g14)) := by
  intro fuel
  induction fuel with
  | zero => intros; exact jr_none
  | succ fuel ih =>
    intro v13 g14 j12 hj12
    unfold md_readsRows_l28
    exact (
      r_aload (pc2 := 29) rfl rfl rfl (
      r_callVP (pc2 := 32) (args := [.ref 44]) (st2 := []) rfl rfl rfl rfl rfl rfl (rc_of (sh_T hs rfl rfl)) (rf_md_isDigit hs d g14 ) fun v17 => (
      jr_g fun h18 => r_ifne (pc2 := 35) (t := 44) rfl h18 rfl (fun _ =>
      r_aload (pc2 := 36) rfl rfl rfl (
      r_callVP (pc2 := 39) (args := [.ref 44]) (st2 := []) rfl rfl rfl rfl rfl rfl (rc_of (sh_T hs rfl rfl)) (rf_md_byteAt hs (d + 1) g14 ) fun v19 => (
      r_ic (x := 46) (pc2 := 41) rfl ic_46 rfl (
      jr_g fun h20 => r_cne (pc2 := 44) (t := 114) rfl h20 (rgk rfl) rfl (fun _ =>
      r_iload (pc2 := 45) rfl rfl rfl (
      r_aload (pc2 := 46) rfl rfl rfl (
      r_getI (pc2 := 49) rfl rfl (sh_T hs rfl rfl) (
      r_b1 (R1 := (fun (q : Int) (c : Option jm_R) => c = jm_sup cd_274 (jm_cl jm_CD km_n (d + 2)) (61, [some (.ref 44), j12, some (gv v13)], [gv q, gv v13], gm_h s g14))) (
      jr_g fun h22 => r_ifne (pc2 := 52) (t := 57) rfl h22 rfl (fun _ =>
      r_ic (x := 16) (pc2 := 54) rfl ic_16 rfl (
      r_goto (t := 61) rfl (
      jr_leaf rfl))) (fun _ =>
      r_aload (pc2 := 58) rfl rfl rfl (
      r_getI (pc2 := 61) rfl rfl (sh_T hs rfl rfl) (
      jr_leaf rfl)))) (fun v21 c h => match c, h with | _, rfl => (
      jr_g fun h23 => r_cge (pc2 := 64) (t := 114) rfl h23.1 h23.2 rfl (fun _ =>
      r_aload (pc2 := 65) rfl rfl rfl (
      r_getA (pc2 := 68) rfl rfl (sh_T hs rfl rfl) (sh_A hs rfl rfl) (
      r_ic (x := 16) (pc2 := 70) rfl ic_16 rfl (
      r_aload (pc2 := 71) rfl rfl rfl (
      r_getI (pc2 := 74) rfl rfl (sh_T hs rfl rfl) (
      r_imul (pc2 := 75) rfl rfl (
      r_iload (pc2 := 76) rfl rfl rfl (
      r_iadd (pc2 := 77) rfl rfl (
      r_aload (pc2 := 78) rfl rfl rfl (
      r_callVP (pc2 := 81) (args := [.ref 44]) (st2 := [gv ((16 * (gm_I g14 44 67)) + v13), .ref 89]) rfl rfl rfl rfl rfl rfl (rc_of (sh_T hs rfl rfl)) (rf_md_byteAt hs (d + 1) g14 ) fun v24 => (
      r_ic (x := 46) (pc2 := 83) rfl ic_46 rfl (
      r_b1 (R1 := (fun (q : Int) (c : Option jm_R) => c = jm_sup cd_274 (jm_cl jm_CD km_n (d + 2)) (97, [some (.ref 44), j12, some (gv v13)], [gv q, gv ((16 * (gm_I g14 44 67)) + v13), .ref 89], gm_h s g14))) (
      jr_g fun h26 => r_cne (pc2 := 86) (t := 90) rfl h26 (rgk rfl) rfl (fun _ =>
      r_ic (x := -1) (pc2 := 87) rfl ic_m1 rfl (
      r_goto (t := 97) rfl (
      jr_leaf rfl))) (fun _ =>
      r_aload (pc2 := 91) rfl rfl rfl (
      r_callVP (pc2 := 94) (args := [.ref 44]) (st2 := [gv ((16 * (gm_I g14 44 67)) + v13), .ref 89]) rfl rfl rfl rfl rfl rfl (rc_of (sh_T hs rfl rfl)) (rf_md_byteAt hs (d + 1) g14 ) fun v27 => (
      r_ic (x := 48) (pc2 := 96) rfl ic_48 rfl (
      r_isub (pc2 := 97) rfl rfl (
      jr_leaf rfl)))))) (fun v25 c h => match c, h with | _, rfl => (
      jr_g fun h29 => r_iast (len := 256) (pc2 := 98) rfl rfl (sh_T hs rfl rfl) (sh_L hs rfl rfl) rfl h29 fun g28 => (
      r_aload (pc2 := 99) rfl rfl rfl (
      r_dup (pc2 := 100) rfl rfl rfl (
      r_getI (pc2 := 103) rfl rfl (sh_T hs rfl rfl) (
      r_ic (x := 1) (pc2 := 104) rfl ic_1 rfl (
      r_iadd (pc2 := 105) rfl rfl (
      r_putI (pc2 := 108) rfl rfl (sh_T hs rfl rfl) fun g30 => (
      r_iinc (kk := 1) (L2 := [some (.ref 44), j12, some (gv (v13 + 1))]) (pc2 := 111) rfl ic_1 rfl rfl (jm_st1j hj12 rfl ⟨rfl, rfl⟩) (
      r_goto (t := 28) rfl (
      ih (v13 + 1) g30 _ hj12))))))))))))))))))))))) (fun _ =>
      jr_leaf rfl))))))) (fun _ =>
      jr_leaf rfl))))) (fun _ =>
      r_iload (pc2 := 45) rfl rfl rfl (
      r_aload (pc2 := 46) rfl rfl rfl (
      r_getI (pc2 := 49) rfl rfl (sh_T hs rfl rfl) (
      r_b1 (R1 := (fun (q : Int) (c : Option jm_R) => c = jm_sup cd_274 (jm_cl jm_CD km_n (d + 2)) (61, [some (.ref 44), j12, some (gv v13)], [gv q, gv v13], gm_h s g14))) (
      jr_g fun h33 => r_ifne (pc2 := 52) (t := 57) rfl h33 rfl (fun _ =>
      r_ic (x := 16) (pc2 := 54) rfl ic_16 rfl (
      r_goto (t := 61) rfl (
      jr_leaf rfl))) (fun _ =>
      r_aload (pc2 := 58) rfl rfl rfl (
      r_getI (pc2 := 61) rfl rfl (sh_T hs rfl rfl) (
      jr_leaf rfl)))) (fun v32 c h => match c, h with | _, rfl => (
      jr_g fun h34 => r_cge (pc2 := 64) (t := 114) rfl h34.1 h34.2 rfl (fun _ =>
      r_aload (pc2 := 65) rfl rfl rfl (
      r_getA (pc2 := 68) rfl rfl (sh_T hs rfl rfl) (sh_A hs rfl rfl) (
      r_ic (x := 16) (pc2 := 70) rfl ic_16 rfl (
      r_aload (pc2 := 71) rfl rfl rfl (
      r_getI (pc2 := 74) rfl rfl (sh_T hs rfl rfl) (
      r_imul (pc2 := 75) rfl rfl (
      r_iload (pc2 := 76) rfl rfl rfl (
      r_iadd (pc2 := 77) rfl rfl (
      r_aload (pc2 := 78) rfl rfl rfl (
      r_callVP (pc2 := 81) (args := [.ref 44]) (st2 := [gv ((16 * (gm_I g14 44 67)) + v13), .ref 89]) rfl rfl rfl rfl rfl rfl (rc_of (sh_T hs rfl rfl)) (rf_md_byteAt hs (d + 1) g14 ) fun v35 => (
      r_ic (x := 46) (pc2 := 83) rfl ic_46 rfl (
      r_b1 (R1 := (fun (q : Int) (c : Option jm_R) => c = jm_sup cd_274 (jm_cl jm_CD km_n (d + 2)) (97, [some (.ref 44), j12, some (gv v13)], [gv q, gv ((16 * (gm_I g14 44 67)) + v13), .ref 89], gm_h s g14))) (
      jr_g fun h37 => r_cne (pc2 := 86) (t := 90) rfl h37 (rgk rfl) rfl (fun _ =>
      r_ic (x := -1) (pc2 := 87) rfl ic_m1 rfl (
      r_goto (t := 97) rfl (
      jr_leaf rfl))) (fun _ =>
      r_aload (pc2 := 91) rfl rfl rfl (
      r_callVP (pc2 := 94) (args := [.ref 44]) (st2 := [gv ((16 * (gm_I g14 44 67)) + v13), .ref 89]) rfl rfl rfl rfl rfl rfl (rc_of (sh_T hs rfl rfl)) (rf_md_byteAt hs (d + 1) g14 ) fun v38 => (
      r_ic (x := 48) (pc2 := 96) rfl ic_48 rfl (
      r_isub (pc2 := 97) rfl rfl (
      jr_leaf rfl)))))) (fun v36 c h => match c, h with | _, rfl => (
      jr_g fun h40 => r_iast (len := 256) (pc2 := 98) rfl rfl (sh_T hs rfl rfl) (sh_L hs rfl rfl) rfl h40 fun g39 => (
      r_aload (pc2 := 99) rfl rfl rfl (
      r_dup (pc2 := 100) rfl rfl rfl (
      r_getI (pc2 := 103) rfl rfl (sh_T hs rfl rfl) (
      r_ic (x := 1) (pc2 := 104) rfl ic_1 rfl (
      r_iadd (pc2 := 105) rfl rfl (
      r_putI (pc2 := 108) rfl rfl (sh_T hs rfl rfl) fun g41 => (
      r_iinc (kk := 1) (L2 := [some (.ref 44), j12, some (gv (v13 + 1))]) (pc2 := 111) rfl ic_1 rfl rfl (jm_st1j hj12 rfl ⟨rfl, rfl⟩) (
      r_goto (t := 28) rfl (
      ih (v13 + 1) g41 _ hj12))))))))))))))))))))))) (fun _ =>
      jr_leaf rfl))))))))))
theorem rl_md_readsRows_l22 {s : gm_S} {n m : Nat} (hs : gm_sh s n m) (d : Nat)    : ∀ (fuel : Nat) (v5 : Int) (g7 : gm_T) (j6 : Option Value) (hj6 : jm_lg j6 = false), jr (fun (q : gm_T) (c : Option jm_R) => ∃ (j8 : Option Value) (j9 : Option Value), jm_lg j8 = false ∧ jm_lg j9 = false ∧ c = jm_sup cd_274 (jm_cl jm_CD km_n (d + 2)) (216, [some (.ref 44), j8, j9], [], gm_h s q)) (md_readsRows_l22   fuel v5 g7) (jm_sup cd_274 (jm_cl jm_CD km_n (d + 2)) (22, [some (.ref 44), some (gv v5), j6], [], gm_h s g7)) := by
  intro fuel
  induction fuel with
  | zero => intros; exact jr_none
  | succ fuel ih =>
    intro v5 g7 j6 hj6
    unfold md_readsRows_l22
    exact (
      r_iload (pc2 := 23) rfl rfl rfl (
      jr_g fun h11 => r_ifeq (pc2 := 26) (t := 216) rfl h11 rfl (fun _ =>
      jr_leaf ⟨_, _, rfl, hj6, rfl⟩) (fun _ =>
      r_ic (x := 0) (pc2 := 27) rfl ic_0 rfl (
      r_istore (L2 := [some (.ref 44), some (gv v5), some (gv 0)]) (pc2 := 28) rfl rfl rfl (
      r_b2 (rl_md_readsRows_l28 hs d     fz 0 g7 _ rfl) (fun v44 g45 c h => match c, h with | _, rfl => (
      r_aload (pc2 := 115) rfl rfl rfl (
      r_aload (pc2 := 116) rfl rfl rfl (
      r_getI (pc2 := 119) rfl rfl (sh_T hs rfl rfl) (
      r_b1 (R1 := (fun (q : Int) (c : Option jm_R) => c = jm_sup cd_274 (jm_cl jm_CD km_n (d + 2)) (130, [some (.ref 44), some (gv v5), some (gv v44)], [gv q, .ref 44], gm_h s g45))) (
      jr_g fun h47 => r_ifne (pc2 := 122) (t := 126) rfl h47 rfl (fun _ =>
      r_iload (pc2 := 123) rfl rfl rfl (
      r_goto (t := 130) rfl (
      jr_leaf rfl))) (fun _ =>
      r_aload (pc2 := 127) rfl rfl rfl (
      r_getI (pc2 := 130) rfl rfl (sh_T hs rfl rfl) (
      jr_leaf rfl)))) (fun v46 c h => match c, h with | _, rfl => (
      r_putI (pc2 := 133) rfl rfl (sh_T hs rfl rfl) fun g48 => (
      r_aload (pc2 := 134) rfl rfl rfl (
      r_iload (pc2 := 135) rfl rfl rfl (
      r_b1 (R1 := (fun (q : Int) (c : Option jm_R) => c = jm_sup cd_274 (jm_cl jm_CD km_n (d + 2)) (151, [some (.ref 44), some (gv v5), some (gv v44)], [gv q, .ref 44], gm_h s g48))) (
      jr_g fun h50 => r_ifeq (pc2 := 138) (t := 146) rfl h50 rfl (fun _ =>
      r_ic (x := 1) (pc2 := 147) rfl ic_1 rfl (
      r_goto (t := 151) rfl (
      jr_leaf rfl))) (fun _ =>
      r_iload (pc2 := 139) rfl rfl rfl (
      r_aload (pc2 := 140) rfl rfl rfl (
      r_getI (pc2 := 143) rfl rfl (sh_T hs rfl rfl) (
      jr_g fun h51 => r_cge (pc2 := 146) (t := 150) rfl h50 h51 rfl (fun _ =>
      r_ic (x := 1) (pc2 := 147) rfl ic_1 rfl (
      r_goto (t := 151) rfl (
      jr_leaf rfl))) (fun _ =>
      r_ic (x := 0) (pc2 := 151) rfl ic_0 rfl (
      jr_leaf rfl))))))) (fun v49 c h => match c, h with | _, rfl => (
      jr_g fun hz => r_putZ (pc2 := 154) rfl rfl (sh_T hs rfl rfl) hz fun g52 => (
      r_aload (pc2 := 155) rfl rfl rfl (
      r_dup (pc2 := 156) rfl rfl rfl (
      r_getI (pc2 := 159) rfl rfl (sh_T hs rfl rfl) (
      r_ic (x := 1) (pc2 := 160) rfl ic_1 rfl (
      r_iadd (pc2 := 161) rfl rfl (
      r_putI (pc2 := 164) rfl rfl (sh_T hs rfl rfl) fun g53 => (
      r_aload (pc2 := 165) rfl rfl rfl (
      r_getI (pc2 := 168) rfl rfl (sh_T hs rfl rfl) (
      r_b1 (R1 := (fun (q : Int) (c : Option jm_R) => c = jm_sup cd_274 (jm_cl jm_CD km_n (d + 2)) (194, [some (.ref 44), some (gv v5), some (gv v44)], [gv q], gm_h s g53))) (
      jr_g fun h55 => r_ifne (pc2 := 171) (t := 193) rfl h55 rfl (fun _ =>
      r_aload (pc2 := 172) rfl rfl rfl (
      r_getI (pc2 := 175) rfl rfl (sh_T hs rfl rfl) (
      r_ic (x := 16) (pc2 := 177) rfl ic_16 rfl (
      jr_g fun h56 => r_cge (pc2 := 180) (t := 193) rfl h56 (rgk rfl) rfl (fun _ =>
      r_aload (pc2 := 181) rfl rfl rfl (
      r_callVP (pc2 := 184) (args := [.ref 44]) (st2 := []) rfl rfl rfl rfl rfl rfl (rc_of (sh_T hs rfl rfl)) (rf_md_byteAt hs (d + 1) g53 ) fun v57 => (
      r_ic (x := 47) (pc2 := 186) rfl ic_47 rfl (
      jr_g fun h58 => r_cne (pc2 := 189) (t := 193) rfl h58 (rgk rfl) rfl (fun _ =>
      r_ic (x := 1) (pc2 := 190) rfl ic_1 rfl (
      r_goto (t := 194) rfl (
      jr_leaf rfl))) (fun _ =>
      r_ic (x := 0) (pc2 := 194) rfl ic_0 rfl (
      jr_leaf rfl)))))) (fun _ =>
      r_ic (x := 0) (pc2 := 194) rfl ic_0 rfl (
      jr_leaf rfl)))))) (fun _ =>
      r_ic (x := 0) (pc2 := 194) rfl ic_0 rfl (
      jr_leaf rfl))) (fun v54 c h => match c, h with | _, rfl => (
      r_istore (L2 := [some (.ref 44), some (gv v54), some (gv v44)]) (pc2 := 195) rfl rfl rfl (
      r_aload (pc2 := 196) rfl rfl rfl (
      r_dup (pc2 := 197) rfl rfl rfl (
      r_getI (pc2 := 200) rfl rfl (sh_T hs rfl rfl) (
      r_iload (pc2 := 201) rfl rfl rfl (
      jr_g fun h59 => r_ifeq (pc2 := 204) (t := 208) rfl h59 rfl (fun _ =>
      r_ic (x := 0) (pc2 := 209) rfl ic_0 rfl (
      r_iadd (pc2 := 210) rfl rfl (
      r_putI (pc2 := 213) rfl rfl (sh_T hs rfl rfl) fun g60 => (
      r_goto (t := 22) rfl (
      ih v54 g60 _ rfl))))) (fun _ =>
      r_ic (x := 1) (pc2 := 205) rfl ic_1 rfl (
      r_goto (t := 209) rfl (
      r_iadd (pc2 := 210) rfl rfl (
      r_putI (pc2 := 213) rfl rfl (sh_T hs rfl rfl) fun g61 => (
      r_goto (t := 22) rfl (
      ih v54 g61 _ rfl)))))))))))))))))))))))))))))))))))))))
theorem rf_md_readsRows {s : gm_S} {n m : Nat} (hs : gm_sh s n m) (d : Nat)  (g : gm_T)   : jr (eV s) (md_readsRows g ) (jm_cl jm_CD km_n (d + 3) 274 [.ref 44] (gm_h s g)) := by
  unfold md_readsRows
  exact (r_ent (cd := cd_274) (n := 3) (L0 := [some (.ref 44), none, none]) rfl rfl rfl rfl (
      r_aload (pc2 := 1) rfl rfl rfl (
      r_ic (x := 0) (pc2 := 2) rfl ic_0 rfl (
      r_putI (pc2 := 5) rfl rfl (sh_T hs rfl rfl) fun g1 => (
      r_aload (pc2 := 6) rfl rfl rfl (
      r_ic (x := 0) (pc2 := 7) rfl ic_0 rfl (
      r_putZ (pc2 := 10) rfl rfl (sh_T hs rfl rfl) (by decide) fun g2 => (
      r_aload (pc2 := 11) rfl rfl rfl (
      r_ic (x := 0) (pc2 := 12) rfl ic_0 rfl (
      r_putI (pc2 := 15) rfl rfl (sh_T hs rfl rfl) fun g3 => (
      r_aload (pc2 := 16) rfl rfl rfl (
      r_ic (x := 0) (pc2 := 17) rfl ic_0 rfl (
      r_putI (pc2 := 20) rfl rfl (sh_T hs rfl rfl) fun g4 => (
      r_ic (x := 1) (pc2 := 21) rfl ic_1 rfl (
      r_istore (L2 := [some (.ref 44), some (gv 1), none]) (pc2 := 22) rfl rfl rfl (
      r_b1 (rl_md_readsRows_l22 hs d     fz 1 g4 _ rfl) (fun g64 c h => match c, h with | _, ⟨j62, j63, hj62, hj63, rfl⟩ => (
      r_aload (pc2 := 217) rfl rfl rfl (
      r_aload (pc2 := 218) rfl rfl rfl (
      r_getI (pc2 := 221) rfl rfl (sh_T hs rfl rfl) (
      jr_g fun h65 => r_ifne (pc2 := 224) (t := 235) rfl h65 rfl (fun _ =>
      r_aload (pc2 := 225) rfl rfl rfl (
      r_getI (pc2 := 228) rfl rfl (sh_T hs rfl rfl) (
      r_aload (pc2 := 229) rfl rfl rfl (
      r_getI (pc2 := 232) rfl rfl (sh_T hs rfl rfl) (
      jr_g fun h66 => r_ceq (pc2 := 235) (t := 239) rfl h66.1 h66.2 rfl (fun _ =>
      r_ic (x := 0) (pc2 := 240) rfl ic_0 rfl (
      r_putZ (pc2 := 243) rfl rfl (sh_T hs rfl rfl) (by decide) fun g67 => (
      r_vret rfl rfl))) (fun _ =>
      r_ic (x := 1) (pc2 := 236) rfl ic_1 rfl (
      r_goto (t := 240) rfl (
      r_putZ (pc2 := 243) rfl rfl (sh_T hs rfl rfl) (by decide) fun g68 => (
      r_vret rfl rfl))))))))) (fun _ =>
      r_ic (x := 1) (pc2 := 236) rfl ic_1 rfl (
      r_goto (t := 240) rfl (
      r_putZ (pc2 := 243) rfl rfl (sh_T hs rfl rfl) (by decide) fun g69 => (
      r_vret rfl rfl)))))))))))))))))))))))))
theorem rl_md_photograph_l114 {s : gm_S} {n m : Nat} (hs : gm_sh s n m) (d : Nat)  (c36 : Int)  : ∀ (fuel : Nat) (v34 : Int) (v35 : Int) (v37 : Int) (g39 : gm_T) (j31 : Option Value) (j32 : Option Value) (j33 : Option Value) (j38 : Option Value) (hj31 : jm_lg j31 = false) (hj32 : jm_lg j32 = false) (hj33 : jm_lg j33 = false) (hj38 : jm_lg j38 = false), jr (fun (q : Int × Int × gm_T) (c : Option jm_R) => ∃ (j42 : Option Value) (j43 : Option Value), jm_lg j42 = false ∧ jm_lg j43 = false ∧ c = jm_sup cd_275 (jm_cl jm_CD km_n (d + 3)) (211, [some (.ref 44), j31, j32, j33, some (gv q.1), some (gv q.2.1), some (gv c36), j42, j43], [], gm_h s q.2.2)) (md_photograph_l114  c36 fuel v34 v35 v37 g39) (jm_sup cd_275 (jm_cl jm_CD km_n (d + 3)) (114, [some (.ref 44), j31, j32, j33, some (gv v34), some (gv v35), some (gv c36), some (gv v37), j38], [], gm_h s g39)) := by
  intro fuel
  induction fuel with
  | zero => intros; exact jr_none
  | succ fuel ih =>
    intro v34 v35 v37 g39 j31 j32 j33 j38 hj31 hj32 hj33 hj38
    unfold md_photograph_l114
    exact (
      r_iload (pc2 := 116) rfl rfl rfl (
      r_aload (pc2 := 117) rfl rfl rfl (
      r_getI (pc2 := 120) rfl rfl (sh_T hs rfl rfl) (
      jr_g fun h45 => r_cge (pc2 := 123) (t := 211) rfl h45.1 h45.2 rfl (fun _ =>
      r_aload (pc2 := 124) rfl rfl rfl (
      r_getA (pc2 := 127) rfl rfl (sh_T hs rfl rfl) (sh_A hs rfl rfl) (
      r_ic (x := 16) (pc2 := 129) rfl ic_16 rfl (
      r_aload (pc2 := 130) rfl rfl rfl (
      r_getI (pc2 := 133) rfl rfl (sh_T hs rfl rfl) (
      r_ic (x := 1) (pc2 := 134) rfl ic_1 rfl (
      r_isub (pc2 := 135) rfl rfl (
      r_iload (pc2 := 137) rfl rfl rfl (
      r_isub (pc2 := 138) rfl rfl (
      r_imul (pc2 := 139) rfl rfl (
      r_iload (pc2 := 141) rfl rfl rfl (
      r_iadd (pc2 := 142) rfl rfl (
      jr_g fun h46 => r_iald (len := 256) (pc2 := 143) rfl rfl (sh_T hs rfl rfl) (sh_L hs rfl rfl) rfl h46 (
      r_istoreL (L3 := fun v47 => [some (.ref 44), j31, j32, j33, some (gv v34), some (gv v35), some (gv c36), some (gv v37), some (gv v47)]) (pc2 := 145) rfl rfl (fun _ => rfl) fun v47 => (
      r_aload (pc2 := 146) rfl rfl rfl (
      r_getA (pc2 := 149) rfl rfl (sh_T hs rfl rfl) (sh_A hs rfl rfl) (
      r_ic (x := 16) (pc2 := 151) rfl ic_16 rfl (
      r_iload (pc2 := 153) rfl rfl rfl (
      r_imul (pc2 := 154) rfl rfl (
      r_iload (pc2 := 156) rfl rfl rfl (
      r_iadd (pc2 := 157) rfl rfl (
      r_iload (pc2 := 159) rfl rfl rfl (
      jr_g fun h49 => r_iast (len := 256) (pc2 := 160) rfl rfl (sh_T hs rfl rfl) (sh_L hs rfl rfl) rfl h49 fun g48 => (
      r_iload (pc2 := 162) rfl rfl rfl (
      r_iload (pc2 := 164) rfl rfl rfl (
      r_ic (x := -1) (pc2 := 165) rfl ic_m1 rfl (
      r_b1 (R1 := (fun (q : Int) (c : Option jm_R) => c = jm_sup cd_275 (jm_cl jm_CD km_n (d + 3)) (183, [some (.ref 44), j31, j32, j33, some (gv v34), some (gv v35), some (gv c36), some (gv v37), some (gv v47)], [gv q, gv v34], gm_h s g48))) (
      jr_g fun h51 => r_ceq (pc2 := 168) (t := 182) rfl h51 (rgk rfl) rfl (fun _ =>
      r_ic (x := 0) (pc2 := 183) rfl ic_0 rfl (
      jr_leaf rfl)) (fun _ =>
      r_iload (pc2 := 170) rfl rfl rfl (
      r_iload (pc2 := 172) rfl rfl rfl (
      r_ishr (pc2 := 173) rfl rfl (
      r_ic (x := 1) (pc2 := 174) rfl ic_1 rfl (
      r_iand (pc2 := 175) rfl rfl (
      r_ifne (pc2 := 178) (t := 182) rfl (rg_toInt _) rfl (fun _ =>
      r_ic (x := 1) (pc2 := 179) rfl ic_1 rfl (
      r_goto (t := 183) rfl (
      jr_leaf rfl))) (fun _ =>
      r_ic (x := 0) (pc2 := 183) rfl ic_0 rfl (
      jr_leaf rfl))))))))) (fun v50 c h => match c, h with | _, rfl => (
      r_iadd (pc2 := 184) rfl rfl (
      r_istoreL (L3 := fun v52 => [some (.ref 44), j31, j32, j33, some (gv v52), some (gv v35), some (gv c36), some (gv v37), some (gv v47)]) (pc2 := 186) rfl rfl (fun _ => jm_st1j hj33 rfl ⟨rfl, rfl⟩) fun v52 => (
      r_iload (pc2 := 188) rfl rfl rfl (
      r_iload (pc2 := 190) rfl rfl rfl (
      r_ic (x := -1) (pc2 := 191) rfl ic_m1 rfl (
      jr_g fun h53 => r_ceq (pc2 := 194) (t := 201) rfl h53 (rgk rfl) rfl (fun _ =>
      r_ic (x := 0) (pc2 := 202) rfl ic_0 rfl (
      r_ior (pc2 := 203) rfl rfl (
      r_istoreL (L3 := fun v54 => [some (.ref 44), j31, j32, j33, some (gv v52), some (gv v54), some (gv c36), some (gv v37), some (gv v47)]) (pc2 := 205) rfl rfl (fun _ => rfl) fun v54 => (
      r_iinc (kk := 1) (L2 := [some (.ref 44), j31, j32, j33, some (gv v52), some (gv v54), some (gv c36), some (gv (v37 + 1)), some (gv v47)]) (pc2 := 208) rfl ic_1 rfl rfl rfl (
      r_goto (t := 114) rfl (
      ih v52 v54 (v37 + 1) g48 _ _ _ _ hj31 hj32 hj33 rfl)))))) (fun _ =>
      r_ic (x := 1) (pc2 := 195) rfl ic_1 rfl (
      r_iload (pc2 := 197) rfl rfl rfl (
      r_ishl (pc2 := 198) rfl rfl (
      r_goto (t := 202) rfl (
      r_ior (pc2 := 203) rfl rfl (
      r_istoreL (L3 := fun v56 => [some (.ref 44), j31, j32, j33, some (gv v52), some (gv v56), some (gv c36), some (gv v37), some (gv v47)]) (pc2 := 205) rfl rfl (fun _ => rfl) fun v56 => (
      r_iinc (kk := 1) (L2 := [some (.ref 44), j31, j32, j33, some (gv v52), some (gv v56), some (gv c36), some (gv (v37 + 1)), some (gv v47)]) (pc2 := 208) rfl ic_1 rfl rfl rfl (
      r_goto (t := 114) rfl (
      ih v52 v56 (v37 + 1) g48 _ _ _ _ hj31 hj32 hj33 rfl))))))))))))))))))))))))))))))))))))))))))) (fun _ =>
      jr_leaf ⟨_, _, rfl, hj38, rfl⟩)))))
theorem rl_md_photograph_l102 {s : gm_S} {n m : Nat} (hs : gm_sh s n m) (d : Nat)    : ∀ (fuel : Nat) (v18 : Int) (v19 : Int) (v20 : Int) (g23 : gm_T) (j15 : Option Value) (j16 : Option Value) (j17 : Option Value) (j21 : Option Value) (j22 : Option Value) (hj15 : jm_lg j15 = false) (hj16 : jm_lg j16 = false) (hj17 : jm_lg j17 = false) (hj21 : jm_lg j21 = false) (hj22 : jm_lg j22 = false), jr (fun (q : Int × gm_T) (c : Option jm_R) => ∃ (j25 : Option Value) (j26 : Option Value) (j27 : Option Value) (j28 : Option Value), jm_lg j25 = false ∧ jm_lg j26 = false ∧ jm_lg j27 = false ∧ jm_lg j28 = false ∧ c = jm_sup cd_275 (jm_cl jm_CD km_n (d + 3)) (217, [some (.ref 44), j15, j16, j17, some (gv q.1), j25, j26, j27, j28], [], gm_h s q.2)) (md_photograph_l102   fuel v18 v19 v20 g23) (jm_sup cd_275 (jm_cl jm_CD km_n (d + 3)) (102, [some (.ref 44), j15, j16, j17, some (gv v18), some (gv v19), some (gv v20), j21, j22], [], gm_h s g23)) := by
  intro fuel
  induction fuel with
  | zero => intros; exact jr_none
  | succ fuel ih =>
    intro v18 v19 v20 g23 j15 j16 j17 j21 j22 hj15 hj16 hj17 hj21 hj22
    unfold md_photograph_l102
    exact (
      r_iload (pc2 := 104) rfl rfl rfl (
      r_aload (pc2 := 105) rfl rfl rfl (
      r_getI (pc2 := 108) rfl rfl (sh_T hs rfl rfl) (
      jr_g fun h30 => r_cge (pc2 := 111) (t := 217) rfl h30.1 h30.2 rfl (fun _ =>
      r_ic (x := 0) (pc2 := 112) rfl ic_0 rfl (
      r_istore (L2 := [some (.ref 44), j15, j16, j17, some (gv v18), some (gv v19), some (gv v20), some (gv 0), j22]) (pc2 := 114) rfl rfl rfl (
      r_b3 (rl_md_photograph_l114 hs d   v20  fz v18 v19 0 g23 _ _ _ _ hj15 hj16 hj17 hj22) (fun v61 v62 g65 c h => match c, h with | _, ⟨j63, j64, hj63, hj64, rfl⟩ => (
      r_iinc (kk := 1) (L2 := [some (.ref 44), j15, j16, j17, some (gv v61), some (gv v62), some (gv (v20 + 1)), j63, j64]) (pc2 := 214) rfl ic_1 rfl rfl rfl (
      r_goto (t := 102) rfl (
      ih v61 v62 (v20 + 1) g65 _ _ _ _ _ hj15 hj16 hj17 hj63 hj64))))))) (fun _ =>
      jr_leaf ⟨_, _, _, _, rfl, rfl, hj21, hj22, rfl⟩)))))
theorem rf_md_photograph {s : gm_S} {n m : Nat} (hs : gm_sh s n m) (d : Nat)  (g : gm_T) (a1 : Int) (a2 : Int) (a3 : Int)  : jr (eI s) (md_photograph g a1 a2 a3) (jm_cl jm_CD km_n (d + 4) 275 [.ref 44, gv a1, gv a2, gv a3] (gm_h s g)) := by
  unfold md_photograph
  exact (r_ent (cd := cd_275) (n := 9) (L0 := [some (.ref 44), some (gv a1), some (gv a2), some (gv a3), none, none, none, none, none]) rfl rfl rfl rfl (
      r_iload (pc2 := 1) rfl rfl rfl (
      r_ic (x := -500) (pc2 := 4) rfl ic_m500 rfl (
      r_ic (x := 500) (pc2 := 7) rfl ic_500 rfl (
      r_callSP (pc2 := 10) (args := [gv a1, gv (-500), gv 500]) (st2 := []) rfl rfl rfl rfl rfl rfl (rf_md_in hs (d + 2) g a1 (-500) 500 ) fun v1 => (
      jr_g fun h2 => r_ifeq (pc2 := 13) (t := 35) rfl h2 rfl (fun _ =>
      r_ic (x := -2) (pc2 := 37) rfl ic_m2 rfl (
      r_iret rfl rfl)) (fun _ =>
      r_iload (pc2 := 14) rfl rfl rfl (
      r_ic (x := -500) (pc2 := 17) rfl ic_m500 rfl (
      r_ic (x := 500) (pc2 := 20) rfl ic_500 rfl (
      r_callSP (pc2 := 23) (args := [gv a2, gv (-500), gv 500]) (st2 := []) rfl rfl rfl rfl rfl rfl (rf_md_in hs (d + 2) g a2 (-500) 500 ) fun v3 => (
      jr_g fun h4 => r_ifeq (pc2 := 26) (t := 35) rfl h4 rfl (fun _ =>
      r_ic (x := -2) (pc2 := 37) rfl ic_m2 rfl (
      r_iret rfl rfl)) (fun _ =>
      r_iload (pc2 := 27) rfl rfl rfl (
      r_ic (x := 0) (pc2 := 28) rfl ic_0 rfl (
      r_ic (x := 3) (pc2 := 29) rfl ic_3 rfl (
      r_callSP (pc2 := 32) (args := [gv a3, gv 0, gv 3]) (st2 := []) rfl rfl rfl rfl rfl rfl (rf_md_in hs (d + 2) g a3 0 3 ) fun v5 => (
      jr_g fun h6 => r_ifne (pc2 := 35) (t := 38) rfl h6 rfl (fun _ =>
      r_ic (x := -2) (pc2 := 37) rfl ic_m2 rfl (
      r_iret rfl rfl)) (fun _ =>
      r_aload (pc2 := 39) rfl rfl rfl (
      r_callVV (pc2 := 42) (args := [.ref 44]) (st2 := []) rfl rfl rfl rfl rfl rfl (rc_of (sh_T hs rfl rfl)) (rf_md_readsRows hs d g ) fun g7 => (
      r_aload (pc2 := 43) rfl rfl rfl (
      r_ic (x := 0) (pc2 := 44) rfl ic_0 rfl (
      r_putI (pc2 := 47) rfl rfl (sh_T hs rfl rfl) fun g8 => (
      r_aload (pc2 := 48) rfl rfl rfl (
      r_getI (pc2 := 51) rfl rfl (sh_T hs rfl rfl) (
      jr_g fun h9 => r_ifeq (pc2 := 54) (t := 62) rfl h9 rfl (fun _ =>
      r_aload (pc2 := 63) rfl rfl rfl (
      r_aload (pc2 := 64) rfl rfl rfl (
      r_getI (pc2 := 67) rfl rfl (sh_T hs rfl rfl) (
      r_putI (pc2 := 70) rfl rfl (sh_T hs rfl rfl) fun g10 => (
      r_aload (pc2 := 71) rfl rfl rfl (
      r_aload (pc2 := 72) rfl rfl rfl (
      r_getI (pc2 := 75) rfl rfl (sh_T hs rfl rfl) (
      r_putI (pc2 := 78) rfl rfl (sh_T hs rfl rfl) fun g11 => (
      r_aload (pc2 := 79) rfl rfl rfl (
      r_iload (pc2 := 80) rfl rfl rfl (
      r_putI (pc2 := 83) rfl rfl (sh_T hs rfl rfl) fun g12 => (
      r_aload (pc2 := 84) rfl rfl rfl (
      r_iload (pc2 := 85) rfl rfl rfl (
      r_putI (pc2 := 88) rfl rfl (sh_T hs rfl rfl) fun g13 => (
      r_aload (pc2 := 89) rfl rfl rfl (
      r_iload (pc2 := 90) rfl rfl rfl (
      r_putI (pc2 := 93) rfl rfl (sh_T hs rfl rfl) fun g14 => (
      r_ic (x := 0) (pc2 := 94) rfl ic_0 rfl (
      r_istore (L2 := [some (.ref 44), some (gv a1), some (gv a2), some (gv a3), some (gv 0), none, none, none, none]) (pc2 := 96) rfl rfl rfl (
      r_ic (x := 0) (pc2 := 97) rfl ic_0 rfl (
      r_istore (L2 := [some (.ref 44), some (gv a1), some (gv a2), some (gv a3), some (gv 0), some (gv 0), none, none, none]) (pc2 := 99) rfl rfl rfl (
      r_ic (x := 0) (pc2 := 100) rfl ic_0 rfl (
      r_istore (L2 := [some (.ref 44), some (gv a1), some (gv a2), some (gv a3), some (gv 0), some (gv 0), some (gv 0), none, none]) (pc2 := 102) rfl rfl rfl (
      r_b2 (rl_md_photograph_l102 hs d     fz 0 0 0 g14 _ _ _ _ _ rfl rfl rfl rfl rfl) (fun v70 g75 c h => match c, h with | _, ⟨j71, j72, j73, j74, hj71, hj72, hj73, hj74, rfl⟩ => (
      r_iload (pc2 := 219) rfl rfl rfl (
      r_iret rfl rfl))))))))))))))))))))))))))) (fun _ =>
      r_ic (x := -10) (pc2 := 56) rfl ic_m10 rfl (
      r_aload (pc2 := 57) rfl rfl rfl (
      r_getI (pc2 := 60) rfl rfl (sh_T hs rfl rfl) (
      r_isub (pc2 := 61) rfl rfl (
      r_iret rfl rfl)))))))))))))))))))))))))))))
theorem rl_md_shows_l27 {s : gm_S} {n m : Nat} (hs : gm_sh s n m) (d : Nat)  (g : gm_T) (c10 : Int) (c11 : Int) (c12 : Int) (c13 : Int)  : ∀ (fuel : Nat) (v14 : Int) (j15 : Option Value) (hj15 : jm_lg j15 = false), jr (fun (x : (Unit) ⊕ (Int)) (c : Option jm_R) => match x with | .inl q => (∃ (j16 : Option Value) (j17 : Option Value), jm_lg j16 = false ∧ jm_lg j17 = false ∧ c = jm_sup cd_276 (jm_cl jm_CD km_n (d + 1)) (125, [some (.ref 44), some (gv c10), some (gv c11), some (gv c12), some (gv c13), j16, j17], [], gm_h s g)) | .inr r => pI s g r c) (md_shows_l27 g c10 c11 c12 c13 fuel v14) (jm_sup cd_276 (jm_cl jm_CD km_n (d + 1)) (27, [some (.ref 44), some (gv c10), some (gv c11), some (gv c12), some (gv c13), some (gv v14), j15], [], gm_h s g)) := by
  intro fuel
  induction fuel with
  | zero => intros; exact jr_none
  | succ fuel ih =>
    intro v14 j15 hj15
    unfold md_shows_l27
    exact (
      r_iload (pc2 := 29) rfl rfl rfl (
      r_iload (pc2 := 30) rfl rfl rfl (
      r_aload (pc2 := 31) rfl rfl rfl (
      r_getI (pc2 := 34) rfl rfl (sh_T hs rfl rfl) (
      r_iadd (pc2 := 35) rfl rfl (
      jr_g fun h18 => r_cgt (pc2 := 38) (t := 125) rfl h18.1 h18.2 rfl (fun _ =>
      r_iload (pc2 := 40) rfl rfl rfl (
      r_aload (pc2 := 41) rfl rfl rfl (
      r_getI (pc2 := 44) rfl rfl (sh_T hs rfl rfl) (
      r_isub (pc2 := 45) rfl rfl (
      r_ic (x := 0) (pc2 := 46) rfl ic_0 rfl (
      r_aload (pc2 := 47) rfl rfl rfl (
      r_getI (pc2 := 50) rfl rfl (sh_T hs rfl rfl) (
      r_ic (x := 1) (pc2 := 51) rfl ic_1 rfl (
      r_isub (pc2 := 52) rfl rfl (
      r_callSP (pc2 := 55) (args := [gv (v14 - (gm_I g 44 61)), gv 0, gv ((gm_I g 44 59) - 1)]) (st2 := []) rfl rfl rfl rfl rfl rfl (rf_md_in hs d g (v14 - (gm_I g 44 61)) 0 ((gm_I g 44 59) - 1) ) fun v19 => (
      r_b1 (R1 := (fun (q : Int) (c : Option jm_R) => c = jm_sup cd_276 (jm_cl jm_CD km_n (d + 1)) (83, [some (.ref 44), some (gv c10), some (gv c11), some (gv c12), some (gv c13), some (gv v14), j15], [gv q], gm_h s g))) (
      jr_g fun h21 => r_ifeq (pc2 := 58) (t := 82) rfl h21 rfl (fun _ =>
      r_ic (x := 0) (pc2 := 83) rfl ic_0 rfl (
      jr_leaf rfl)) (fun _ =>
      r_iload (pc2 := 60) rfl rfl rfl (
      r_aload (pc2 := 61) rfl rfl rfl (
      r_getI (pc2 := 64) rfl rfl (sh_T hs rfl rfl) (
      r_isub (pc2 := 65) rfl rfl (
      r_ic (x := 0) (pc2 := 66) rfl ic_0 rfl (
      r_aload (pc2 := 67) rfl rfl rfl (
      r_getI (pc2 := 70) rfl rfl (sh_T hs rfl rfl) (
      r_ic (x := 1) (pc2 := 71) rfl ic_1 rfl (
      r_isub (pc2 := 72) rfl rfl (
      r_callSP (pc2 := 75) (args := [gv (c13 - (gm_I g 44 62)), gv 0, gv ((gm_I g 44 60) - 1)]) (st2 := []) rfl rfl rfl rfl rfl rfl (rf_md_in hs d g (c13 - (gm_I g 44 62)) 0 ((gm_I g 44 60) - 1) ) fun v22 => (
      jr_g fun h23 => r_ifeq (pc2 := 78) (t := 82) rfl h23 rfl (fun _ =>
      r_ic (x := 0) (pc2 := 83) rfl ic_0 rfl (
      jr_leaf rfl)) (fun _ =>
      r_ic (x := 1) (pc2 := 79) rfl ic_1 rfl (
      r_goto (t := 83) rfl (
      jr_leaf rfl))))))))))))))) (fun v20 c h => match c, h with | _, rfl => (
      r_istore (L2 := [some (.ref 44), some (gv c10), some (gv c11), some (gv c12), some (gv c13), some (gv v14), some (gv v20)]) (pc2 := 85) rfl rfl rfl (
      r_iload (pc2 := 87) rfl rfl rfl (
      jr_g fun h24 => r_ifeq (pc2 := 90) (t := 119) rfl h24 rfl (fun _ =>
      r_iinc (kk := 1) (L2 := [some (.ref 44), some (gv c10), some (gv c11), some (gv c12), some (gv c13), some (gv (v14 + 1)), some (gv v20)]) (pc2 := 122) rfl ic_1 rfl rfl rfl (
      r_goto (t := 27) rfl (
      ih (v14 + 1) _ rfl))) (fun _ =>
      r_aload (pc2 := 91) rfl rfl rfl (
      r_getA (pc2 := 94) rfl rfl (sh_T hs rfl rfl) (sh_A hs rfl rfl) (
      r_ic (x := 16) (pc2 := 96) rfl ic_16 rfl (
      r_iload (pc2 := 98) rfl rfl rfl (
      r_aload (pc2 := 99) rfl rfl rfl (
      r_getI (pc2 := 102) rfl rfl (sh_T hs rfl rfl) (
      r_isub (pc2 := 103) rfl rfl (
      r_imul (pc2 := 104) rfl rfl (
      r_iload (pc2 := 106) rfl rfl rfl (
      r_iadd (pc2 := 107) rfl rfl (
      r_aload (pc2 := 108) rfl rfl rfl (
      r_getI (pc2 := 111) rfl rfl (sh_T hs rfl rfl) (
      r_isub (pc2 := 112) rfl rfl (
      jr_g fun h26 => r_iald (len := 256) (pc2 := 113) rfl rfl (sh_T hs rfl rfl) (sh_L hs rfl rfl) rfl h26 (
      r_iload (pc2 := 114) rfl rfl rfl (
      jr_g fun h27 => r_cne (pc2 := 117) (t := 119) rfl h27.1 h27.2 rfl (fun _ =>
      r_ic (x := 1) (pc2 := 118) rfl ic_1 rfl (
      r_zret rfl (by decide) rfl)) (fun _ =>
      r_iinc (kk := 1) (L2 := [some (.ref 44), some (gv c10), some (gv c11), some (gv c12), some (gv c13), some (gv (v14 + 1)), some (gv v20)]) (pc2 := 122) rfl ic_1 rfl rfl rfl (
      r_goto (t := 27) rfl (
      ih (v14 + 1) _ rfl)))))))))))))))))))))))))))))))))) (fun _ =>
      jr_leaf ⟨_, _, rfl, hj15, rfl⟩)))))))
theorem rl_md_shows_l8 {s : gm_S} {n m : Nat} (hs : gm_sh s n m) (d : Nat)  (g : gm_T) (c2 : Int) (c3 : Int) (c4 : Int)  : ∀ (fuel : Nat) (v5 : Int) (j6 : Option Value) (j7 : Option Value) (hj6 : jm_lg j6 = false) (hj7 : jm_lg j7 = false), jr (pI s g) (md_shows_l8 g c2 c3 c4 fuel v5) (jm_sup cd_276 (jm_cl jm_CD km_n (d + 1)) (8, [some (.ref 44), some (gv c2), some (gv c3), some (gv c4), some (gv v5), j6, j7], [], gm_h s g)) := by
  intro fuel
  induction fuel with
  | zero => intros; exact jr_none
  | succ fuel ih =>
    intro v5 j6 j7 hj6 hj7
    unfold md_shows_l8
    exact (
      r_iload (pc2 := 10) rfl rfl rfl (
      r_iload (pc2 := 11) rfl rfl rfl (
      r_aload (pc2 := 12) rfl rfl rfl (
      r_getI (pc2 := 15) rfl rfl (sh_T hs rfl rfl) (
      r_iadd (pc2 := 16) rfl rfl (
      jr_g fun h8 => r_cgt (pc2 := 19) (t := 131) rfl h8.1 h8.2 rfl (fun _ =>
      r_iload (pc2 := 20) rfl rfl rfl (
      r_aload (pc2 := 21) rfl rfl rfl (
      r_getI (pc2 := 24) rfl rfl (sh_T hs rfl rfl) (
      r_isub (pc2 := 25) rfl rfl (
      r_istoreL (L3 := fun v9 => [some (.ref 44), some (gv c2), some (gv c3), some (gv c4), some (gv v5), some (gv v9), j7]) (pc2 := 27) rfl rfl (fun _ => rfl) fun v9 => (
      r_c1 (rl_md_shows_l27 hs d  g c2 c3 c4 v5  fz v9 _ hj7) (fun r c h => jr_leaf h) (fun _u c h => match c, h with | _, ⟨j29, j30, hj29, hj30, rfl⟩ => (
      r_iinc (kk := 1) (L2 := [some (.ref 44), some (gv c2), some (gv c3), some (gv c4), some (gv (v5 + 1)), j29, j30]) (pc2 := 128) rfl ic_1 rfl rfl rfl (
      r_goto (t := 8) rfl (
      ih (v5 + 1) _ _ hj29 hj30)))))))))) (fun _ =>
      r_ic (x := 0) (pc2 := 132) rfl ic_0 rfl (
      r_zret rfl (by decide) rfl))))))))
theorem rf_md_shows {s : gm_S} {n m : Nat} (hs : gm_sh s n m) (d : Nat)  (g : gm_T) (a1 : Int) (a2 : Int) (a3 : Int)  : jr (pI s g) (md_shows g a1 a2 a3) (jm_cl jm_CD km_n (d + 2) 276 [.ref 44, gv a1, gv a2, gv a3] (gm_h s g)) := by
  unfold md_shows
  exact (r_ent (cd := cd_276) (n := 7) (L0 := [some (.ref 44), some (gv a1), some (gv a2), some (gv a3), none, none, none]) rfl rfl rfl rfl (
      r_iload (pc2 := 1) rfl rfl rfl (
      r_aload (pc2 := 2) rfl rfl rfl (
      r_getI (pc2 := 5) rfl rfl (sh_T hs rfl rfl) (
      r_isub (pc2 := 6) rfl rfl (
      r_istoreL (L3 := fun v1 => [some (.ref 44), some (gv a1), some (gv a2), some (gv a3), some (gv v1), none, none]) (pc2 := 8) rfl rfl (fun _ => rfl) fun v1 => (
      rl_md_shows_l8 hs d  g a1 a2 a3  fz v1 _ _ rfl rfl)))))))
theorem rl_md_agrees_l8 {s : gm_S} {n m : Nat} (hs : gm_sh s n m) (d : Nat)  (g : gm_T) (c2 : Int) (c3 : Int) (c4 : Int) (c5 : Int)  : ∀ (fuel : Nat) (v6 : Int) (v7 : Int), jr (fun (q : Int) (c : Option jm_R) => ∃ (j9 : Option Value), jm_lg j9 = false ∧ c = jm_sup cd_277 (jm_cl jm_CD km_n (d + 2)) (94, [some (.ref 44), some (gv c2), some (gv c3), some (gv c4), some (gv c5), some (gv q), j9], [], gm_h s g)) (md_agrees_l8 g c2 c3 c4 c5 fuel v6 v7) (jm_sup cd_277 (jm_cl jm_CD km_n (d + 2)) (8, [some (.ref 44), some (gv c2), some (gv c3), some (gv c4), some (gv c5), some (gv v6), some (gv v7)], [], gm_h s g)) := by
  intro fuel
  induction fuel with
  | zero => intros; exact jr_none
  | succ fuel ih =>
    intro v6 v7  
    unfold md_agrees_l8
    exact (
      r_iload (pc2 := 10) rfl rfl rfl (
      r_ic (x := 5) (pc2 := 11) rfl ic_5 rfl (
      r_iload (pc2 := 12) rfl rfl rfl (
      r_imul (pc2 := 13) rfl rfl (
      r_aload (pc2 := 14) rfl rfl rfl (
      r_getA (pc2 := 17) rfl rfl (sh_T hs rfl rfl) (sh_A hs rfl rfl) (
      r_iload (pc2 := 18) rfl rfl rfl (
      jr_g fun h10 => r_iald (len := 30) (pc2 := 19) rfl rfl (sh_T hs rfl rfl) (sh_L hs rfl rfl) rfl h10 (
      r_iadd (pc2 := 20) rfl rfl (
      jr_g fun h11 => r_cge (pc2 := 23) (t := 94) rfl h11.1 h11.2 rfl (fun _ =>
      r_iload (pc2 := 25) rfl rfl rfl (
      r_aload (pc2 := 26) rfl rfl rfl (
      r_iload (pc2 := 27) rfl rfl rfl (
      r_aload (pc2 := 28) rfl rfl rfl (
      r_getA (pc2 := 31) rfl rfl (sh_T hs rfl rfl) (sh_A hs rfl rfl) (
      r_iload (pc2 := 33) rfl rfl rfl (
      jr_g fun h12 => r_iald (len := 150) (pc2 := 34) rfl rfl (sh_T hs rfl rfl) (sh_L hs rfl rfl) rfl h12 (
      r_aload (pc2 := 35) rfl rfl rfl (
      r_getA (pc2 := 38) rfl rfl (sh_T hs rfl rfl) (sh_A hs rfl rfl) (
      r_iload (pc2 := 40) rfl rfl rfl (
      r_iald (len := 150) (pc2 := 41) rfl rfl (sh_T hs rfl rfl) (sh_L hs rfl rfl) rfl h12 (
      r_callSP (pc2 := 44) (args := [gv c3, gv (gm_I g 51 v7.toNat), gv (gm_I g 52 v7.toNat)]) (st2 := [.ref 44, gv v6]) rfl rfl rfl rfl rfl rfl (rf_md_cellTurnedX hs d g c3 (gm_I g 51 v7.toNat) (gm_I g 52 v7.toNat) ) fun v13 => (
      r_iload (pc2 := 45) rfl rfl rfl (
      r_iadd (pc2 := 46) rfl rfl (
      r_iload (pc2 := 47) rfl rfl rfl (
      r_aload (pc2 := 48) rfl rfl rfl (
      r_getA (pc2 := 51) rfl rfl (sh_T hs rfl rfl) (sh_A hs rfl rfl) (
      r_iload (pc2 := 53) rfl rfl rfl (
      r_iald (len := 150) (pc2 := 54) rfl rfl (sh_T hs rfl rfl) (sh_L hs rfl rfl) rfl h12 (
      r_aload (pc2 := 55) rfl rfl rfl (
      r_getA (pc2 := 58) rfl rfl (sh_T hs rfl rfl) (sh_A hs rfl rfl) (
      r_iload (pc2 := 60) rfl rfl rfl (
      r_iald (len := 150) (pc2 := 61) rfl rfl (sh_T hs rfl rfl) (sh_L hs rfl rfl) rfl h12 (
      r_callSP (pc2 := 64) (args := [gv c3, gv (gm_I g 51 v7.toNat), gv (gm_I g 52 v7.toNat)]) (st2 := [gv (v13 + c4), .ref 44, gv v6]) rfl rfl rfl rfl rfl rfl (rf_md_cellTurnedY hs d g c3 (gm_I g 51 v7.toNat) (gm_I g 52 v7.toNat) ) fun v14 => (
      r_iload (pc2 := 66) rfl rfl rfl (
      r_iadd (pc2 := 67) rfl rfl (
      r_aload (pc2 := 68) rfl rfl rfl (
      r_getA (pc2 := 71) rfl rfl (sh_T hs rfl rfl) (sh_A hs rfl rfl) (
      r_iload (pc2 := 73) rfl rfl rfl (
      r_iald (len := 150) (pc2 := 74) rfl rfl (sh_T hs rfl rfl) (sh_L hs rfl rfl) rfl h12 (
      r_callVP (pc2 := 77) (args := [.ref 44, gv (v13 + c4), gv (v14 + c5), gv (gm_I g 53 v7.toNat)]) (st2 := [gv v6]) rfl rfl rfl rfl rfl rfl (rc_of (sh_T hs rfl rfl)) (rf_md_shows hs d g (v13 + c4) (v14 + c5) (gm_I g 53 v7.toNat) ) fun v15 => (
      jr_g fun h16 => r_ifeq (pc2 := 80) (t := 84) rfl h16 rfl (fun _ =>
      r_ic (x := 0) (pc2 := 85) rfl ic_0 rfl (
      r_iadd (pc2 := 86) rfl rfl (
      r_istoreL (L3 := fun v17 => [some (.ref 44), some (gv c2), some (gv c3), some (gv c4), some (gv c5), some (gv v17), some (gv v7)]) (pc2 := 88) rfl rfl (fun _ => rfl) fun v17 => (
      r_iinc (kk := 1) (L2 := [some (.ref 44), some (gv c2), some (gv c3), some (gv c4), some (gv c5), some (gv v17), some (gv (v7 + 1))]) (pc2 := 91) rfl ic_1 rfl rfl rfl (
      r_goto (t := 8) rfl (
      ih v17 (v7 + 1))))))) (fun _ =>
      r_ic (x := 1) (pc2 := 81) rfl ic_1 rfl (
      r_goto (t := 85) rfl (
      r_iadd (pc2 := 86) rfl rfl (
      r_istoreL (L3 := fun v19 => [some (.ref 44), some (gv c2), some (gv c3), some (gv c4), some (gv c5), some (gv v19), some (gv v7)]) (pc2 := 88) rfl rfl (fun _ => rfl) fun v19 => (
      r_iinc (kk := 1) (L2 := [some (.ref 44), some (gv c2), some (gv c3), some (gv c4), some (gv c5), some (gv v19), some (gv (v7 + 1))]) (pc2 := 91) rfl ic_1 rfl rfl rfl (
      r_goto (t := 8) rfl (
      ih v19 (v7 + 1)))))))))))))))))))))))))))))))))))))))) (fun _ =>
      jr_leaf ⟨_, rfl, rfl⟩)))))))))))
theorem rf_md_agrees {s : gm_S} {n m : Nat} (hs : gm_sh s n m) (d : Nat)  (g : gm_T) (a1 : Int) (a2 : Int) (a3 : Int) (a4 : Int)  : jr (pI s g) (md_agrees g a1 a2 a3 a4) (jm_cl jm_CD km_n (d + 3) 277 [.ref 44, gv a1, gv a2, gv a3, gv a4] (gm_h s g)) := by
  unfold md_agrees
  exact (r_ent (cd := cd_277) (n := 7) (L0 := [some (.ref 44), some (gv a1), some (gv a2), some (gv a3), some (gv a4), none, none]) rfl rfl rfl rfl (
      r_ic (x := 0) (pc2 := 1) rfl ic_0 rfl (
      r_istore (L2 := [some (.ref 44), some (gv a1), some (gv a2), some (gv a3), some (gv a4), some (gv 0), none]) (pc2 := 3) rfl rfl rfl (
      r_ic (x := 5) (pc2 := 4) rfl ic_5 rfl (
      r_iload (pc2 := 5) rfl rfl rfl (
      r_imul (pc2 := 6) rfl rfl (
      r_istoreL (L3 := fun v1 => [some (.ref 44), some (gv a1), some (gv a2), some (gv a3), some (gv a4), some (gv 0), some (gv v1)]) (pc2 := 8) rfl rfl (fun _ => rfl) fun v1 => (
      r_b1 (rl_md_agrees_l8 hs d  g a1 a2 a3 a4  fz 0 v1  ) (fun v21 c h => match c, h with | _, ⟨j22, hj22, rfl⟩ => (
      r_iload (pc2 := 96) rfl rfl rfl (
      r_iret rfl rfl)))))))))))
theorem rf_md_agree {s : gm_S} {n m : Nat} (hs : gm_sh s n m) (d : Nat)  (g : gm_T) (a1 : Int) (a2 : Int) (a3 : Int) (a4 : Int)  : jr (pI s g) (md_agree g a1 a2 a3 a4) (jm_cl jm_CD km_n (d + 4) 278 [.ref 44, gv a1, gv a2, gv a3, gv a4] (gm_h s g)) := by
  unfold md_agree
  exact (r_ent (cd := cd_278) (n := 5) (L0 := [some (.ref 44), some (gv a1), some (gv a2), some (gv a3), some (gv a4)]) rfl rfl rfl rfl (
      r_aload (pc2 := 1) rfl rfl rfl (
      r_iload (pc2 := 2) rfl rfl rfl (
      r_callVP (pc2 := 5) (args := [.ref 44, gv a1]) (st2 := []) rfl rfl rfl rfl rfl rfl (rc_of (sh_T hs rfl rfl)) (rf_md_isBit hs (d + 1) g a1 ) fun v1 => (
      jr_g fun h2 => r_ifne (pc2 := 8) (t := 10) rfl h2 rfl (fun _ =>
      r_ic (x := -1) (pc2 := 9) rfl ic_m1 rfl (
      r_iret rfl rfl)) (fun _ =>
      r_iload (pc2 := 11) rfl rfl rfl (
      r_iload (pc2 := 12) rfl rfl rfl (
      r_iload (pc2 := 14) rfl rfl rfl (
      r_callSP (pc2 := 17) (args := [gv a2, gv a3, gv a4]) (st2 := []) rfl rfl rfl rfl rfl rfl (rf_md_isPlace hs (d + 1) g a2 a3 a4 ) fun v3 => (
      jr_g fun h4 => r_ifne (pc2 := 20) (t := 25) rfl h4 rfl (fun _ =>
      r_ic (x := -2) (pc2 := 22) rfl ic_m2 rfl (
      r_goto (t := 46) rfl (
      r_iret rfl rfl))) (fun _ =>
      r_aload (pc2 := 26) rfl rfl rfl (
      r_getI (pc2 := 29) rfl rfl (sh_T hs rfl rfl) (
      jr_g fun h5 => r_ifne (pc2 := 32) (t := 37) rfl h5 rfl (fun _ =>
      r_ic (x := -3) (pc2 := 34) rfl ic_m3 rfl (
      r_goto (t := 46) rfl (
      r_iret rfl rfl))) (fun _ =>
      r_aload (pc2 := 38) rfl rfl rfl (
      r_iload (pc2 := 39) rfl rfl rfl (
      r_iload (pc2 := 40) rfl rfl rfl (
      r_iload (pc2 := 41) rfl rfl rfl (
      r_iload (pc2 := 43) rfl rfl rfl (
      r_callVP (pc2 := 46) (args := [.ref 44, gv a1, gv a2, gv a3, gv a4]) (st2 := []) rfl rfl rfl rfl rfl rfl (rc_of (sh_T hs rfl rfl)) (rf_md_agrees hs d g a1 a2 a3 a4 ) fun v6 => (
      r_iret rfl rfl))))))))))))))))))))
theorem rl_md_lies_l8 {s : gm_S} {n m : Nat} (hs : gm_sh s n m) (d : Nat)  (g : gm_T) (c2 : Int) (c3 : Int) (c4 : Int) (c5 : Int)  : ∀ (fuel : Nat) (v6 : Int) (v7 : Int), jr (fun (q : Int) (c : Option jm_R) => ∃ (j9 : Option Value), jm_lg j9 = false ∧ c = jm_sup cd_279 (jm_cl jm_CD km_n (d + 2)) (118, [some (.ref 44), some (gv c2), some (gv c3), some (gv c4), some (gv c5), some (gv q), j9], [], gm_h s g)) (md_lies_l8 g c2 c3 c4 c5 fuel v6 v7) (jm_sup cd_279 (jm_cl jm_CD km_n (d + 2)) (8, [some (.ref 44), some (gv c2), some (gv c3), some (gv c4), some (gv c5), some (gv v6), some (gv v7)], [], gm_h s g)) := by
  intro fuel
  induction fuel with
  | zero => intros; exact jr_none
  | succ fuel ih =>
    intro v6 v7  
    unfold md_lies_l8
    exact (
      r_iload (pc2 := 10) rfl rfl rfl (
      r_ic (x := 5) (pc2 := 11) rfl ic_5 rfl (
      r_iload (pc2 := 12) rfl rfl rfl (
      r_imul (pc2 := 13) rfl rfl (
      r_aload (pc2 := 14) rfl rfl rfl (
      r_getA (pc2 := 17) rfl rfl (sh_T hs rfl rfl) (sh_A hs rfl rfl) (
      r_iload (pc2 := 18) rfl rfl rfl (
      jr_g fun h10 => r_iald (len := 30) (pc2 := 19) rfl rfl (sh_T hs rfl rfl) (sh_L hs rfl rfl) rfl h10 (
      r_iadd (pc2 := 20) rfl rfl (
      jr_g fun h11 => r_cge (pc2 := 23) (t := 118) rfl h11.1 h11.2 rfl (fun _ =>
      r_iload (pc2 := 25) rfl rfl rfl (
      jr_g fun h12 => r_ifeq (pc2 := 28) (t := 109) rfl h12 rfl (fun _ =>
      r_ic (x := 0) (pc2 := 110) rfl ic_0 rfl (
      r_istore (L2 := [some (.ref 44), some (gv c2), some (gv c3), some (gv c4), some (gv c5), some (gv 0), some (gv v7)]) (pc2 := 112) rfl rfl rfl (
      r_iinc (kk := 1) (L2 := [some (.ref 44), some (gv c2), some (gv c3), some (gv c4), some (gv c5), some (gv 0), some (gv (v7 + 1))]) (pc2 := 115) rfl ic_1 rfl rfl rfl (
      r_goto (t := 8) rfl (
      ih 0 (v7 + 1)))))) (fun _ =>
      r_iload (pc2 := 29) rfl rfl rfl (
      r_aload (pc2 := 30) rfl rfl rfl (
      r_getA (pc2 := 33) rfl rfl (sh_T hs rfl rfl) (sh_A hs rfl rfl) (
      r_iload (pc2 := 35) rfl rfl rfl (
      jr_g fun h14 => r_iald (len := 150) (pc2 := 36) rfl rfl (sh_T hs rfl rfl) (sh_L hs rfl rfl) rfl h14 (
      r_aload (pc2 := 37) rfl rfl rfl (
      r_getA (pc2 := 40) rfl rfl (sh_T hs rfl rfl) (sh_A hs rfl rfl) (
      r_iload (pc2 := 42) rfl rfl rfl (
      r_iald (len := 150) (pc2 := 43) rfl rfl (sh_T hs rfl rfl) (sh_L hs rfl rfl) rfl h14 (
      r_callSP (pc2 := 46) (args := [gv c3, gv (gm_I g 51 v7.toNat), gv (gm_I g 52 v7.toNat)]) (st2 := []) rfl rfl rfl rfl rfl rfl (rf_md_cellTurnedX hs d g c3 (gm_I g 51 v7.toNat) (gm_I g 52 v7.toNat) ) fun v15 => (
      r_iload (pc2 := 47) rfl rfl rfl (
      r_iadd (pc2 := 48) rfl rfl (
      r_aload (pc2 := 49) rfl rfl rfl (
      r_getI (pc2 := 52) rfl rfl (sh_T hs rfl rfl) (
      r_isub (pc2 := 53) rfl rfl (
      r_ic (x := 0) (pc2 := 54) rfl ic_0 rfl (
      r_aload (pc2 := 55) rfl rfl rfl (
      r_getI (pc2 := 58) rfl rfl (sh_T hs rfl rfl) (
      r_ic (x := 1) (pc2 := 59) rfl ic_1 rfl (
      r_isub (pc2 := 60) rfl rfl (
      r_callSP (pc2 := 63) (args := [gv ((v15 + c4) - (gm_I g 44 61)), gv 0, gv ((gm_I g 44 59) - 1)]) (st2 := []) rfl rfl rfl rfl rfl rfl (rf_md_in hs (d + 1) g ((v15 + c4) - (gm_I g 44 61)) 0 ((gm_I g 44 59) - 1) ) fun v16 => (
      jr_g fun h17 => r_ifeq (pc2 := 66) (t := 109) rfl h17 rfl (fun _ =>
      r_ic (x := 0) (pc2 := 110) rfl ic_0 rfl (
      r_istore (L2 := [some (.ref 44), some (gv c2), some (gv c3), some (gv c4), some (gv c5), some (gv 0), some (gv v7)]) (pc2 := 112) rfl rfl rfl (
      r_iinc (kk := 1) (L2 := [some (.ref 44), some (gv c2), some (gv c3), some (gv c4), some (gv c5), some (gv 0), some (gv (v7 + 1))]) (pc2 := 115) rfl ic_1 rfl rfl rfl (
      r_goto (t := 8) rfl (
      ih 0 (v7 + 1)))))) (fun _ =>
      r_iload (pc2 := 67) rfl rfl rfl (
      r_aload (pc2 := 68) rfl rfl rfl (
      r_getA (pc2 := 71) rfl rfl (sh_T hs rfl rfl) (sh_A hs rfl rfl) (
      r_iload (pc2 := 73) rfl rfl rfl (
      r_iald (len := 150) (pc2 := 74) rfl rfl (sh_T hs rfl rfl) (sh_L hs rfl rfl) rfl h14 (
      r_aload (pc2 := 75) rfl rfl rfl (
      r_getA (pc2 := 78) rfl rfl (sh_T hs rfl rfl) (sh_A hs rfl rfl) (
      r_iload (pc2 := 80) rfl rfl rfl (
      r_iald (len := 150) (pc2 := 81) rfl rfl (sh_T hs rfl rfl) (sh_L hs rfl rfl) rfl h14 (
      r_callSP (pc2 := 84) (args := [gv c3, gv (gm_I g 51 v7.toNat), gv (gm_I g 52 v7.toNat)]) (st2 := []) rfl rfl rfl rfl rfl rfl (rf_md_cellTurnedY hs d g c3 (gm_I g 51 v7.toNat) (gm_I g 52 v7.toNat) ) fun v19 => (
      r_iload (pc2 := 86) rfl rfl rfl (
      r_iadd (pc2 := 87) rfl rfl (
      r_aload (pc2 := 88) rfl rfl rfl (
      r_getI (pc2 := 91) rfl rfl (sh_T hs rfl rfl) (
      r_isub (pc2 := 92) rfl rfl (
      r_ic (x := 0) (pc2 := 93) rfl ic_0 rfl (
      r_aload (pc2 := 94) rfl rfl rfl (
      r_getI (pc2 := 97) rfl rfl (sh_T hs rfl rfl) (
      r_ic (x := 1) (pc2 := 98) rfl ic_1 rfl (
      r_isub (pc2 := 99) rfl rfl (
      r_callSP (pc2 := 102) (args := [gv ((v19 + c5) - (gm_I g 44 62)), gv 0, gv ((gm_I g 44 60) - 1)]) (st2 := []) rfl rfl rfl rfl rfl rfl (rf_md_in hs (d + 1) g ((v19 + c5) - (gm_I g 44 62)) 0 ((gm_I g 44 60) - 1) ) fun v20 => (
      jr_g fun h21 => r_ifeq (pc2 := 105) (t := 109) rfl h21 rfl (fun _ =>
      r_ic (x := 0) (pc2 := 110) rfl ic_0 rfl (
      r_istore (L2 := [some (.ref 44), some (gv c2), some (gv c3), some (gv c4), some (gv c5), some (gv 0), some (gv v7)]) (pc2 := 112) rfl rfl rfl (
      r_iinc (kk := 1) (L2 := [some (.ref 44), some (gv c2), some (gv c3), some (gv c4), some (gv c5), some (gv 0), some (gv (v7 + 1))]) (pc2 := 115) rfl ic_1 rfl rfl rfl (
      r_goto (t := 8) rfl (
      ih 0 (v7 + 1)))))) (fun _ =>
      r_ic (x := 1) (pc2 := 106) rfl ic_1 rfl (
      r_goto (t := 110) rfl (
      r_istore (L2 := [some (.ref 44), some (gv c2), some (gv c3), some (gv c4), some (gv c5), some (gv 1), some (gv v7)]) (pc2 := 112) rfl rfl rfl (
      r_iinc (kk := 1) (L2 := [some (.ref 44), some (gv c2), some (gv c3), some (gv c4), some (gv c5), some (gv 1), some (gv (v7 + 1))]) (pc2 := 115) rfl ic_1 rfl rfl rfl (
      r_goto (t := 8) rfl (
      ih 1 (v7 + 1))))))))))))))))))))))))))))))))))))))))))))))))))))) (fun _ =>
      jr_leaf ⟨_, rfl, rfl⟩)))))))))))
theorem rf_md_lies {s : gm_S} {n m : Nat} (hs : gm_sh s n m) (d : Nat)  (g : gm_T) (a1 : Int) (a2 : Int) (a3 : Int) (a4 : Int)  : jr (pI s g) (md_lies g a1 a2 a3 a4) (jm_cl jm_CD km_n (d + 3) 279 [.ref 44, gv a1, gv a2, gv a3, gv a4] (gm_h s g)) := by
  unfold md_lies
  exact (r_ent (cd := cd_279) (n := 7) (L0 := [some (.ref 44), some (gv a1), some (gv a2), some (gv a3), some (gv a4), none, none]) rfl rfl rfl rfl (
      r_ic (x := 1) (pc2 := 1) rfl ic_1 rfl (
      r_istore (L2 := [some (.ref 44), some (gv a1), some (gv a2), some (gv a3), some (gv a4), some (gv 1), none]) (pc2 := 3) rfl rfl rfl (
      r_ic (x := 5) (pc2 := 4) rfl ic_5 rfl (
      r_iload (pc2 := 5) rfl rfl rfl (
      r_imul (pc2 := 6) rfl rfl (
      r_istoreL (L3 := fun v1 => [some (.ref 44), some (gv a1), some (gv a2), some (gv a3), some (gv a4), some (gv 1), some (gv v1)]) (pc2 := 8) rfl rfl (fun _ => rfl) fun v1 => (
      r_b1 (rl_md_lies_l8 hs d  g a1 a2 a3 a4  fz 1 v1  ) (fun v24 c h => match c, h with | _, ⟨j25, hj25, rfl⟩ => (
      r_iload (pc2 := 120) rfl rfl rfl (
      jr_g fun hz => r_zret rfl hz rfl)))))))))))
theorem rl_md_best_l84 {s : gm_S} {n m : Nat} (hs : gm_sh s n m) (d : Nat)  (g : gm_T) (c60 : Int) (c61 : Int) (c67 : Int) (c68 : Int) (c69 : Int)  : ∀ (fuel : Nat) (v62 : Int) (v63 : Int) (v64 : Int) (v65 : Int) (v66 : Int) (v70 : Int) (j71 : Option Value) (j72 : Option Value) (j73 : Option Value) (hj71 : jm_lg j71 = false) (hj72 : jm_lg j72 = false) (hj73 : jm_lg j73 = false), jr (fun (q : Int × Int × Int × Int × Int) (c : Option jm_R) => ∃ (j79 : Option Value) (j80 : Option Value) (j81 : Option Value) (j82 : Option Value), jm_lg j79 = false ∧ jm_lg j80 = false ∧ jm_lg j81 = false ∧ jm_lg j82 = false ∧ c = jm_sup cd_280 (jm_cl jm_CD km_n (d + 3)) (269, [some (.ref 44), some (gv c60), some (gv c61), some (gv q.1), some (gv q.2.1), some (gv q.2.2.1), some (gv q.2.2.2.1), some (gv q.2.2.2.2), some (gv c67), some (gv c68), some (gv c69), j79, j80, j81, j82], [], gm_h s g)) (md_best_l84 g c60 c61 c67 c68 c69 fuel v62 v63 v64 v65 v66 v70) (jm_sup cd_280 (jm_cl jm_CD km_n (d + 3)) (84, [some (.ref 44), some (gv c60), some (gv c61), some (gv v62), some (gv v63), some (gv v64), some (gv v65), some (gv v66), some (gv c67), some (gv c68), some (gv c69), some (gv v70), j71, j72, j73], [], gm_h s g)) := by
  intro fuel
  induction fuel with
  | zero => intros; exact jr_none
  | succ fuel ih =>
    intro v62 v63 v64 v65 v66 v70 j71 j72 j73 hj71 hj72 hj73
    unfold md_best_l84
    exact (
      r_iload (pc2 := 86) rfl rfl rfl (
      r_aload (pc2 := 87) rfl rfl rfl (
      r_getI (pc2 := 90) rfl rfl (sh_T hs rfl rfl) (
      jr_g fun h83 => r_cge (pc2 := 93) (t := 269) rfl h83.1 h83.2 rfl (fun _ =>
      r_aload (pc2 := 94) rfl rfl rfl (
      r_getI (pc2 := 97) rfl rfl (sh_T hs rfl rfl) (
      r_iload (pc2 := 99) rfl rfl rfl (
      r_iadd (pc2 := 100) rfl rfl (
      r_iload (pc2 := 102) rfl rfl rfl (
      r_aload (pc2 := 103) rfl rfl rfl (
      r_getA (pc2 := 106) rfl rfl (sh_T hs rfl rfl) (sh_A hs rfl rfl) (
      r_iload (pc2 := 108) rfl rfl rfl (
      jr_g fun h84 => r_iald (len := 150) (pc2 := 109) rfl rfl (sh_T hs rfl rfl) (sh_L hs rfl rfl) rfl h84 (
      r_aload (pc2 := 110) rfl rfl rfl (
      r_getA (pc2 := 113) rfl rfl (sh_T hs rfl rfl) (sh_A hs rfl rfl) (
      r_iload (pc2 := 115) rfl rfl rfl (
      r_iald (len := 150) (pc2 := 116) rfl rfl (sh_T hs rfl rfl) (sh_L hs rfl rfl) rfl h84 (
      r_callSP (pc2 := 119) (args := [gv c68, gv (gm_I g 51 c67.toNat), gv (gm_I g 52 c67.toNat)]) (st2 := [gv ((gm_I g 44 61) + v70)]) rfl rfl rfl rfl rfl rfl (rf_md_cellTurnedX hs (d + 1) g c68 (gm_I g 51 c67.toNat) (gm_I g 52 c67.toNat) ) fun v85 => (
      r_isub (pc2 := 120) rfl rfl (
      r_istoreL (L3 := fun v86 => [some (.ref 44), some (gv c60), some (gv c61), some (gv v62), some (gv v63), some (gv v64), some (gv v65), some (gv v66), some (gv c67), some (gv c68), some (gv c69), some (gv v70), some (gv v86), j72, j73]) (pc2 := 122) rfl rfl (fun _ => rfl) fun v86 => (
      r_aload (pc2 := 123) rfl rfl rfl (
      r_getI (pc2 := 126) rfl rfl (sh_T hs rfl rfl) (
      r_iload (pc2 := 128) rfl rfl rfl (
      r_iadd (pc2 := 129) rfl rfl (
      r_iload (pc2 := 131) rfl rfl rfl (
      r_aload (pc2 := 132) rfl rfl rfl (
      r_getA (pc2 := 135) rfl rfl (sh_T hs rfl rfl) (sh_A hs rfl rfl) (
      r_iload (pc2 := 137) rfl rfl rfl (
      r_iald (len := 150) (pc2 := 138) rfl rfl (sh_T hs rfl rfl) (sh_L hs rfl rfl) rfl h84 (
      r_aload (pc2 := 139) rfl rfl rfl (
      r_getA (pc2 := 142) rfl rfl (sh_T hs rfl rfl) (sh_A hs rfl rfl) (
      r_iload (pc2 := 144) rfl rfl rfl (
      r_iald (len := 150) (pc2 := 145) rfl rfl (sh_T hs rfl rfl) (sh_L hs rfl rfl) rfl h84 (
      r_callSP (pc2 := 148) (args := [gv c68, gv (gm_I g 51 c67.toNat), gv (gm_I g 52 c67.toNat)]) (st2 := [gv ((gm_I g 44 62) + c69)]) rfl rfl rfl rfl rfl rfl (rf_md_cellTurnedY hs (d + 1) g c68 (gm_I g 51 c67.toNat) (gm_I g 52 c67.toNat) ) fun v87 => (
      r_isub (pc2 := 149) rfl rfl (
      r_istoreL (L3 := fun v88 => [some (.ref 44), some (gv c60), some (gv c61), some (gv v62), some (gv v63), some (gv v64), some (gv v65), some (gv v66), some (gv c67), some (gv c68), some (gv c69), some (gv v70), some (gv v86), some (gv v88), j73]) (pc2 := 151) rfl rfl (fun _ => rfl) fun v88 => (
      r_aload (pc2 := 152) rfl rfl rfl (
      r_iload (pc2 := 153) rfl rfl rfl (
      r_iload (pc2 := 155) rfl rfl rfl (
      r_iload (pc2 := 157) rfl rfl rfl (
      r_iload (pc2 := 159) rfl rfl rfl (
      r_callVP (pc2 := 162) (args := [.ref 44, gv c60, gv c68, gv v86, gv v88]) (st2 := []) rfl rfl rfl rfl rfl rfl (rc_of (sh_T hs rfl rfl)) (rf_md_lies hs d g c60 c68 v86 v88 ) fun v89 => (
      jr_g fun h90 => r_ifeq (pc2 := 165) (t := 263) rfl h90 rfl (fun _ =>
      r_iinc (kk := 1) (L2 := [some (.ref 44), some (gv c60), some (gv c61), some (gv v62), some (gv v63), some (gv v64), some (gv v65), some (gv v66), some (gv c67), some (gv c68), some (gv c69), some (gv (v70 + 1)), some (gv v86), some (gv v88), j73]) (pc2 := 266) rfl ic_1 rfl rfl rfl (
      r_goto (t := 84) rfl (
      ih v62 v63 v64 v65 v66 (v70 + 1) _ _ _ rfl rfl hj73))) (fun _ =>
      r_aload (pc2 := 166) rfl rfl rfl (
      r_iload (pc2 := 167) rfl rfl rfl (
      r_iload (pc2 := 169) rfl rfl rfl (
      r_iload (pc2 := 171) rfl rfl rfl (
      r_iload (pc2 := 173) rfl rfl rfl (
      r_callVP (pc2 := 176) (args := [.ref 44, gv c60, gv c68, gv v86, gv v88]) (st2 := []) rfl rfl rfl rfl rfl rfl (rc_of (sh_T hs rfl rfl)) (rf_md_agrees hs d g c60 c68 v86 v88 ) fun v92 => (
      r_istore (L2 := [some (.ref 44), some (gv c60), some (gv c61), some (gv v62), some (gv v63), some (gv v64), some (gv v65), some (gv v66), some (gv c67), some (gv c68), some (gv c69), some (gv v70), some (gv v86), some (gv v88), some (gv v92)]) (pc2 := 178) rfl rfl rfl (
      r_iload (pc2 := 180) rfl rfl rfl (
      r_iload (pc2 := 181) rfl rfl rfl (
      r_b1 (R1 := (fun (q : Int) (c : Option jm_R) => c = jm_sup cd_280 (jm_cl jm_CD km_n (d + 3)) (203, [some (.ref 44), some (gv c60), some (gv c61), some (gv v62), some (gv v63), some (gv v64), some (gv v65), some (gv v66), some (gv c67), some (gv c68), some (gv c69), some (gv v70), some (gv v86), some (gv v88), some (gv v92)], [gv q], gm_h s g))) (
      jr_g fun h94 => r_cle (pc2 := 184) (t := 188) rfl h94.1 h94.2 rfl (fun _ =>
      r_iload (pc2 := 190) rfl rfl rfl (
      r_iload (pc2 := 191) rfl rfl rfl (
      r_cne (pc2 := 194) (t := 201) rfl h94.1 h94.2 rfl (fun _ =>
      r_iload (pc2 := 196) rfl rfl rfl (
      r_ic (x := 1) (pc2 := 197) rfl ic_1 rfl (
      r_iadd (pc2 := 198) rfl rfl (
      r_goto (t := 203) rfl (
      jr_leaf rfl))))) (fun _ =>
      r_iload (pc2 := 203) rfl rfl rfl (
      jr_leaf rfl))))) (fun _ =>
      r_ic (x := 0) (pc2 := 185) rfl ic_0 rfl (
      r_goto (t := 203) rfl (
      jr_leaf rfl)))) (fun v93 c h => match c, h with | _, rfl => (
      r_istore (L2 := [some (.ref 44), some (gv c60), some (gv c61), some (gv v62), some (gv v63), some (gv v64), some (gv v65), some (gv v93), some (gv c67), some (gv c68), some (gv c69), some (gv v70), some (gv v86), some (gv v88), some (gv v92)]) (pc2 := 205) rfl rfl rfl (
      r_iload (pc2 := 207) rfl rfl rfl (
      r_iload (pc2 := 208) rfl rfl rfl (
      r_b1 (R1 := (fun (q : Int) (c : Option jm_R) => c = jm_sup cd_280 (jm_cl jm_CD km_n (d + 3)) (218, [some (.ref 44), some (gv c60), some (gv c61), some (gv v62), some (gv v63), some (gv v64), some (gv v65), some (gv v93), some (gv c67), some (gv c68), some (gv c69), some (gv v70), some (gv v86), some (gv v88), some (gv v92)], [gv q], gm_h s g))) (
      jr_g fun h96 => r_cle (pc2 := 211) (t := 216) rfl h96.1 h96.2 rfl (fun _ =>
      r_iload (pc2 := 218) rfl rfl rfl (
      jr_leaf rfl)) (fun _ =>
      r_iload (pc2 := 213) rfl rfl rfl (
      r_goto (t := 218) rfl (
      jr_leaf rfl)))) (fun v95 c h => match c, h with | _, rfl => (
      r_istore (L2 := [some (.ref 44), some (gv c60), some (gv c61), some (gv v62), some (gv v95), some (gv v64), some (gv v65), some (gv v93), some (gv c67), some (gv c68), some (gv c69), some (gv v70), some (gv v86), some (gv v88), some (gv v92)]) (pc2 := 220) rfl rfl rfl (
      r_iload (pc2 := 222) rfl rfl rfl (
      r_iload (pc2 := 223) rfl rfl rfl (
      r_b1 (R1 := (fun (q : Int) (c : Option jm_R) => c = jm_sup cd_280 (jm_cl jm_CD km_n (d + 3)) (233, [some (.ref 44), some (gv c60), some (gv c61), some (gv v62), some (gv v95), some (gv v64), some (gv v65), some (gv v93), some (gv c67), some (gv c68), some (gv c69), some (gv v70), some (gv v86), some (gv v88), some (gv v92)], [gv q], gm_h s g))) (
      jr_g fun h98 => r_cle (pc2 := 226) (t := 231) rfl h98.1 h98.2 rfl (fun _ =>
      r_iload (pc2 := 233) rfl rfl rfl (
      jr_leaf rfl)) (fun _ =>
      r_iload (pc2 := 228) rfl rfl rfl (
      r_goto (t := 233) rfl (
      jr_leaf rfl)))) (fun v97 c h => match c, h with | _, rfl => (
      r_istore (L2 := [some (.ref 44), some (gv c60), some (gv c61), some (gv v62), some (gv v95), some (gv v97), some (gv v65), some (gv v93), some (gv c67), some (gv c68), some (gv c69), some (gv v70), some (gv v86), some (gv v88), some (gv v92)]) (pc2 := 235) rfl rfl rfl (
      r_iload (pc2 := 237) rfl rfl rfl (
      r_iload (pc2 := 238) rfl rfl rfl (
      r_b1 (R1 := (fun (q : Int) (c : Option jm_R) => c = jm_sup cd_280 (jm_cl jm_CD km_n (d + 3)) (248, [some (.ref 44), some (gv c60), some (gv c61), some (gv v62), some (gv v95), some (gv v97), some (gv v65), some (gv v93), some (gv c67), some (gv c68), some (gv c69), some (gv v70), some (gv v86), some (gv v88), some (gv v92)], [gv q], gm_h s g))) (
      jr_g fun h100 => r_cle (pc2 := 241) (t := 246) rfl h100.1 h100.2 rfl (fun _ =>
      r_iload (pc2 := 248) rfl rfl rfl (
      jr_leaf rfl)) (fun _ =>
      r_iload (pc2 := 243) rfl rfl rfl (
      r_goto (t := 248) rfl (
      jr_leaf rfl)))) (fun v99 c h => match c, h with | _, rfl => (
      r_istore (L2 := [some (.ref 44), some (gv c60), some (gv c61), some (gv v62), some (gv v95), some (gv v97), some (gv v99), some (gv v93), some (gv c67), some (gv c68), some (gv c69), some (gv v70), some (gv v86), some (gv v88), some (gv v92)]) (pc2 := 250) rfl rfl rfl (
      r_iload (pc2 := 252) rfl rfl rfl (
      r_iload (pc2 := 253) rfl rfl rfl (
      jr_g fun h101 => r_cle (pc2 := 256) (t := 261) rfl h101.1 h101.2 rfl (fun _ =>
      r_iload (pc2 := 262) rfl rfl rfl (
      r_istore (L2 := [some (.ref 44), some (gv c60), some (gv c61), some (gv v62), some (gv v95), some (gv v97), some (gv v99), some (gv v93), some (gv c67), some (gv c68), some (gv c69), some (gv v70), some (gv v86), some (gv v88), some (gv v92)]) (pc2 := 263) rfl rfl rfl (
      r_iinc (kk := 1) (L2 := [some (.ref 44), some (gv c60), some (gv c61), some (gv v62), some (gv v95), some (gv v97), some (gv v99), some (gv v93), some (gv c67), some (gv c68), some (gv c69), some (gv (v70 + 1)), some (gv v86), some (gv v88), some (gv v92)]) (pc2 := 266) rfl ic_1 rfl rfl rfl (
      r_goto (t := 84) rfl (
      ih v62 v95 v97 v99 v93 (v70 + 1) _ _ _ rfl rfl rfl))))) (fun _ =>
      r_iload (pc2 := 258) rfl rfl rfl (
      r_goto (t := 262) rfl (
      r_istore (L2 := [some (.ref 44), some (gv c60), some (gv c61), some (gv v92), some (gv v95), some (gv v97), some (gv v99), some (gv v93), some (gv c67), some (gv c68), some (gv c69), some (gv v70), some (gv v86), some (gv v88), some (gv v92)]) (pc2 := 263) rfl rfl rfl (
      r_iinc (kk := 1) (L2 := [some (.ref 44), some (gv c60), some (gv c61), some (gv v92), some (gv v95), some (gv v97), some (gv v99), some (gv v93), some (gv c67), some (gv c68), some (gv c69), some (gv (v70 + 1)), some (gv v86), some (gv v88), some (gv v92)]) (pc2 := 266) rfl ic_1 rfl rfl rfl (
      r_goto (t := 84) rfl (
      ih v92 v95 v97 v99 v93 (v70 + 1) _ _ _ rfl rfl rfl))))))))))))))))))))))))))))))))))))))))))))))))))))))))))))))))))))))))))) (fun _ =>
      jr_leaf ⟨_, _, _, _, rfl, hj71, hj72, hj73, rfl⟩)))))
theorem rl_md_best_l72 {s : gm_S} {n m : Nat} (hs : gm_sh s n m) (d : Nat)  (g : gm_T) (c35 : Int) (c36 : Int) (c42 : Int) (c43 : Int)  : ∀ (fuel : Nat) (v37 : Int) (v38 : Int) (v39 : Int) (v40 : Int) (v41 : Int) (v44 : Int) (j45 : Option Value) (j46 : Option Value) (j47 : Option Value) (j48 : Option Value) (hj45 : jm_lg j45 = false) (hj46 : jm_lg j46 = false) (hj47 : jm_lg j47 = false) (hj48 : jm_lg j48 = false), jr (fun (q : Int × Int × Int × Int × Int) (c : Option jm_R) => ∃ (j54 : Option Value) (j55 : Option Value) (j56 : Option Value) (j57 : Option Value) (j58 : Option Value), jm_lg j54 = false ∧ jm_lg j55 = false ∧ jm_lg j56 = false ∧ jm_lg j57 = false ∧ jm_lg j58 = false ∧ c = jm_sup cd_280 (jm_cl jm_CD km_n (d + 3)) (275, [some (.ref 44), some (gv c35), some (gv c36), some (gv q.1), some (gv q.2.1), some (gv q.2.2.1), some (gv q.2.2.2.1), some (gv q.2.2.2.2), some (gv c42), some (gv c43), j54, j55, j56, j57, j58], [], gm_h s g)) (md_best_l72 g c35 c36 c42 c43 fuel v37 v38 v39 v40 v41 v44) (jm_sup cd_280 (jm_cl jm_CD km_n (d + 3)) (72, [some (.ref 44), some (gv c35), some (gv c36), some (gv v37), some (gv v38), some (gv v39), some (gv v40), some (gv v41), some (gv c42), some (gv c43), some (gv v44), j45, j46, j47, j48], [], gm_h s g)) := by
  intro fuel
  induction fuel with
  | zero => intros; exact jr_none
  | succ fuel ih =>
    intro v37 v38 v39 v40 v41 v44 j45 j46 j47 j48 hj45 hj46 hj47 hj48
    unfold md_best_l72
    exact (
      r_iload (pc2 := 74) rfl rfl rfl (
      r_aload (pc2 := 75) rfl rfl rfl (
      r_getI (pc2 := 78) rfl rfl (sh_T hs rfl rfl) (
      jr_g fun h59 => r_cge (pc2 := 81) (t := 275) rfl h59.1 h59.2 rfl (fun _ =>
      r_ic (x := 0) (pc2 := 82) rfl ic_0 rfl (
      r_istore (L2 := [some (.ref 44), some (gv c35), some (gv c36), some (gv v37), some (gv v38), some (gv v39), some (gv v40), some (gv v41), some (gv c42), some (gv c43), some (gv v44), some (gv 0), j46, j47, j48]) (pc2 := 84) rfl rfl rfl (
      r_b5 (rl_md_best_l84 hs d  g c35 c36 c42 c43 v44  fz v37 v38 v39 v40 v41 0 _ _ _ hj46 hj47 hj48) (fun v104 v105 v106 v107 v108 c h => match c, h with | _, ⟨j109, j110, j111, j112, hj109, hj110, hj111, hj112, rfl⟩ => (
      r_iinc (kk := 1) (L2 := [some (.ref 44), some (gv c35), some (gv c36), some (gv v104), some (gv v105), some (gv v106), some (gv v107), some (gv v108), some (gv c42), some (gv c43), some (gv (v44 + 1)), j109, j110, j111, j112]) (pc2 := 272) rfl ic_1 rfl rfl rfl (
      r_goto (t := 72) rfl (
      ih v104 v105 v106 v107 v108 (v44 + 1) _ _ _ _ hj109 hj110 hj111 hj112))))))) (fun _ =>
      jr_leaf ⟨_, _, _, _, _, rfl, hj45, hj46, hj47, hj48, rfl⟩)))))
theorem rl_md_best_l63 {s : gm_S} {n m : Nat} (hs : gm_sh s n m) (d : Nat)  (g : gm_T) (c9 : Int) (c10 : Int) (c16 : Int)  : ∀ (fuel : Nat) (v11 : Int) (v12 : Int) (v13 : Int) (v14 : Int) (v15 : Int) (v17 : Int) (j18 : Option Value) (j19 : Option Value) (j20 : Option Value) (j21 : Option Value) (j22 : Option Value) (hj18 : jm_lg j18 = false) (hj19 : jm_lg j19 = false) (hj20 : jm_lg j20 = false) (hj21 : jm_lg j21 = false) (hj22 : jm_lg j22 = false), jr (fun (q : Int × Int × Int × Int × Int) (c : Option jm_R) => ∃ (j28 : Option Value) (j29 : Option Value) (j30 : Option Value) (j31 : Option Value) (j32 : Option Value) (j33 : Option Value), jm_lg j28 = false ∧ jm_lg j29 = false ∧ jm_lg j30 = false ∧ jm_lg j31 = false ∧ jm_lg j32 = false ∧ jm_lg j33 = false ∧ c = jm_sup cd_280 (jm_cl jm_CD km_n (d + 3)) (281, [some (.ref 44), some (gv c9), some (gv c10), some (gv q.1), some (gv q.2.1), some (gv q.2.2.1), some (gv q.2.2.2.1), some (gv q.2.2.2.2), some (gv c16), j28, j29, j30, j31, j32, j33], [], gm_h s g)) (md_best_l63 g c9 c10 c16 fuel v11 v12 v13 v14 v15 v17) (jm_sup cd_280 (jm_cl jm_CD km_n (d + 3)) (63, [some (.ref 44), some (gv c9), some (gv c10), some (gv v11), some (gv v12), some (gv v13), some (gv v14), some (gv v15), some (gv c16), some (gv v17), j18, j19, j20, j21, j22], [], gm_h s g)) := by
  intro fuel
  induction fuel with
  | zero => intros; exact jr_none
  | succ fuel ih =>
    intro v11 v12 v13 v14 v15 v17 j18 j19 j20 j21 j22 hj18 hj19 hj20 hj21 hj22
    unfold md_best_l63
    exact (
      r_iload (pc2 := 65) rfl rfl rfl (
      r_ic (x := 4) (pc2 := 66) rfl ic_4 rfl (
      jr_g fun h34 => r_cge (pc2 := 69) (t := 281) rfl h34 (rgk rfl) rfl (fun _ =>
      r_ic (x := 0) (pc2 := 70) rfl ic_0 rfl (
      r_istore (L2 := [some (.ref 44), some (gv c9), some (gv c10), some (gv v11), some (gv v12), some (gv v13), some (gv v14), some (gv v15), some (gv c16), some (gv v17), some (gv 0), j19, j20, j21, j22]) (pc2 := 72) rfl rfl rfl (
      r_b5 (rl_md_best_l72 hs d  g c9 c10 c16 v17  fz v11 v12 v13 v14 v15 0 _ _ _ _ hj19 hj20 hj21 hj22) (fun v114 v115 v116 v117 v118 c h => match c, h with | _, ⟨j119, j120, j121, j122, j123, hj119, hj120, hj121, hj122, hj123, rfl⟩ => (
      r_iinc (kk := 1) (L2 := [some (.ref 44), some (gv c9), some (gv c10), some (gv v114), some (gv v115), some (gv v116), some (gv v117), some (gv v118), some (gv c16), some (gv (v17 + 1)), j119, j120, j121, j122, j123]) (pc2 := 278) rfl ic_1 rfl rfl rfl (
      r_goto (t := 63) rfl (
      ih v114 v115 v116 v117 v118 (v17 + 1) _ _ _ _ _ hj119 hj120 hj121 hj122 hj123))))))) (fun _ =>
      jr_leaf ⟨_, _, _, _, _, _, rfl, hj18, hj19, hj20, hj21, hj22, rfl⟩))))
theorem rf_md_best {s : gm_S} {n m : Nat} (hs : gm_sh s n m) (d : Nat)  (g : gm_T) (a1 : Int) (a2 : Int)  : jr (pI s g) (md_best g a1 a2) (jm_cl jm_CD km_n (d + 4) 280 [.ref 44, gv a1, gv a2] (gm_h s g)) := by
  unfold md_best
  exact (r_ent (cd := cd_280) (n := 15) (L0 := [some (.ref 44), some (gv a1), some (gv a2), none, none, none, none, none, none, none, none, none, none, none, none]) rfl rfl rfl rfl (
      r_aload (pc2 := 1) rfl rfl rfl (
      r_iload (pc2 := 2) rfl rfl rfl (
      r_callVP (pc2 := 5) (args := [.ref 44, gv a1]) (st2 := []) rfl rfl rfl rfl rfl rfl (rc_of (sh_T hs rfl rfl)) (rf_md_isBit hs (d + 1) g a1 ) fun v1 => (
      jr_g fun h2 => r_ifeq (pc2 := 8) (t := 17) rfl h2 rfl (fun _ =>
      r_ic (x := -100000) (pc2 := 20) rfl ic_m100000 rfl (
      r_iret rfl rfl)) (fun _ =>
      r_iload (pc2 := 9) rfl rfl rfl (
      r_ic (x := 0) (pc2 := 10) rfl ic_0 rfl (
      r_ic (x := 4) (pc2 := 11) rfl ic_4 rfl (
      r_callSP (pc2 := 14) (args := [gv a2, gv 0, gv 4]) (st2 := []) rfl rfl rfl rfl rfl rfl (rf_md_in hs (d + 2) g a2 0 4 ) fun v3 => (
      jr_g fun h4 => r_ifne (pc2 := 17) (t := 21) rfl h4 rfl (fun _ =>
      r_ic (x := -100000) (pc2 := 20) rfl ic_m100000 rfl (
      r_iret rfl rfl)) (fun _ =>
      r_aload (pc2 := 22) rfl rfl rfl (
      r_getI (pc2 := 25) rfl rfl (sh_T hs rfl rfl) (
      jr_g fun h5 => r_ifeq (pc2 := 28) (t := 37) rfl h5 rfl (fun _ =>
      r_ic (x := -100001) (pc2 := 40) rfl ic_m100001 rfl (
      r_iret rfl rfl)) (fun _ =>
      r_aload (pc2 := 29) rfl rfl rfl (
      r_getA (pc2 := 32) rfl rfl (sh_T hs rfl rfl) (sh_A hs rfl rfl) (
      r_iload (pc2 := 33) rfl rfl rfl (
      jr_g fun h6 => r_iald (len := 30) (pc2 := 34) rfl rfl (sh_T hs rfl rfl) (sh_L hs rfl rfl) rfl h6 (
      jr_g fun h7 => r_ifne (pc2 := 37) (t := 41) rfl h7 rfl (fun _ =>
      r_ic (x := -100001) (pc2 := 40) rfl ic_m100001 rfl (
      r_iret rfl rfl)) (fun _ =>
      r_ic (x := -1) (pc2 := 42) rfl ic_m1 rfl (
      r_istore (L2 := [some (.ref 44), some (gv a1), some (gv a2), some (gv (-1)), none, none, none, none, none, none, none, none, none, none, none]) (pc2 := 43) rfl rfl rfl (
      r_ic (x := 0) (pc2 := 44) rfl ic_0 rfl (
      r_istore (L2 := [some (.ref 44), some (gv a1), some (gv a2), some (gv (-1)), some (gv 0), none, none, none, none, none, none, none, none, none, none]) (pc2 := 46) rfl rfl rfl (
      r_ic (x := 0) (pc2 := 47) rfl ic_0 rfl (
      r_istore (L2 := [some (.ref 44), some (gv a1), some (gv a2), some (gv (-1)), some (gv 0), some (gv 0), none, none, none, none, none, none, none, none, none]) (pc2 := 49) rfl rfl rfl (
      r_ic (x := 0) (pc2 := 50) rfl ic_0 rfl (
      r_istore (L2 := [some (.ref 44), some (gv a1), some (gv a2), some (gv (-1)), some (gv 0), some (gv 0), some (gv 0), none, none, none, none, none, none, none, none]) (pc2 := 52) rfl rfl rfl (
      r_ic (x := 0) (pc2 := 53) rfl ic_0 rfl (
      r_istore (L2 := [some (.ref 44), some (gv a1), some (gv a2), some (gv (-1)), some (gv 0), some (gv 0), some (gv 0), some (gv 0), none, none, none, none, none, none, none]) (pc2 := 55) rfl rfl rfl (
      r_ic (x := 5) (pc2 := 56) rfl ic_5 rfl (
      r_iload (pc2 := 57) rfl rfl rfl (
      r_imul (pc2 := 58) rfl rfl (
      r_istoreL (L3 := fun v8 => [some (.ref 44), some (gv a1), some (gv a2), some (gv (-1)), some (gv 0), some (gv 0), some (gv 0), some (gv 0), some (gv v8), none, none, none, none, none, none]) (pc2 := 60) rfl rfl (fun _ => rfl) fun v8 => (
      r_ic (x := 0) (pc2 := 61) rfl ic_0 rfl (
      r_istore (L2 := [some (.ref 44), some (gv a1), some (gv a2), some (gv (-1)), some (gv 0), some (gv 0), some (gv 0), some (gv 0), some (gv v8), some (gv 0), none, none, none, none, none]) (pc2 := 63) rfl rfl rfl (
      r_b5 (rl_md_best_l63 hs d  g a1 a2 v8  fz (-1) 0 0 0 0 0 _ _ _ _ _ rfl rfl rfl rfl rfl) (fun v125 v126 v127 v128 v129 c h => match c, h with | _, ⟨j130, j131, j132, j133, j134, j135, hj130, hj131, hj132, hj133, hj134, hj135, rfl⟩ => (
      r_iload (pc2 := 282) rfl rfl rfl (
      r_ic (x := -1) (pc2 := 283) rfl ic_m1 rfl (
      jr_g fun h136 => r_cne (pc2 := 286) (t := 290) rfl h136 (rgk rfl) rfl (fun _ =>
      r_ic (x := -100001) (pc2 := 289) rfl ic_m100001 rfl (
      r_iret rfl rfl)) (fun _ =>
      r_iload (pc2 := 291) rfl rfl rfl (
      jr_g fun h137 => r_ifne (pc2 := 294) (t := 298) rfl h137 rfl (fun _ =>
      r_iload (pc2 := 295) rfl rfl rfl (
      r_goto (t := 330) rfl (
      r_iret rfl rfl))) (fun _ =>
      r_iload (pc2 := 299) rfl rfl rfl (
      r_ic (x := 1) (pc2 := 300) rfl ic_1 rfl (
      r_cne (pc2 := 303) (t := 308) rfl h137 (rgk rfl) rfl (fun _ =>
      r_iload (pc2 := 305) rfl rfl rfl (
      r_goto (t := 330) rfl (
      r_iret rfl rfl))) (fun _ =>
      r_iload (pc2 := 309) rfl rfl rfl (
      r_ic (x := 2) (pc2 := 310) rfl ic_2 rfl (
      r_cne (pc2 := 313) (t := 318) rfl h137 (rgk rfl) rfl (fun _ =>
      r_iload (pc2 := 315) rfl rfl rfl (
      r_goto (t := 330) rfl (
      r_iret rfl rfl))) (fun _ =>
      r_iload (pc2 := 319) rfl rfl rfl (
      r_ic (x := 3) (pc2 := 320) rfl ic_3 rfl (
      r_cne (pc2 := 323) (t := 328) rfl h137 (rgk rfl) rfl (fun _ =>
      r_iload (pc2 := 325) rfl rfl rfl (
      r_goto (t := 330) rfl (
      r_iret rfl rfl))) (fun _ =>
      r_iload (pc2 := 330) rfl rfl rfl (
      r_iret rfl rfl))))))))))))))))))))))))))))))))))))))))))))))))))))
theorem rf_md_holdsOf {s : gm_S} {n m : Nat} (hs : gm_sh s n m) (d : Nat)  (g : gm_T) (a1 : Int) (a2 : Int)  : jr (eV s) (md_holdsOf g a1 a2) (jm_cl jm_CD km_n (d + 4) 281 [.ref 44, gv a1, gv a2] (gm_h s g)) := by
  unfold md_holdsOf
  exact (r_ent (cd := cd_281) (n := 3) (L0 := [some (.ref 44), some (gv a1), some (gv a2)]) rfl rfl rfl rfl (
      r_aload (pc2 := 1) rfl rfl rfl (
      r_ic (x := 0) (pc2 := 2) rfl ic_0 rfl (
      r_ic (x := 0) (pc2 := 3) rfl ic_0 rfl (
      r_ic (x := 0) (pc2 := 4) rfl ic_0 rfl (
      r_callVV (pc2 := 7) (args := [.ref 44, gv 0, gv 0, gv 0]) (st2 := []) rfl rfl rfl rfl rfl rfl (rc_of (sh_T hs rfl rfl)) (rf_md_holds hs (d + 2) g 0 0 0 ) fun g1 => (
      r_aload (pc2 := 8) rfl rfl rfl (
      r_aload (pc2 := 9) rfl rfl rfl (
      r_getA (pc2 := 12) rfl rfl (sh_T hs rfl rfl) (sh_A hs rfl rfl) (
      r_iload (pc2 := 13) rfl rfl rfl (
      jr_g fun h2 => r_iald (len := 3) (pc2 := 14) rfl rfl (sh_T hs rfl rfl) (sh_L hs rfl rfl) rfl h2 (
      r_aload (pc2 := 15) rfl rfl rfl (
      r_getA (pc2 := 18) rfl rfl (sh_T hs rfl rfl) (sh_A hs rfl rfl) (
      r_iload (pc2 := 19) rfl rfl rfl (
      r_iald (len := 3) (pc2 := 20) rfl rfl (sh_T hs rfl rfl) (sh_L hs rfl rfl) rfl h2 (
      r_aload (pc2 := 21) rfl rfl rfl (
      r_getA (pc2 := 24) rfl rfl (sh_T hs rfl rfl) (sh_A hs rfl rfl) (
      r_iload (pc2 := 25) rfl rfl rfl (
      r_iald (len := 3) (pc2 := 26) rfl rfl (sh_T hs rfl rfl) (sh_L hs rfl rfl) rfl h2 (
      r_callVV (pc2 := 29) (args := [.ref 44, gv (gm_I g1 91 a1.toNat), gv (gm_I g1 92 a1.toNat), gv (gm_I g1 93 a1.toNat)]) (st2 := []) rfl rfl rfl rfl rfl rfl (rc_of (sh_T hs rfl rfl)) (rf_md_thenBack hs d g1 (gm_I g1 91 a1.toNat) (gm_I g1 92 a1.toNat) (gm_I g1 93 a1.toNat) ) fun g3 => (
      r_aload (pc2 := 30) rfl rfl rfl (
      r_aload (pc2 := 31) rfl rfl rfl (
      r_getA (pc2 := 34) rfl rfl (sh_T hs rfl rfl) (sh_A hs rfl rfl) (
      r_iload (pc2 := 35) rfl rfl rfl (
      jr_g fun h4 => r_iald (len := 3) (pc2 := 36) rfl rfl (sh_T hs rfl rfl) (sh_L hs rfl rfl) rfl h4 (
      r_aload (pc2 := 37) rfl rfl rfl (
      r_getA (pc2 := 40) rfl rfl (sh_T hs rfl rfl) (sh_A hs rfl rfl) (
      r_iload (pc2 := 41) rfl rfl rfl (
      r_iald (len := 3) (pc2 := 42) rfl rfl (sh_T hs rfl rfl) (sh_L hs rfl rfl) rfl h4 (
      r_aload (pc2 := 43) rfl rfl rfl (
      r_getA (pc2 := 46) rfl rfl (sh_T hs rfl rfl) (sh_A hs rfl rfl) (
      r_iload (pc2 := 47) rfl rfl rfl (
      r_iald (len := 3) (pc2 := 48) rfl rfl (sh_T hs rfl rfl) (sh_L hs rfl rfl) rfl h4 (
      r_callVV (pc2 := 51) (args := [.ref 44, gv (gm_I g3 91 a2.toNat), gv (gm_I g3 92 a2.toNat), gv (gm_I g3 93 a2.toNat)]) (st2 := []) rfl rfl rfl rfl rfl rfl (rc_of (sh_T hs rfl rfl)) (rf_md_then hs (d + 1) g3 (gm_I g3 91 a2.toNat) (gm_I g3 92 a2.toNat) (gm_I g3 93 a2.toNat) ) fun g5 => (
      r_vret rfl rfl)))))))))))))))))))))))))))))))))))
theorem rl_md_worthOf_l81 {s : gm_S} {n m : Nat} (hs : gm_sh s n m) (d : Nat)  (g : gm_T) (c30 : Int) (c31 : Int) (c32 : Int) (c33 : Int) (c34 : Int) (c36 : Int)  : ∀ (fuel : Nat) (v35 : Int) (v37 : Int) (j28 : Option Value) (j29 : Option Value) (j38 : Option Value) (hj28 : jm_lg j28 = false) (hj29 : jm_lg j29 = false) (hj38 : jm_lg j38 = false), jr (fun (q : Int) (c : Option jm_R) => ∃ (j40 : Option Value) (j41 : Option Value), jm_lg j40 = false ∧ jm_lg j41 = false ∧ c = jm_sup cd_282 (jm_cl jm_CD km_n (d + 4)) (198, [some (.ref 44), j28, j29, some (gv c30), some (gv c31), some (gv c32), some (gv c33), some (gv c34), some (gv q), some (gv c36), j40, j41], [], gm_h s g)) (md_worthOf_l81 g c30 c31 c32 c33 c34 c36 fuel v35 v37) (jm_sup cd_282 (jm_cl jm_CD km_n (d + 4)) (81, [some (.ref 44), j28, j29, some (gv c30), some (gv c31), some (gv c32), some (gv c33), some (gv c34), some (gv v35), some (gv c36), some (gv v37), j38], [], gm_h s g)) := by
  intro fuel
  induction fuel with
  | zero => intros; exact jr_none
  | succ fuel ih =>
    intro v35 v37 j28 j29 j38 hj28 hj29 hj38
    unfold md_worthOf_l81
    exact (
      r_iload (pc2 := 83) rfl rfl rfl (
      r_aload (pc2 := 84) rfl rfl rfl (
      r_getA (pc2 := 87) rfl rfl (sh_T hs rfl rfl) (sh_A hs rfl rfl) (
      r_iload (pc2 := 89) rfl rfl rfl (
      jr_g fun h42 => r_iald (len := 30) (pc2 := 90) rfl rfl (sh_T hs rfl rfl) (sh_L hs rfl rfl) rfl h42 (
      jr_g fun h43 => r_cge (pc2 := 93) (t := 198) rfl h43.1 h43.2 rfl (fun _ =>
      r_aload (pc2 := 94) rfl rfl rfl (
      r_iload (pc2 := 95) rfl rfl rfl (
      r_iload (pc2 := 97) rfl rfl rfl (
      r_iload (pc2 := 99) rfl rfl rfl (
      r_iload (pc2 := 101) rfl rfl rfl (
      r_callVP (pc2 := 104) (args := [.ref 44, gv c30, gv c36, gv c31, gv v37]) (st2 := []) rfl rfl rfl rfl rfl rfl (rc_of (sh_T hs rfl rfl)) (rf_md_isFit hs (d + 2) g c30 c36 c31 v37 ) fun v44 => (
      r_b1 (R1 := (fun (q : Int) (c : Option jm_R) => c = jm_sup cd_282 (jm_cl jm_CD km_n (d + 4)) (165, [some (.ref 44), j28, j29, some (gv c30), some (gv c31), some (gv c32), some (gv c33), some (gv c34), some (gv v35), some (gv c36), some (gv v37), j38], [gv q], gm_h s g))) (
      jr_g fun h46 => r_ifeq (pc2 := 107) (t := 164) rfl h46 rfl (fun _ =>
      r_ic (x := 0) (pc2 := 165) rfl ic_0 rfl (
      jr_leaf rfl)) (fun _ =>
      r_aload (pc2 := 108) rfl rfl rfl (
      r_getA (pc2 := 111) rfl rfl (sh_T hs rfl rfl) (sh_A hs rfl rfl) (
      r_aload (pc2 := 112) rfl rfl rfl (
      r_iload (pc2 := 113) rfl rfl rfl (
      r_iload (pc2 := 115) rfl rfl rfl (
      r_iload (pc2 := 117) rfl rfl rfl (
      r_iload (pc2 := 119) rfl rfl rfl (
      r_callVP (pc2 := 122) (args := [.ref 44, gv c30, gv c36, gv c31, gv v37]) (st2 := [.ref 63]) rfl rfl rfl rfl rfl rfl (rc_of (sh_T hs rfl rfl)) (rf_md_entry hs (d + 3) g c30 c36 c31 v37 ) fun v47 => (
      jr_g fun h48 => r_iald (len := 57600) (pc2 := 123) rfl rfl (sh_T hs rfl rfl) (sh_L hs rfl rfl) rfl h48 (
      r_iload (pc2 := 125) rfl rfl rfl (
      jr_g fun h49 => r_cne (pc2 := 128) (t := 164) rfl h49.1 h49.2 rfl (fun _ =>
      r_aload (pc2 := 129) rfl rfl rfl (
      r_iload (pc2 := 130) rfl rfl rfl (
      r_iload (pc2 := 132) rfl rfl rfl (
      r_iload (pc2 := 134) rfl rfl rfl (
      r_iload (pc2 := 136) rfl rfl rfl (
      r_callVP (pc2 := 139) (args := [.ref 44, gv c30, gv c36, gv c31, gv v37]) (st2 := []) rfl rfl rfl rfl rfl rfl (rc_of (sh_T hs rfl rfl)) (rf_md_fitX hs (d + 2) g c30 c36 c31 v37 ) fun v50 => (
      r_iload (pc2 := 141) rfl rfl rfl (
      jr_g fun h51 => r_cne (pc2 := 144) (t := 164) rfl h51.1 h51.2 rfl (fun _ =>
      r_aload (pc2 := 145) rfl rfl rfl (
      r_iload (pc2 := 146) rfl rfl rfl (
      r_iload (pc2 := 148) rfl rfl rfl (
      r_iload (pc2 := 150) rfl rfl rfl (
      r_iload (pc2 := 152) rfl rfl rfl (
      r_callVP (pc2 := 155) (args := [.ref 44, gv c30, gv c36, gv c31, gv v37]) (st2 := []) rfl rfl rfl rfl rfl rfl (rc_of (sh_T hs rfl rfl)) (rf_md_fitY hs (d + 2) g c30 c36 c31 v37 ) fun v52 => (
      r_iload (pc2 := 157) rfl rfl rfl (
      jr_g fun h53 => r_cne (pc2 := 160) (t := 164) rfl h53.1 h53.2 rfl (fun _ =>
      r_ic (x := 1) (pc2 := 161) rfl ic_1 rfl (
      r_goto (t := 165) rfl (
      jr_leaf rfl))) (fun _ =>
      r_ic (x := 0) (pc2 := 165) rfl ic_0 rfl (
      jr_leaf rfl)))))))))) (fun _ =>
      r_ic (x := 0) (pc2 := 165) rfl ic_0 rfl (
      jr_leaf rfl)))))))))) (fun _ =>
      r_ic (x := 0) (pc2 := 165) rfl ic_0 rfl (
      jr_leaf rfl)))))))))))))) (fun v45 c h => match c, h with | _, rfl => (
      r_istore (L2 := [some (.ref 44), j28, j29, some (gv c30), some (gv c31), some (gv c32), some (gv c33), some (gv c34), some (gv v35), some (gv c36), some (gv v37), some (gv v45)]) (pc2 := 167) rfl rfl rfl (
      r_iload (pc2 := 169) rfl rfl rfl (
      r_iload (pc2 := 171) rfl rfl rfl (
      jr_g fun h54 => r_ifeq (pc2 := 174) (t := 188) rfl h54 rfl (fun _ =>
      r_ic (x := 0) (pc2 := 189) rfl ic_0 rfl (
      r_iadd (pc2 := 190) rfl rfl (
      r_istoreL (L3 := fun v55 => [some (.ref 44), j28, j29, some (gv c30), some (gv c31), some (gv c32), some (gv c33), some (gv c34), some (gv v55), some (gv c36), some (gv v37), some (gv v45)]) (pc2 := 192) rfl rfl (fun _ => rfl) fun v55 => (
      r_iinc (kk := 1) (L2 := [some (.ref 44), j28, j29, some (gv c30), some (gv c31), some (gv c32), some (gv c33), some (gv c34), some (gv v55), some (gv c36), some (gv (v37 + 1)), some (gv v45)]) (pc2 := 195) rfl ic_1 rfl rfl rfl (
      r_goto (t := 81) rfl (
      ih v55 (v37 + 1) _ _ _ hj28 hj29 rfl)))))) (fun _ =>
      r_aload (pc2 := 175) rfl rfl rfl (
      r_iload (pc2 := 176) rfl rfl rfl (
      r_iload (pc2 := 178) rfl rfl rfl (
      r_iload (pc2 := 180) rfl rfl rfl (
      r_iload (pc2 := 182) rfl rfl rfl (
      r_callVP (pc2 := 185) (args := [.ref 44, gv c30, gv c36, gv c31, gv v37]) (st2 := [gv v35]) rfl rfl rfl rfl rfl rfl (rc_of (sh_T hs rfl rfl)) (rf_md_scoreOf hs (d + 2) g c30 c36 c31 v37 ) fun v57 => (
      r_goto (t := 189) rfl (
      r_iadd (pc2 := 190) rfl rfl (
      r_istoreL (L3 := fun v58 => [some (.ref 44), j28, j29, some (gv c30), some (gv c31), some (gv c32), some (gv c33), some (gv c34), some (gv v58), some (gv c36), some (gv v37), some (gv v45)]) (pc2 := 192) rfl rfl (fun _ => rfl) fun v58 => (
      r_iinc (kk := 1) (L2 := [some (.ref 44), j28, j29, some (gv c30), some (gv c31), some (gv c32), some (gv c33), some (gv c34), some (gv v58), some (gv c36), some (gv (v37 + 1)), some (gv v45)]) (pc2 := 195) rfl ic_1 rfl rfl rfl (
      r_goto (t := 81) rfl (
      ih v58 (v37 + 1) _ _ _ hj28 hj29 rfl)))))))))))))))))))))))) (fun _ =>
      jr_leaf ⟨_, _, rfl, hj38, rfl⟩)))))))
theorem rl_md_worthOf_l67 {s : gm_S} {n m : Nat} (hs : gm_sh s n m) (d : Nat)  (g : gm_T) (c13 : Int) (c14 : Int) (c15 : Int) (c16 : Int) (c17 : Int)  : ∀ (fuel : Nat) (v18 : Int) (v19 : Int) (j11 : Option Value) (j12 : Option Value) (j20 : Option Value) (j21 : Option Value) (hj11 : jm_lg j11 = false) (hj12 : jm_lg j12 = false) (hj20 : jm_lg j20 = false) (hj21 : jm_lg j21 = false), jr (fun (q : Int) (c : Option jm_R) => ∃ (j23 : Option Value) (j24 : Option Value) (j25 : Option Value), jm_lg j23 = false ∧ jm_lg j24 = false ∧ jm_lg j25 = false ∧ c = jm_sup cd_282 (jm_cl jm_CD km_n (d + 4)) (204, [some (.ref 44), j11, j12, some (gv c13), some (gv c14), some (gv c15), some (gv c16), some (gv c17), some (gv q), j23, j24, j25], [], gm_h s g)) (md_worthOf_l67 g c13 c14 c15 c16 c17 fuel v18 v19) (jm_sup cd_282 (jm_cl jm_CD km_n (d + 4)) (67, [some (.ref 44), j11, j12, some (gv c13), some (gv c14), some (gv c15), some (gv c16), some (gv c17), some (gv v18), some (gv v19), j20, j21], [], gm_h s g)) := by
  intro fuel
  induction fuel with
  | zero => intros; exact jr_none
  | succ fuel ih =>
    intro v18 v19 j11 j12 j20 j21 hj11 hj12 hj20 hj21
    unfold md_worthOf_l67
    exact (
      r_iload (pc2 := 69) rfl rfl rfl (
      r_aload (pc2 := 70) rfl rfl rfl (
      r_getA (pc2 := 73) rfl rfl (sh_T hs rfl rfl) (sh_A hs rfl rfl) (
      r_iload (pc2 := 74) rfl rfl rfl (
      jr_g fun h26 => r_iald (len := 30) (pc2 := 75) rfl rfl (sh_T hs rfl rfl) (sh_L hs rfl rfl) rfl h26 (
      jr_g fun h27 => r_cge (pc2 := 78) (t := 204) rfl h27.1 h27.2 rfl (fun _ =>
      r_ic (x := 0) (pc2 := 79) rfl ic_0 rfl (
      r_istore (L2 := [some (.ref 44), j11, j12, some (gv c13), some (gv c14), some (gv c15), some (gv c16), some (gv c17), some (gv v18), some (gv v19), some (gv 0), j21]) (pc2 := 81) rfl rfl rfl (
      r_b1 (rl_md_worthOf_l81 hs d  g c13 c14 c15 c16 c17 v19  fz v18 0 _ _ _ hj11 hj12 hj21) (fun v62 c h => match c, h with | _, ⟨j63, j64, hj63, hj64, rfl⟩ => (
      r_iinc (kk := 1) (L2 := [some (.ref 44), j11, j12, some (gv c13), some (gv c14), some (gv c15), some (gv c16), some (gv c17), some (gv v62), some (gv (v19 + 1)), j63, j64]) (pc2 := 201) rfl ic_1 rfl rfl rfl (
      r_goto (t := 67) rfl (
      ih v62 (v19 + 1) _ _ _ _ hj11 hj12 hj63 hj64))))))) (fun _ =>
      jr_leaf ⟨_, _, _, rfl, hj20, hj21, rfl⟩)))))))
theorem rf_md_worthOf {s : gm_S} {n m : Nat} (hs : gm_sh s n m) (d : Nat)  (g : gm_T) (a1 : Int) (a2 : Int)  : jr (eI s) (md_worthOf g a1 a2) (jm_cl jm_CD km_n (d + 5) 282 [.ref 44, gv a1, gv a2] (gm_h s g)) := by
  unfold md_worthOf
  exact (r_ent (cd := cd_282) (n := 12) (L0 := [some (.ref 44), some (gv a1), some (gv a2), none, none, none, none, none, none, none, none, none]) rfl rfl rfl rfl (
      r_aload (pc2 := 1) rfl rfl rfl (
      r_getA (pc2 := 4) rfl rfl (sh_T hs rfl rfl) (sh_A hs rfl rfl) (
      r_iload (pc2 := 5) rfl rfl rfl (
      jr_g fun h1 => r_iald (len := 3) (pc2 := 6) rfl rfl (sh_T hs rfl rfl) (sh_L hs rfl rfl) rfl h1 (
      r_istoreL (L3 := fun v2 => [some (.ref 44), some (gv a1), some (gv a2), some (gv v2), none, none, none, none, none, none, none, none]) (pc2 := 7) rfl rfl (fun _ => rfl) fun v2 => (
      r_aload (pc2 := 8) rfl rfl rfl (
      r_getA (pc2 := 11) rfl rfl (sh_T hs rfl rfl) (sh_A hs rfl rfl) (
      r_iload (pc2 := 12) rfl rfl rfl (
      jr_g fun h3 => r_iald (len := 3) (pc2 := 13) rfl rfl (sh_T hs rfl rfl) (sh_L hs rfl rfl) rfl h3 (
      r_istoreL (L3 := fun v4 => [some (.ref 44), some (gv a1), some (gv a2), some (gv v2), some (gv v4), none, none, none, none, none, none, none]) (pc2 := 15) rfl rfl (fun _ => rfl) fun v4 => (
      r_aload (pc2 := 16) rfl rfl rfl (
      r_iload (pc2 := 17) rfl rfl rfl (
      r_iload (pc2 := 18) rfl rfl rfl (
      r_callVV (pc2 := 21) (args := [.ref 44, gv a1, gv a2]) (st2 := []) rfl rfl rfl rfl rfl rfl (rc_of (sh_T hs rfl rfl)) (rf_md_holdsOf hs d g a1 a2 ) fun g5 => (
      r_aload (pc2 := 22) rfl rfl rfl (
      r_getI (pc2 := 25) rfl rfl (sh_T hs rfl rfl) (
      r_istoreL (L3 := fun v6 => [some (.ref 44), some (gv a1), some (gv a2), some (gv v2), some (gv v4), some (gv v6), none, none, none, none, none, none]) (pc2 := 27) rfl rfl (fun _ => rfl) fun v6 => (
      r_aload (pc2 := 28) rfl rfl rfl (
      r_getI (pc2 := 31) rfl rfl (sh_T hs rfl rfl) (
      r_istoreL (L3 := fun v7 => [some (.ref 44), some (gv a1), some (gv a2), some (gv v2), some (gv v4), some (gv v6), some (gv v7), none, none, none, none, none]) (pc2 := 33) rfl rfl (fun _ => rfl) fun v7 => (
      r_aload (pc2 := 34) rfl rfl rfl (
      r_getI (pc2 := 37) rfl rfl (sh_T hs rfl rfl) (
      r_istoreL (L3 := fun v8 => [some (.ref 44), some (gv a1), some (gv a2), some (gv v2), some (gv v4), some (gv v6), some (gv v7), some (gv v8), none, none, none, none]) (pc2 := 39) rfl rfl (fun _ => rfl) fun v8 => (
      r_aload (pc2 := 40) rfl rfl rfl (
      r_iload (pc2 := 41) rfl rfl rfl (
      r_iload (pc2 := 43) rfl rfl rfl (
      r_iload (pc2 := 45) rfl rfl rfl (
      r_iload (pc2 := 47) rfl rfl rfl (
      r_iload (pc2 := 49) rfl rfl rfl (
      r_callVP (pc2 := 52) (args := [.ref 44, gv v2, gv v4, gv v6, gv v7, gv v8]) (st2 := []) rfl rfl rfl rfl rfl rfl (rc_of (sh_T hs rfl rfl)) (rf_md_overlaps hs d g5 v2 v4 v6 v7 v8 ) fun v9 => (
      r_aload (pc2 := 53) rfl rfl rfl (
      r_getI (pc2 := 56) rfl rfl (sh_T hs rfl rfl) (
      jr_g fun h10 => r_cle (pc2 := 59) (t := 61) rfl h10.1 h10.2 rfl (fun _ =>
      r_ic (x := 0) (pc2 := 62) rfl ic_0 rfl (
      r_istore (L2 := [some (.ref 44), some (gv a1), some (gv a2), some (gv v2), some (gv v4), some (gv v6), some (gv v7), some (gv v8), some (gv 0), none, none, none]) (pc2 := 64) rfl rfl rfl (
      r_ic (x := 0) (pc2 := 65) rfl ic_0 rfl (
      r_istore (L2 := [some (.ref 44), some (gv a1), some (gv a2), some (gv v2), some (gv v4), some (gv v6), some (gv v7), some (gv v8), some (gv 0), some (gv 0), none, none]) (pc2 := 67) rfl rfl rfl (
      r_b1 (rl_md_worthOf_l67 hs d  g5 v2 v4 v6 v7 v8  fz 0 0 _ _ _ _ rfl rfl rfl rfl) (fun v68 c h => match c, h with | _, ⟨j69, j70, j71, hj69, hj70, hj71, rfl⟩ => (
      r_iload (pc2 := 206) rfl rfl rfl (
      r_iret rfl rfl)))))))) (fun _ =>
      r_ic (x := -1) (pc2 := 60) rfl ic_m1 rfl (
      r_iret rfl rfl))))))))))))))))))))))))))))))))))))
theorem rl_md_isAhead_l2 {s : gm_S} {n m : Nat} (hs : gm_sh s n m) (d : Nat)  (g : gm_T)   : ∀ (fuel : Nat) (v1 : Int), jr (pI s g) (md_isAhead_l2 g  fuel v1) (jm_sup cd_283 (jm_cl jm_CD km_n d) (2, [some (.ref 44), some (gv v1)], [], gm_h s g)) := by
  intro fuel
  induction fuel with
  | zero => intros; exact jr_none
  | succ fuel ih =>
    intro v1  
    unfold md_isAhead_l2
    exact (
      r_iload (pc2 := 3) rfl rfl rfl (
      r_aload (pc2 := 4) rfl rfl rfl (
      r_getI (pc2 := 7) rfl rfl (sh_T hs rfl rfl) (
      jr_g fun h2 => r_cge (pc2 := 10) (t := 124) rfl h2.1 h2.2 rfl (fun _ =>
      r_aload (pc2 := 11) rfl rfl rfl (
      r_getA (pc2 := 14) rfl rfl (sh_T hs rfl rfl) (sh_A hs rfl rfl) (
      r_iload (pc2 := 15) rfl rfl rfl (
      jr_g fun h3 => r_iald (len := 3) (pc2 := 16) rfl rfl (sh_T hs rfl rfl) (sh_L hs rfl rfl) rfl h3 (
      r_aload (pc2 := 17) rfl rfl rfl (
      r_getA (pc2 := 20) rfl rfl (sh_T hs rfl rfl) (sh_A hs rfl rfl) (
      r_iload (pc2 := 21) rfl rfl rfl (
      r_iald (len := 3) (pc2 := 22) rfl rfl (sh_T hs rfl rfl) (sh_L hs rfl rfl) rfl h3 (
      jr_g fun h4 => r_ceq (pc2 := 25) (t := 46) rfl h4.1 h4.2 rfl (fun _ =>
      r_aload (pc2 := 47) rfl rfl rfl (
      r_getA (pc2 := 50) rfl rfl (sh_T hs rfl rfl) (sh_A hs rfl rfl) (
      r_iload (pc2 := 51) rfl rfl rfl (
      r_iald (len := 3) (pc2 := 52) rfl rfl (sh_T hs rfl rfl) (sh_L hs rfl rfl) rfl h3 (
      r_aload (pc2 := 53) rfl rfl rfl (
      r_getA (pc2 := 56) rfl rfl (sh_T hs rfl rfl) (sh_A hs rfl rfl) (
      r_iload (pc2 := 57) rfl rfl rfl (
      r_iald (len := 3) (pc2 := 58) rfl rfl (sh_T hs rfl rfl) (sh_L hs rfl rfl) rfl h3 (
      jr_g fun h5 => r_ceq (pc2 := 61) (t := 82) rfl h5.1 h5.2 rfl (fun _ =>
      r_aload (pc2 := 83) rfl rfl rfl (
      r_getA (pc2 := 86) rfl rfl (sh_T hs rfl rfl) (sh_A hs rfl rfl) (
      r_iload (pc2 := 87) rfl rfl rfl (
      r_iald (len := 3) (pc2 := 88) rfl rfl (sh_T hs rfl rfl) (sh_L hs rfl rfl) rfl h3 (
      r_aload (pc2 := 89) rfl rfl rfl (
      r_getA (pc2 := 92) rfl rfl (sh_T hs rfl rfl) (sh_A hs rfl rfl) (
      r_iload (pc2 := 93) rfl rfl rfl (
      r_iald (len := 3) (pc2 := 94) rfl rfl (sh_T hs rfl rfl) (sh_L hs rfl rfl) rfl h3 (
      jr_g fun h6 => r_ceq (pc2 := 97) (t := 118) rfl h6.1 h6.2 rfl (fun _ =>
      r_iinc (kk := 1) (L2 := [some (.ref 44), some (gv (v1 + 1))]) (pc2 := 121) rfl ic_1 rfl rfl rfl (
      r_goto (t := 2) rfl (
      ih (v1 + 1)))) (fun _ =>
      r_aload (pc2 := 98) rfl rfl rfl (
      r_getA (pc2 := 101) rfl rfl (sh_T hs rfl rfl) (sh_A hs rfl rfl) (
      r_iload (pc2 := 102) rfl rfl rfl (
      r_iald (len := 3) (pc2 := 103) rfl rfl (sh_T hs rfl rfl) (sh_L hs rfl rfl) rfl h3 (
      r_aload (pc2 := 104) rfl rfl rfl (
      r_getA (pc2 := 107) rfl rfl (sh_T hs rfl rfl) (sh_A hs rfl rfl) (
      r_iload (pc2 := 108) rfl rfl rfl (
      r_iald (len := 3) (pc2 := 109) rfl rfl (sh_T hs rfl rfl) (sh_L hs rfl rfl) rfl h3 (
      r_cge (pc2 := 112) (t := 116) rfl h6.1 h6.2 rfl (fun _ =>
      r_ic (x := 1) (pc2 := 113) rfl ic_1 rfl (
      r_goto (t := 117) rfl (
      r_zret rfl (by decide) rfl))) (fun _ =>
      r_ic (x := 0) (pc2 := 117) rfl ic_0 rfl (
      r_zret rfl (by decide) rfl)))))))))))))))))))) (fun _ =>
      r_aload (pc2 := 62) rfl rfl rfl (
      r_getA (pc2 := 65) rfl rfl (sh_T hs rfl rfl) (sh_A hs rfl rfl) (
      r_iload (pc2 := 66) rfl rfl rfl (
      r_iald (len := 3) (pc2 := 67) rfl rfl (sh_T hs rfl rfl) (sh_L hs rfl rfl) rfl h3 (
      r_aload (pc2 := 68) rfl rfl rfl (
      r_getA (pc2 := 71) rfl rfl (sh_T hs rfl rfl) (sh_A hs rfl rfl) (
      r_iload (pc2 := 72) rfl rfl rfl (
      r_iald (len := 3) (pc2 := 73) rfl rfl (sh_T hs rfl rfl) (sh_L hs rfl rfl) rfl h3 (
      r_cge (pc2 := 76) (t := 80) rfl h5.1 h5.2 rfl (fun _ =>
      r_ic (x := 1) (pc2 := 77) rfl ic_1 rfl (
      r_goto (t := 81) rfl (
      r_zret rfl (by decide) rfl))) (fun _ =>
      r_ic (x := 0) (pc2 := 81) rfl ic_0 rfl (
      r_zret rfl (by decide) rfl)))))))))))))))))))) (fun _ =>
      r_aload (pc2 := 26) rfl rfl rfl (
      r_getA (pc2 := 29) rfl rfl (sh_T hs rfl rfl) (sh_A hs rfl rfl) (
      r_iload (pc2 := 30) rfl rfl rfl (
      r_iald (len := 3) (pc2 := 31) rfl rfl (sh_T hs rfl rfl) (sh_L hs rfl rfl) rfl h3 (
      r_aload (pc2 := 32) rfl rfl rfl (
      r_getA (pc2 := 35) rfl rfl (sh_T hs rfl rfl) (sh_A hs rfl rfl) (
      r_iload (pc2 := 36) rfl rfl rfl (
      r_iald (len := 3) (pc2 := 37) rfl rfl (sh_T hs rfl rfl) (sh_L hs rfl rfl) rfl h3 (
      r_cge (pc2 := 40) (t := 44) rfl h4.1 h4.2 rfl (fun _ =>
      r_ic (x := 1) (pc2 := 41) rfl ic_1 rfl (
      r_goto (t := 45) rfl (
      r_zret rfl (by decide) rfl))) (fun _ =>
      r_ic (x := 0) (pc2 := 45) rfl ic_0 rfl (
      r_zret rfl (by decide) rfl)))))))))))))))))))) (fun _ =>
      r_ic (x := 0) (pc2 := 125) rfl ic_0 rfl (
      r_zret rfl (by decide) rfl))))))
theorem rf_md_isAhead {s : gm_S} {n m : Nat} (hs : gm_sh s n m) (d : Nat)  (g : gm_T)   : jr (pI s g) (md_isAhead g ) (jm_cl jm_CD km_n (d + 1) 283 [.ref 44] (gm_h s g)) := by
  unfold md_isAhead
  exact (r_ent (cd := cd_283) (n := 2) (L0 := [some (.ref 44), none]) rfl rfl rfl rfl (
      r_ic (x := 1) (pc2 := 1) rfl ic_1 rfl (
      r_istore (L2 := [some (.ref 44), some (gv 1)]) (pc2 := 2) rfl rfl rfl (
      rl_md_isAhead_l2 hs d  g   fz 1  ))))
theorem rl_md_judgesSet_l97 {s : gm_S} {n m : Nat} (hs : gm_sh s n m) (d : Nat)    : ∀ (fuel : Nat) (v22 : Int) (g24 : gm_T) (j21 : Option Value) (j23 : Option Value) (hj21 : jm_lg j21 = false) (hj23 : jm_lg j23 = false), jr (fun (q : gm_T) (c : Option jm_R) => ∃ (j25 : Option Value), jm_lg j25 = false ∧ c = jm_sup cd_284 (jm_cl jm_CD km_n (d + 5)) (147, [some (.ref 44), j21, j25, j23], [], gm_h s q)) (md_judgesSet_l97   fuel v22 g24) (jm_sup cd_284 (jm_cl jm_CD km_n (d + 5)) (97, [some (.ref 44), j21, some (gv v22), j23], [], gm_h s g24)) := by
  intro fuel
  induction fuel with
  | zero => intros; exact jr_none
  | succ fuel ih =>
    intro v22 g24 j21 j23 hj21 hj23
    unfold md_judgesSet_l97
    exact (
      r_iload (pc2 := 98) rfl rfl rfl (
      r_aload (pc2 := 99) rfl rfl rfl (
      r_getI (pc2 := 102) rfl rfl (sh_T hs rfl rfl) (
      jr_g fun h27 => r_cge (pc2 := 105) (t := 147) rfl h27.1 h27.2 rfl (fun _ =>
      r_aload (pc2 := 106) rfl rfl rfl (
      r_getA (pc2 := 109) rfl rfl (sh_T hs rfl rfl) (sh_A hs rfl rfl) (
      r_iload (pc2 := 110) rfl rfl rfl (
      r_aload (pc2 := 111) rfl rfl rfl (
      r_getA (pc2 := 114) rfl rfl (sh_T hs rfl rfl) (sh_A hs rfl rfl) (
      r_iload (pc2 := 115) rfl rfl rfl (
      jr_g fun h28 => r_iald (len := 3) (pc2 := 116) rfl rfl (sh_T hs rfl rfl) (sh_L hs rfl rfl) rfl h28 (
      r_iast (len := 3) (pc2 := 117) rfl rfl (sh_T hs rfl rfl) (sh_L hs rfl rfl) rfl h28 fun g29 => (
      r_aload (pc2 := 118) rfl rfl rfl (
      r_getA (pc2 := 121) rfl rfl (sh_T hs rfl rfl) (sh_A hs rfl rfl) (
      r_iload (pc2 := 122) rfl rfl rfl (
      r_aload (pc2 := 123) rfl rfl rfl (
      r_getA (pc2 := 126) rfl rfl (sh_T hs rfl rfl) (sh_A hs rfl rfl) (
      r_iload (pc2 := 127) rfl rfl rfl (
      r_iald (len := 3) (pc2 := 128) rfl rfl (sh_T hs rfl rfl) (sh_L hs rfl rfl) rfl h28 (
      r_iast (len := 3) (pc2 := 129) rfl rfl (sh_T hs rfl rfl) (sh_L hs rfl rfl) rfl h28 fun g30 => (
      r_aload (pc2 := 130) rfl rfl rfl (
      r_getA (pc2 := 133) rfl rfl (sh_T hs rfl rfl) (sh_A hs rfl rfl) (
      r_iload (pc2 := 134) rfl rfl rfl (
      r_aload (pc2 := 135) rfl rfl rfl (
      r_getA (pc2 := 138) rfl rfl (sh_T hs rfl rfl) (sh_A hs rfl rfl) (
      r_iload (pc2 := 139) rfl rfl rfl (
      r_iald (len := 3) (pc2 := 140) rfl rfl (sh_T hs rfl rfl) (sh_L hs rfl rfl) rfl h28 (
      r_iast (len := 3) (pc2 := 141) rfl rfl (sh_T hs rfl rfl) (sh_L hs rfl rfl) rfl h28 fun g31 => (
      r_iinc (kk := 1) (L2 := [some (.ref 44), j21, some (gv (v22 + 1)), j23]) (pc2 := 144) rfl ic_1 rfl rfl (jm_st1j hj21 rfl ⟨rfl, rfl⟩) (
      r_goto (t := 97) rfl (
      ih (v22 + 1) g31 _ _ hj21 hj23))))))))))))))))))))))))))) (fun _ =>
      jr_leaf ⟨_, rfl, rfl⟩)))))
theorem rf_md_judgesSet {s : gm_S} {n m : Nat} (hs : gm_sh s n m) (d : Nat)  (g : gm_T)   : jr (eV s) (md_judgesSet g ) (jm_cl jm_CD km_n (d + 6) 284 [.ref 44] (gm_h s g)) := by
  unfold md_judgesSet
  exact (r_ent (cd := cd_284) (n := 4) (L0 := [some (.ref 44), none, none, none]) rfl rfl rfl rfl (
      r_aload (pc2 := 1) rfl rfl rfl (
      r_ic (x := 0) (pc2 := 2) rfl ic_0 rfl (
      r_ic (x := 1) (pc2 := 3) rfl ic_1 rfl (
      r_callVI (pc2 := 6) (args := [.ref 44, gv 0, gv 1]) (st2 := []) rfl rfl rfl rfl rfl rfl (rc_of (sh_T hs rfl rfl)) (rf_md_worthOf hs d g 0 1 ) fun v1 g2 => (
      r_istore (L2 := [some (.ref 44), some (gv v1), none, none]) (pc2 := 7) rfl rfl rfl (
      r_iload (pc2 := 8) rfl rfl rfl (
      r_b2 (R1 := (fun (q : Int × gm_T) (c : Option jm_R) => ∃ (j4 : Option Value) (j5 : Option Value), jm_lg j4 = false ∧ jm_lg j5 = false ∧ c = jm_sup cd_284 (jm_cl jm_CD km_n (d + 5)) (55, [some (.ref 44), some (gv q.1), j4, j5], [], gm_h s q.2))) (
      jr_g fun h7 => r_iflt (pc2 := 11) (t := 55) rfl h7 rfl (fun _ =>
      jr_leaf ⟨_, _, rfl, rfl, rfl⟩) (fun _ =>
      r_aload (pc2 := 12) rfl rfl rfl (
      r_getI (pc2 := 15) rfl rfl (sh_T hs rfl rfl) (
      r_ic (x := 3) (pc2 := 16) rfl ic_3 rfl (
      jr_g fun h8 => r_cne (pc2 := 19) (t := 55) rfl h8 (rgk rfl) rfl (fun _ =>
      r_aload (pc2 := 20) rfl rfl rfl (
      r_ic (x := 0) (pc2 := 21) rfl ic_0 rfl (
      r_ic (x := 2) (pc2 := 22) rfl ic_2 rfl (
      r_callVI (pc2 := 25) (args := [.ref 44, gv 0, gv 2]) (st2 := []) rfl rfl rfl rfl rfl rfl (rc_of (sh_T hs rfl rfl)) (rf_md_worthOf hs d g2 0 2 ) fun v9 g10 => (
      r_istore (L2 := [some (.ref 44), some (gv v1), some (gv v9), none]) (pc2 := 26) rfl rfl rfl (
      r_iload (pc2 := 27) rfl rfl rfl (
      r_b2 (R1 := (fun (q : Int × gm_T) (c : Option jm_R) => c = jm_sup cd_284 (jm_cl jm_CD km_n (d + 5)) (40, [some (.ref 44), some (gv v1), some (gv v9), none], [gv q.1], gm_h s q.2))) (
      jr_g fun h13 => r_ifge (pc2 := 30) (t := 34) rfl h13 rfl (fun _ =>
      r_ic (x := -1) (pc2 := 31) rfl ic_m1 rfl (
      r_goto (t := 40) rfl (
      jr_leaf rfl))) (fun _ =>
      r_aload (pc2 := 35) rfl rfl rfl (
      r_ic (x := 1) (pc2 := 36) rfl ic_1 rfl (
      r_ic (x := 2) (pc2 := 37) rfl ic_2 rfl (
      r_callVI (pc2 := 40) (args := [.ref 44, gv 1, gv 2]) (st2 := []) rfl rfl rfl rfl rfl rfl (rc_of (sh_T hs rfl rfl)) (rf_md_worthOf hs d g10 1 2 ) fun v14 g15 => (
      jr_leaf rfl)))))) (fun v11 g12 c h => match c, h with | _, rfl => (
      r_istore (L2 := [some (.ref 44), some (gv v1), some (gv v9), some (gv v11)]) (pc2 := 41) rfl rfl rfl (
      r_iload (pc2 := 42) rfl rfl rfl (
      jr_g fun h16 => r_ifge (pc2 := 45) (t := 49) rfl h16 rfl (fun _ =>
      r_ic (x := -1) (pc2 := 46) rfl ic_m1 rfl (
      r_goto (t := 54) rfl (
      r_istore (L2 := [some (.ref 44), some (gv (-1)), some (gv v9), some (gv v11)]) (pc2 := 55) rfl rfl rfl (
      jr_leaf ⟨_, _, rfl, rfl, rfl⟩)))) (fun _ =>
      r_iload (pc2 := 50) rfl rfl rfl (
      r_iload (pc2 := 51) rfl rfl rfl (
      r_iadd (pc2 := 52) rfl rfl (
      r_iload (pc2 := 53) rfl rfl rfl (
      r_iadd (pc2 := 54) rfl rfl (
      r_istoreL (L3 := fun v17 => [some (.ref 44), some (gv v17), some (gv v9), some (gv v11)]) (pc2 := 55) rfl rfl (fun _ => rfl) fun v17 => (
      jr_leaf ⟨_, _, rfl, rfl, rfl⟩)))))))))))))))))) (fun _ =>
      jr_leaf ⟨_, _, rfl, rfl, rfl⟩)))))) (fun v3 g6 c h => match c, h with | _, ⟨j4, j5, hj4, hj5, rfl⟩ => (
      r_iload (pc2 := 56) rfl rfl rfl (
      jr_g fun h18 => r_iflt (pc2 := 59) (t := 147) rfl h18 rfl (fun _ =>
      r_vret rfl rfl) (fun _ =>
      r_aload (pc2 := 60) rfl rfl rfl (
      r_getI (pc2 := 63) rfl rfl (sh_T hs rfl rfl) (
      r_ic (x := -1) (pc2 := 64) rfl ic_m1 rfl (
      jr_g fun h19 => r_ceq (pc2 := 67) (t := 90) rfl h19 (rgk rfl) rfl (fun _ =>
      r_aload (pc2 := 91) rfl rfl rfl (
      r_iload (pc2 := 92) rfl rfl rfl (
      r_putI (pc2 := 95) rfl rfl (sh_T hs rfl rfl) fun g20 => (
      r_ic (x := 0) (pc2 := 96) rfl ic_0 rfl (
      r_istore (L2 := [some (.ref 44), some (gv v3), some (gv 0), j5]) (pc2 := 97) rfl rfl rfl (
      r_b1 (rl_md_judgesSet_l97 hs d     fz 0 g20 _ _ rfl hj5) (fun g36 c h => match c, h with | _, ⟨j34, hj34, rfl⟩ => (
      r_vret rfl rfl)))))))) (fun _ =>
      r_iload (pc2 := 68) rfl rfl rfl (
      r_aload (pc2 := 69) rfl rfl rfl (
      r_getI (pc2 := 72) rfl rfl (sh_T hs rfl rfl) (
      r_cgt (pc2 := 75) (t := 90) rfl h18 h19 rfl (fun _ =>
      r_iload (pc2 := 76) rfl rfl rfl (
      r_aload (pc2 := 77) rfl rfl rfl (
      r_getI (pc2 := 80) rfl rfl (sh_T hs rfl rfl) (
      r_cne (pc2 := 83) (t := 147) rfl h18 h19 rfl (fun _ =>
      r_aload (pc2 := 84) rfl rfl rfl (
      r_callVP (pc2 := 87) (args := [.ref 44]) (st2 := []) rfl rfl rfl rfl rfl rfl (rc_of (sh_T hs rfl rfl)) (rf_md_isAhead hs (d + 4) g6 ) fun v37 => (
      jr_g fun h38 => r_ifeq (pc2 := 90) (t := 147) rfl h38 rfl (fun _ =>
      r_vret rfl rfl) (fun _ =>
      r_aload (pc2 := 91) rfl rfl rfl (
      r_iload (pc2 := 92) rfl rfl rfl (
      r_putI (pc2 := 95) rfl rfl (sh_T hs rfl rfl) fun g39 => (
      r_ic (x := 0) (pc2 := 96) rfl ic_0 rfl (
      r_istore (L2 := [some (.ref 44), some (gv v3), some (gv 0), j5]) (pc2 := 97) rfl rfl rfl (
      r_b1 (rl_md_judgesSet_l97 hs d     fz 0 g39 _ _ rfl hj5) (fun g49 c h => match c, h with | _, ⟨j47, hj47, rfl⟩ => (
      r_vret rfl rfl))))))))))) (fun _ =>
      r_vret rfl rfl))))) (fun _ =>
      r_aload (pc2 := 91) rfl rfl rfl (
      r_iload (pc2 := 92) rfl rfl rfl (
      r_putI (pc2 := 95) rfl rfl (sh_T hs rfl rfl) fun g50 => (
      r_ic (x := 0) (pc2 := 96) rfl ic_0 rfl (
      r_istore (L2 := [some (.ref 44), some (gv v3), some (gv 0), j5]) (pc2 := 97) rfl rfl rfl (
      r_b1 (rl_md_judgesSet_l97 hs d     fz 0 g50 _ _ rfl hj5) (fun g60 c h => match c, h with | _, ⟨j58, hj58, rfl⟩ => (
      r_vret rfl rfl)))))))))))))))))))))))))))
theorem rl_md_tries_l34 {s : gm_S} {n m : Nat} (hs : gm_sh s n m) (d : Nat) (rec : gm_T → Int → Int → Int → Int → Option gm_T) (hrec : ∀ (g : gm_T) (a1 a2 a3 a4 : Int), jr (eV s) (rec g a1 a2 a3 a4) (jm_cl jm_CD km_n (d + 6) 285 [.ref 44, gv a1, gv a2, gv a3, gv a4] (gm_h s g))) (c19 : Int) (c20 : Int) (c21 : Int) (c22 : Int) (c23 : Int) (c24 : Int) (c25 : Int)  : ∀ (fuel : Nat) (v26 : Int) (g27 : gm_T), jr (fun (q : gm_T) (c : Option jm_R) => ∃ (j28 : Option Value), jm_lg j28 = false ∧ c = jm_sup cd_285 (jm_cl jm_CD km_n (d + 6)) (186, [some (.ref 44), some (gv c19), some (gv c20), some (gv c21), some (gv c22), some (gv c23), some (gv c24), some (gv c25), j28], [], gm_h s q)) (md_tries_l34 rec  c19 c20 c21 c22 c23 c24 c25 fuel v26 g27) (jm_sup cd_285 (jm_cl jm_CD km_n (d + 6)) (34, [some (.ref 44), some (gv c19), some (gv c20), some (gv c21), some (gv c22), some (gv c23), some (gv c24), some (gv c25), some (gv v26)], [], gm_h s g27)) := by
  intro fuel
  induction fuel with
  | zero => intros; exact jr_none
  | succ fuel ih =>
    intro v26 g27  
    unfold md_tries_l34
    exact (
      r_iload (pc2 := 36) rfl rfl rfl (
      r_aload (pc2 := 37) rfl rfl rfl (
      r_getA (pc2 := 40) rfl rfl (sh_T hs rfl rfl) (sh_A hs rfl rfl) (
      r_iload (pc2 := 42) rfl rfl rfl (
      jr_g fun h30 => r_iald (len := 30) (pc2 := 43) rfl rfl (sh_T hs rfl rfl) (sh_L hs rfl rfl) rfl h30 (
      jr_g fun h31 => r_cge (pc2 := 46) (t := 186) rfl h31.1 h31.2 rfl (fun _ =>
      r_aload (pc2 := 47) rfl rfl rfl (
      r_iload (pc2 := 49) rfl rfl rfl (
      r_iload (pc2 := 51) rfl rfl rfl (
      r_iload (pc2 := 53) rfl rfl rfl (
      r_iload (pc2 := 55) rfl rfl rfl (
      r_callVP (pc2 := 58) (args := [.ref 44, gv c23, gv c25, gv c24, gv v26]) (st2 := []) rfl rfl rfl rfl rfl rfl (rc_of (sh_T hs rfl rfl)) (rf_md_isFit hs (d + 4) g27 c23 c25 c24 v26 ) fun v32 => (
      jr_g fun h33 => r_ifeq (pc2 := 61) (t := 180) rfl h33 rfl (fun _ =>
      r_iinc (kk := 1) (L2 := [some (.ref 44), some (gv c19), some (gv c20), some (gv c21), some (gv c22), some (gv c23), some (gv c24), some (gv c25), some (gv (v26 + 1))]) (pc2 := 183) rfl ic_1 rfl rfl rfl (
      r_goto (t := 34) rfl (
      ih (v26 + 1) g27))) (fun _ =>
      r_aload (pc2 := 62) rfl rfl rfl (
      r_aload (pc2 := 63) rfl rfl rfl (
      r_getA (pc2 := 66) rfl rfl (sh_T hs rfl rfl) (sh_A hs rfl rfl) (
      r_iload (pc2 := 67) rfl rfl rfl (
      jr_g fun h35 => r_iald (len := 3) (pc2 := 68) rfl rfl (sh_T hs rfl rfl) (sh_L hs rfl rfl) rfl h35 (
      r_aload (pc2 := 69) rfl rfl rfl (
      r_getA (pc2 := 72) rfl rfl (sh_T hs rfl rfl) (sh_A hs rfl rfl) (
      r_iload (pc2 := 73) rfl rfl rfl (
      r_iald (len := 3) (pc2 := 74) rfl rfl (sh_T hs rfl rfl) (sh_L hs rfl rfl) rfl h35 (
      r_aload (pc2 := 75) rfl rfl rfl (
      r_getA (pc2 := 78) rfl rfl (sh_T hs rfl rfl) (sh_A hs rfl rfl) (
      r_iload (pc2 := 79) rfl rfl rfl (
      r_iald (len := 3) (pc2 := 80) rfl rfl (sh_T hs rfl rfl) (sh_L hs rfl rfl) rfl h35 (
      r_callVV (pc2 := 83) (args := [.ref 44, gv (gm_I g27 91 c19.toNat), gv (gm_I g27 92 c19.toNat), gv (gm_I g27 93 c19.toNat)]) (st2 := []) rfl rfl rfl rfl rfl rfl (rc_of (sh_T hs rfl rfl)) (rf_md_holds hs (d + 5) g27 (gm_I g27 91 c19.toNat) (gm_I g27 92 c19.toNat) (gm_I g27 93 c19.toNat) ) fun g36 => (
      r_aload (pc2 := 84) rfl rfl rfl (
      r_aload (pc2 := 85) rfl rfl rfl (
      r_getA (pc2 := 88) rfl rfl (sh_T hs rfl rfl) (sh_A hs rfl rfl) (
      r_aload (pc2 := 89) rfl rfl rfl (
      r_iload (pc2 := 91) rfl rfl rfl (
      r_iload (pc2 := 93) rfl rfl rfl (
      r_iload (pc2 := 95) rfl rfl rfl (
      r_iload (pc2 := 97) rfl rfl rfl (
      r_callVP (pc2 := 100) (args := [.ref 44, gv c23, gv c25, gv c24, gv v26]) (st2 := [.ref 63, .ref 44]) rfl rfl rfl rfl rfl rfl (rc_of (sh_T hs rfl rfl)) (rf_md_entry hs (d + 5) g36 c23 c25 c24 v26 ) fun v37 => (
      jr_g fun h38 => r_iald (len := 57600) (pc2 := 101) rfl rfl (sh_T hs rfl rfl) (sh_L hs rfl rfl) rfl h38 (
      r_aload (pc2 := 102) rfl rfl rfl (
      r_iload (pc2 := 104) rfl rfl rfl (
      r_iload (pc2 := 106) rfl rfl rfl (
      r_iload (pc2 := 108) rfl rfl rfl (
      r_iload (pc2 := 110) rfl rfl rfl (
      r_callVP (pc2 := 113) (args := [.ref 44, gv c23, gv c25, gv c24, gv v26]) (st2 := [gv (gm_I g36 63 v37.toNat), .ref 44]) rfl rfl rfl rfl rfl rfl (rc_of (sh_T hs rfl rfl)) (rf_md_fitX hs (d + 4) g36 c23 c25 c24 v26 ) fun v39 => (
      r_aload (pc2 := 114) rfl rfl rfl (
      r_iload (pc2 := 116) rfl rfl rfl (
      r_iload (pc2 := 118) rfl rfl rfl (
      r_iload (pc2 := 120) rfl rfl rfl (
      r_iload (pc2 := 122) rfl rfl rfl (
      r_callVP (pc2 := 125) (args := [.ref 44, gv c23, gv c25, gv c24, gv v26]) (st2 := [gv v39, gv (gm_I g36 63 v37.toNat), .ref 44]) rfl rfl rfl rfl rfl rfl (rc_of (sh_T hs rfl rfl)) (rf_md_fitY hs (d + 4) g36 c23 c25 c24 v26 ) fun v40 => (
      r_callVV (pc2 := 128) (args := [.ref 44, gv (gm_I g36 63 v37.toNat), gv v39, gv v40]) (st2 := []) rfl rfl rfl rfl rfl rfl (rc_of (sh_T hs rfl rfl)) (rf_md_then hs (d + 4) g36 (gm_I g36 63 v37.toNat) v39 v40 ) fun g41 => (
      r_aload (pc2 := 129) rfl rfl rfl (
      r_getA (pc2 := 132) rfl rfl (sh_T hs rfl rfl) (sh_A hs rfl rfl) (
      r_iload (pc2 := 133) rfl rfl rfl (
      r_aload (pc2 := 134) rfl rfl rfl (
      r_getI (pc2 := 137) rfl rfl (sh_T hs rfl rfl) (
      jr_g fun h43 => r_iast (len := 3) (pc2 := 138) rfl rfl (sh_T hs rfl rfl) (sh_L hs rfl rfl) rfl h43 fun g42 => (
      r_aload (pc2 := 139) rfl rfl rfl (
      r_getA (pc2 := 142) rfl rfl (sh_T hs rfl rfl) (sh_A hs rfl rfl) (
      r_iload (pc2 := 143) rfl rfl rfl (
      r_aload (pc2 := 144) rfl rfl rfl (
      r_getI (pc2 := 147) rfl rfl (sh_T hs rfl rfl) (
      r_iast (len := 3) (pc2 := 148) rfl rfl (sh_T hs rfl rfl) (sh_L hs rfl rfl) rfl h43 fun g44 => (
      r_aload (pc2 := 149) rfl rfl rfl (
      r_getA (pc2 := 152) rfl rfl (sh_T hs rfl rfl) (sh_A hs rfl rfl) (
      r_iload (pc2 := 153) rfl rfl rfl (
      r_aload (pc2 := 154) rfl rfl rfl (
      r_getI (pc2 := 157) rfl rfl (sh_T hs rfl rfl) (
      r_iast (len := 3) (pc2 := 158) rfl rfl (sh_T hs rfl rfl) (sh_L hs rfl rfl) rfl h43 fun g45 => (
      r_iload (pc2 := 160) rfl rfl rfl (
      r_ic (x := -1) (pc2 := 161) rfl ic_m1 rfl (
      jr_g fun h46 => r_cne (pc2 := 164) (t := 171) rfl h46 (rgk rfl) rfl (fun _ =>
      r_aload (pc2 := 165) rfl rfl rfl (
      r_callVV (pc2 := 168) (args := [.ref 44]) (st2 := []) rfl rfl rfl rfl rfl rfl (rc_of (sh_T hs rfl rfl)) (rf_md_judgesSet hs d g45 ) fun g47 => (
      r_goto (t := 180) rfl (
      r_iinc (kk := 1) (L2 := [some (.ref 44), some (gv c19), some (gv c20), some (gv c21), some (gv c22), some (gv c23), some (gv c24), some (gv c25), some (gv (v26 + 1))]) (pc2 := 183) rfl ic_1 rfl rfl rfl (
      r_goto (t := 34) rfl (
      ih (v26 + 1) g47)))))) (fun _ =>
      r_aload (pc2 := 172) rfl rfl rfl (
      r_iload (pc2 := 173) rfl rfl rfl (
      r_iload (pc2 := 175) rfl rfl rfl (
      r_ic (x := -1) (pc2 := 176) rfl ic_m1 rfl (
      r_ic (x := -1) (pc2 := 177) rfl ic_m1 rfl (
      r_callVV (pc2 := 180) (args := [.ref 44, gv c21, gv c22, gv (-1), gv (-1)]) (st2 := []) rfl rfl rfl rfl rfl rfl (rc_of (sh_T hs rfl rfl)) (hrec g45 c21 c22 (-1) (-1)) fun g49 => (
      r_iinc (kk := 1) (L2 := [some (.ref 44), some (gv c19), some (gv c20), some (gv c21), some (gv c22), some (gv c23), some (gv c24), some (gv c25), some (gv (v26 + 1))]) (pc2 := 183) rfl ic_1 rfl rfl rfl (
      r_goto (t := 34) rfl (
      ih (v26 + 1) g49)))))))))))))))))))))))))))))))))))))))))))))))))))))))))))))))))))))))))) (fun _ =>
      jr_leaf ⟨_, rfl, rfl⟩)))))))
theorem rl_md_tries_l19 {s : gm_S} {n m : Nat} (hs : gm_sh s n m) (d : Nat) (rec : gm_T → Int → Int → Int → Int → Option gm_T) (hrec : ∀ (g : gm_T) (a1 a2 a3 a4 : Int), jr (eV s) (rec g a1 a2 a3 a4) (jm_cl jm_CD km_n (d + 6) 285 [.ref 44, gv a1, gv a2, gv a3, gv a4] (gm_h s g))) (c5 : Int) (c6 : Int) (c7 : Int) (c8 : Int) (c9 : Int) (c10 : Int)  : ∀ (fuel : Nat) (v11 : Int) (g13 : gm_T) (j12 : Option Value) (hj12 : jm_lg j12 = false), jr (fun (q : gm_T) (c : Option jm_R) => ∃ (j14 : Option Value) (j15 : Option Value), jm_lg j14 = false ∧ jm_lg j15 = false ∧ c = jm_sup cd_285 (jm_cl jm_CD km_n (d + 6)) (192, [some (.ref 44), some (gv c5), some (gv c6), some (gv c7), some (gv c8), some (gv c9), some (gv c10), j14, j15], [], gm_h s q)) (md_tries_l19 rec  c5 c6 c7 c8 c9 c10 fuel v11 g13) (jm_sup cd_285 (jm_cl jm_CD km_n (d + 6)) (19, [some (.ref 44), some (gv c5), some (gv c6), some (gv c7), some (gv c8), some (gv c9), some (gv c10), some (gv v11), j12], [], gm_h s g13)) := by
  intro fuel
  induction fuel with
  | zero => intros; exact jr_none
  | succ fuel ih =>
    intro v11 g13 j12 hj12
    unfold md_tries_l19
    exact (
      r_iload (pc2 := 21) rfl rfl rfl (
      r_aload (pc2 := 22) rfl rfl rfl (
      r_getA (pc2 := 25) rfl rfl (sh_T hs rfl rfl) (sh_A hs rfl rfl) (
      r_iload (pc2 := 27) rfl rfl rfl (
      jr_g fun h17 => r_iald (len := 30) (pc2 := 28) rfl rfl (sh_T hs rfl rfl) (sh_L hs rfl rfl) rfl h17 (
      jr_g fun h18 => r_cge (pc2 := 31) (t := 192) rfl h18.1 h18.2 rfl (fun _ =>
      r_ic (x := 0) (pc2 := 32) rfl ic_0 rfl (
      r_istore (L2 := [some (.ref 44), some (gv c5), some (gv c6), some (gv c7), some (gv c8), some (gv c9), some (gv c10), some (gv v11), some (gv 0)]) (pc2 := 34) rfl rfl rfl (
      r_b1 (rl_md_tries_l34 hs d rec hrec  c5 c6 c7 c8 c9 c10 v11  fz 0 g13  ) (fun g52 c h => match c, h with | _, ⟨j51, hj51, rfl⟩ => (
      r_iinc (kk := 1) (L2 := [some (.ref 44), some (gv c5), some (gv c6), some (gv c7), some (gv c8), some (gv c9), some (gv c10), some (gv (v11 + 1)), j51]) (pc2 := 189) rfl ic_1 rfl rfl rfl (
      r_goto (t := 19) rfl (
      ih (v11 + 1) g52 _ hj51))))))) (fun _ =>
      jr_leaf ⟨_, _, rfl, hj12, rfl⟩)))))))
theorem rf_md_tries_b {s : gm_S} {n m : Nat} (hs : gm_sh s n m) (d : Nat) (rec : gm_T → Int → Int → Int → Int → Option gm_T) (hrec : ∀ (g : gm_T) (a1 a2 a3 a4 : Int), jr (eV s) (rec g a1 a2 a3 a4) (jm_cl jm_CD km_n (d + 6) 285 [.ref 44, gv a1, gv a2, gv a3, gv a4] (gm_h s g))) (g : gm_T) (a1 : Int) (a2 : Int) (a3 : Int) (a4 : Int)  : jr (eV s) (md_tries_b rec g a1 a2 a3 a4) (jm_cl jm_CD km_n (d + 7) 285 [.ref 44, gv a1, gv a2, gv a3, gv a4] (gm_h s g)) := by
  unfold md_tries_b
  exact (r_ent (cd := cd_285) (n := 9) (L0 := [some (.ref 44), some (gv a1), some (gv a2), some (gv a3), some (gv a4), none, none, none, none]) rfl rfl rfl rfl (
      r_aload (pc2 := 1) rfl rfl rfl (
      r_getA (pc2 := 4) rfl rfl (sh_T hs rfl rfl) (sh_A hs rfl rfl) (
      r_iload (pc2 := 5) rfl rfl rfl (
      jr_g fun h1 => r_iald (len := 3) (pc2 := 6) rfl rfl (sh_T hs rfl rfl) (sh_L hs rfl rfl) rfl h1 (
      r_istoreL (L3 := fun v2 => [some (.ref 44), some (gv a1), some (gv a2), some (gv a3), some (gv a4), some (gv v2), none, none, none]) (pc2 := 8) rfl rfl (fun _ => rfl) fun v2 => (
      r_aload (pc2 := 9) rfl rfl rfl (
      r_getA (pc2 := 12) rfl rfl (sh_T hs rfl rfl) (sh_A hs rfl rfl) (
      r_iload (pc2 := 13) rfl rfl rfl (
      jr_g fun h3 => r_iald (len := 3) (pc2 := 14) rfl rfl (sh_T hs rfl rfl) (sh_L hs rfl rfl) rfl h3 (
      r_istoreL (L3 := fun v4 => [some (.ref 44), some (gv a1), some (gv a2), some (gv a3), some (gv a4), some (gv v2), some (gv v4), none, none]) (pc2 := 16) rfl rfl (fun _ => rfl) fun v4 => (
      r_ic (x := 0) (pc2 := 17) rfl ic_0 rfl (
      r_istore (L2 := [some (.ref 44), some (gv a1), some (gv a2), some (gv a3), some (gv a4), some (gv v2), some (gv v4), some (gv 0), none]) (pc2 := 19) rfl rfl rfl (
      r_b1 (rl_md_tries_l19 hs d rec hrec  a1 a2 a3 a4 v2 v4  fz 0 g _ rfl) (fun g56 c h => match c, h with | _, ⟨j54, j55, hj54, hj55, rfl⟩ => (
      r_vret rfl rfl))))))))))))))))
theorem rf_md_tries {s : gm_S} {n m : Nat} (hs : gm_sh s n m) : ∀ (f d : Nat) (g : gm_T) (a1 a2 a3 a4 : Int), jr (eV s) (md_tries f g a1 a2 a3 a4) (jm_cl jm_CD km_n (d + f + 6) 285 [.ref 44, gv a1, gv a2, gv a3, gv a4] (gm_h s g)) := by
  intro f
  induction f with
  | zero => intros; exact jr_none
  | succ f ih =>
    intro d g a1 a2 a3 a4
    have h1 : d + (f + 1) + 6 = d + f + 7 := by omega
    rw [h1]
    exact rf_md_tries_b hs (d + f) (md_tries f) (ih d) g a1 a2 a3 a4
theorem rl_md_arrange_l26 {s : gm_S} {n m : Nat} (hs : gm_sh s n m) (d : Nat)  (c3 : Int)  : ∀ (fuel : Nat) (v4 : Int) (v5 : Int) (g6 : gm_T), jr (fun (q : Int × gm_T) (c : Option jm_R) => ∃ (j8 : Option Value), jm_lg j8 = false ∧ c = jm_sup cd_286 (jm_cl jm_CD km_n (d + 8)) (64, [some (.ref 44), some (gv c3), some (gv q.1), j8], [], gm_h s q.2)) (md_arrange_l26  c3 fuel v4 v5 g6) (jm_sup cd_286 (jm_cl jm_CD km_n (d + 8)) (26, [some (.ref 44), some (gv c3), some (gv v4), some (gv v5)], [], gm_h s g6)) := by
  intro fuel
  induction fuel with
  | zero => intros; exact jr_none
  | succ fuel ih =>
    intro v4 v5 g6  
    unfold md_arrange_l26
    exact (
      r_iload (pc2 := 27) rfl rfl rfl (
      r_aload (pc2 := 28) rfl rfl rfl (
      r_getI (pc2 := 31) rfl rfl (sh_T hs rfl rfl) (
      jr_g fun h10 => r_cge (pc2 := 34) (t := 64) rfl h10.1 h10.2 rfl (fun _ =>
      r_iload (pc2 := 35) rfl rfl rfl (
      r_iload (pc2 := 36) rfl rfl rfl (
      r_ishr (pc2 := 37) rfl rfl (
      r_ic (x := 1) (pc2 := 38) rfl ic_1 rfl (
      r_iand (pc2 := 39) rfl rfl (
      r_ic (x := 1) (pc2 := 40) rfl ic_1 rfl (
      r_cne (pc2 := 43) (t := 58) rfl (rg_toInt _) (rgk rfl) rfl (fun _ =>
      r_iload (pc2 := 44) rfl rfl rfl (
      r_ic (x := 3) (pc2 := 45) rfl ic_3 rfl (
      jr_g fun h11 => r_cge (pc2 := 48) (t := 55) rfl h11 (rgk rfl) rfl (fun _ =>
      r_aload (pc2 := 49) rfl rfl rfl (
      r_getA (pc2 := 52) rfl rfl (sh_T hs rfl rfl) (sh_A hs rfl rfl) (
      r_iload (pc2 := 53) rfl rfl rfl (
      r_iload (pc2 := 54) rfl rfl rfl (
      jr_g fun h13 => r_iast (len := 3) (pc2 := 55) rfl rfl (sh_T hs rfl rfl) (sh_L hs rfl rfl) rfl h13 fun g12 => (
      r_iinc (kk := 1) (L2 := [some (.ref 44), some (gv c3), some (gv (v4 + 1)), some (gv v5)]) (pc2 := 58) rfl ic_1 rfl rfl rfl (
      r_iinc (kk := 1) (L2 := [some (.ref 44), some (gv c3), some (gv (v4 + 1)), some (gv (v5 + 1))]) (pc2 := 61) rfl ic_1 rfl rfl rfl (
      r_goto (t := 26) rfl (
      ih (v4 + 1) (v5 + 1) g12))))))))) (fun _ =>
      r_iinc (kk := 1) (L2 := [some (.ref 44), some (gv c3), some (gv (v4 + 1)), some (gv v5)]) (pc2 := 58) rfl ic_1 rfl rfl rfl (
      r_iinc (kk := 1) (L2 := [some (.ref 44), some (gv c3), some (gv (v4 + 1)), some (gv (v5 + 1))]) (pc2 := 61) rfl ic_1 rfl rfl rfl (
      r_goto (t := 26) rfl (
      ih (v4 + 1) (v5 + 1) g6))))))) (fun _ =>
      r_iinc (kk := 1) (L2 := [some (.ref 44), some (gv c3), some (gv v4), some (gv (v5 + 1))]) (pc2 := 61) rfl ic_1 rfl rfl rfl (
      r_goto (t := 26) rfl (
      ih v4 (v5 + 1) g6)))))))))) (fun _ =>
      jr_leaf ⟨_, rfl, rfl⟩)))))
theorem rl_md_arrange_l165 {s : gm_S} {n m : Nat} (hs : gm_sh s n m) (d : Nat)  (c38 : Int)  : ∀ (fuel : Nat) (v39 : Int) (g40 : gm_T) (j37 : Option Value) (hj37 : jm_lg j37 = false), jr (fun (q : gm_T) (c : Option jm_R) => ∃ (j41 : Option Value), jm_lg j41 = false ∧ c = jm_sup cd_286 (jm_cl jm_CD km_n (d + 8)) (224, [some (.ref 44), j37, some (gv c38), j41], [], gm_h s q)) (md_arrange_l165  c38 fuel v39 g40) (jm_sup cd_286 (jm_cl jm_CD km_n (d + 8)) (165, [some (.ref 44), j37, some (gv c38), some (gv v39)], [], gm_h s g40)) := by
  intro fuel
  induction fuel with
  | zero => intros; exact jr_none
  | succ fuel ih =>
    intro v39 g40 j37 hj37
    unfold md_arrange_l165
    exact (
      r_iload (pc2 := 166) rfl rfl rfl (
      r_iload (pc2 := 167) rfl rfl rfl (
      jr_g fun h43 => r_cge (pc2 := 170) (t := 224) rfl h43.1 h43.2 rfl (fun _ =>
      r_aload (pc2 := 171) rfl rfl rfl (
      r_getA (pc2 := 174) rfl rfl (sh_T hs rfl rfl) (sh_A hs rfl rfl) (
      r_iload (pc2 := 175) rfl rfl rfl (
      r_aload (pc2 := 176) rfl rfl rfl (
      r_getA (pc2 := 179) rfl rfl (sh_T hs rfl rfl) (sh_A hs rfl rfl) (
      r_iload (pc2 := 180) rfl rfl rfl (
      jr_g fun h44 => r_iald (len := 3) (pc2 := 181) rfl rfl (sh_T hs rfl rfl) (sh_L hs rfl rfl) rfl h44 (
      r_iast (len := 3) (pc2 := 182) rfl rfl (sh_T hs rfl rfl) (sh_L hs rfl rfl) rfl h44 fun g45 => (
      r_aload (pc2 := 183) rfl rfl rfl (
      r_getA (pc2 := 186) rfl rfl (sh_T hs rfl rfl) (sh_A hs rfl rfl) (
      r_iload (pc2 := 187) rfl rfl rfl (
      r_aload (pc2 := 188) rfl rfl rfl (
      r_getA (pc2 := 191) rfl rfl (sh_T hs rfl rfl) (sh_A hs rfl rfl) (
      r_iload (pc2 := 192) rfl rfl rfl (
      r_iald (len := 3) (pc2 := 193) rfl rfl (sh_T hs rfl rfl) (sh_L hs rfl rfl) rfl h44 (
      r_iast (len := 3) (pc2 := 194) rfl rfl (sh_T hs rfl rfl) (sh_L hs rfl rfl) rfl h44 fun g46 => (
      r_aload (pc2 := 195) rfl rfl rfl (
      r_getA (pc2 := 198) rfl rfl (sh_T hs rfl rfl) (sh_A hs rfl rfl) (
      r_iload (pc2 := 199) rfl rfl rfl (
      r_aload (pc2 := 200) rfl rfl rfl (
      r_getA (pc2 := 203) rfl rfl (sh_T hs rfl rfl) (sh_A hs rfl rfl) (
      r_iload (pc2 := 204) rfl rfl rfl (
      r_iald (len := 3) (pc2 := 205) rfl rfl (sh_T hs rfl rfl) (sh_L hs rfl rfl) rfl h44 (
      r_iast (len := 3) (pc2 := 206) rfl rfl (sh_T hs rfl rfl) (sh_L hs rfl rfl) rfl h44 fun g47 => (
      r_aload (pc2 := 207) rfl rfl rfl (
      r_getA (pc2 := 210) rfl rfl (sh_T hs rfl rfl) (sh_A hs rfl rfl) (
      r_iload (pc2 := 211) rfl rfl rfl (
      r_aload (pc2 := 212) rfl rfl rfl (
      r_getA (pc2 := 215) rfl rfl (sh_T hs rfl rfl) (sh_A hs rfl rfl) (
      r_iload (pc2 := 216) rfl rfl rfl (
      r_iald (len := 3) (pc2 := 217) rfl rfl (sh_T hs rfl rfl) (sh_L hs rfl rfl) rfl h44 (
      r_iast (len := 3) (pc2 := 218) rfl rfl (sh_T hs rfl rfl) (sh_L hs rfl rfl) rfl h44 fun g48 => (
      r_iinc (kk := 1) (L2 := [some (.ref 44), j37, some (gv c38), some (gv (v39 + 1))]) (pc2 := 221) rfl ic_1 rfl rfl rfl (
      r_goto (t := 165) rfl (
      ih (v39 + 1) g48 _ hj37))))))))))))))))))))))))))))))))))) (fun _ =>
      jr_leaf ⟨_, rfl, rfl⟩))))
theorem rf_md_arrange {s : gm_S} {n m : Nat} (hs : gm_sh s n m) (d : Nat)  (g : gm_T) (a1 : Int)  : jr (eI s) (md_arrange g a1) (jm_cl jm_CD km_n (d + 9) 286 [.ref 44, gv a1] (gm_h s g)) := by
  unfold md_arrange
  exact (r_ent (cd := cd_286) (n := 4) (L0 := [some (.ref 44), some (gv a1), none, none]) rfl rfl rfl rfl (
      r_iload (pc2 := 1) rfl rfl rfl (
      jr_g fun h1 => r_iflt (pc2 := 4) (t := 14) rfl h1 rfl (fun _ =>
      r_ic (x := -2) (pc2 := 16) rfl ic_m2 rfl (
      r_iret rfl rfl)) (fun _ =>
      r_iload (pc2 := 5) rfl rfl rfl (
      r_ic (x := 1) (pc2 := 6) rfl ic_1 rfl (
      r_aload (pc2 := 7) rfl rfl rfl (
      r_getI (pc2 := 10) rfl rfl (sh_T hs rfl rfl) (
      r_ishl (pc2 := 11) rfl rfl (
      r_clt (pc2 := 14) (t := 17) rfl h1 (rg_toInt _) rfl (fun _ =>
      r_aload (pc2 := 18) rfl rfl rfl (
      r_ic (x := 0) (pc2 := 19) rfl ic_0 rfl (
      r_putI (pc2 := 22) rfl rfl (sh_T hs rfl rfl) fun g2 => (
      r_ic (x := 0) (pc2 := 23) rfl ic_0 rfl (
      r_istore (L2 := [some (.ref 44), some (gv a1), some (gv 0), none]) (pc2 := 24) rfl rfl rfl (
      r_ic (x := 0) (pc2 := 25) rfl ic_0 rfl (
      r_istore (L2 := [some (.ref 44), some (gv a1), some (gv 0), some (gv 0)]) (pc2 := 26) rfl rfl rfl (
      r_b2 (rl_md_arrange_l26 hs d   a1  fz 0 0 g2  ) (fun v19 g21 c h => match c, h with | _, ⟨j20, hj20, rfl⟩ => (
      r_iload (pc2 := 65) rfl rfl rfl (
      r_ic (x := 2) (pc2 := 66) rfl ic_2 rfl (
      r_ic (x := 3) (pc2 := 67) rfl ic_3 rfl (
      r_callSP (pc2 := 70) (args := [gv v19, gv 2, gv 3]) (st2 := []) rfl rfl rfl rfl rfl rfl (rf_md_in hs (d + 7) g21 v19 2 3 ) fun v22 => (
      jr_g fun h23 => r_ifne (pc2 := 73) (t := 76) rfl h23 rfl (fun _ =>
      r_ic (x := -2) (pc2 := 75) rfl ic_m2 rfl (
      r_iret rfl rfl)) (fun _ =>
      r_aload (pc2 := 77) rfl rfl rfl (
      r_iload (pc2 := 78) rfl rfl rfl (
      r_putI (pc2 := 81) rfl rfl (sh_T hs rfl rfl) fun g24 => (
      r_aload (pc2 := 82) rfl rfl rfl (
      r_ic (x := -1) (pc2 := 83) rfl ic_m1 rfl (
      r_putI (pc2 := 86) rfl rfl (sh_T hs rfl rfl) fun g25 => (
      r_aload (pc2 := 87) rfl rfl rfl (
      r_getA (pc2 := 90) rfl rfl (sh_T hs rfl rfl) (sh_A hs rfl rfl) (
      r_ic (x := 0) (pc2 := 91) rfl ic_0 rfl (
      r_ic (x := 0) (pc2 := 92) rfl ic_0 rfl (
      r_iast (i := 0) (len := 3) (pc2 := 93) rfl rfl (sh_T hs rfl rfl) (sh_L hs rfl rfl) rfl ⟨by decide, by decide⟩ fun g26 => (
      r_aload (pc2 := 94) rfl rfl rfl (
      r_getA (pc2 := 97) rfl rfl (sh_T hs rfl rfl) (sh_A hs rfl rfl) (
      r_ic (x := 0) (pc2 := 98) rfl ic_0 rfl (
      r_ic (x := 0) (pc2 := 99) rfl ic_0 rfl (
      r_iast (i := 0) (len := 3) (pc2 := 100) rfl rfl (sh_T hs rfl rfl) (sh_L hs rfl rfl) rfl ⟨by decide, by decide⟩ fun g27 => (
      r_aload (pc2 := 101) rfl rfl rfl (
      r_getA (pc2 := 104) rfl rfl (sh_T hs rfl rfl) (sh_A hs rfl rfl) (
      r_ic (x := 0) (pc2 := 105) rfl ic_0 rfl (
      r_ic (x := 0) (pc2 := 106) rfl ic_0 rfl (
      r_iast (i := 0) (len := 3) (pc2 := 107) rfl rfl (sh_T hs rfl rfl) (sh_L hs rfl rfl) rfl ⟨by decide, by decide⟩ fun g28 => (
      r_iload (pc2 := 108) rfl rfl rfl (
      r_ic (x := 2) (pc2 := 109) rfl ic_2 rfl (
      r_b1 (R1 := (fun (q : gm_T) (c : Option jm_R) => c = jm_sup cd_286 (jm_cl jm_CD km_n (d + 8)) (147, [some (.ref 44), some (gv a1), some (gv v19), j20], [], gm_h s q))) (
      jr_g fun h30 => r_cne (pc2 := 112) (t := 123) rfl h30 (rgk rfl) rfl (fun _ =>
      r_aload (pc2 := 113) rfl rfl rfl (
      r_ic (x := 0) (pc2 := 114) rfl ic_0 rfl (
      r_ic (x := 1) (pc2 := 115) rfl ic_1 rfl (
      r_ic (x := -1) (pc2 := 116) rfl ic_m1 rfl (
      r_ic (x := -1) (pc2 := 117) rfl ic_m1 rfl (
      r_callVV (pc2 := 120) (args := [.ref 44, gv 0, gv 1, gv (-1), gv (-1)]) (st2 := []) rfl rfl rfl rfl rfl rfl (rc_of (sh_T hs rfl rfl)) (rf_md_tries hs 2 d g28 0 1 (-1) (-1)) fun g31 => (
      r_goto (t := 147) rfl (
      jr_leaf rfl)))))))) (fun _ =>
      r_aload (pc2 := 124) rfl rfl rfl (
      r_ic (x := 0) (pc2 := 125) rfl ic_0 rfl (
      r_ic (x := 1) (pc2 := 126) rfl ic_1 rfl (
      r_ic (x := 0) (pc2 := 127) rfl ic_0 rfl (
      r_ic (x := 2) (pc2 := 128) rfl ic_2 rfl (
      r_callVV (pc2 := 131) (args := [.ref 44, gv 0, gv 1, gv 0, gv 2]) (st2 := []) rfl rfl rfl rfl rfl rfl (rc_of (sh_T hs rfl rfl)) (rf_md_tries hs 2 d g28 0 1 0 2) fun g32 => (
      r_aload (pc2 := 132) rfl rfl rfl (
      r_ic (x := 0) (pc2 := 133) rfl ic_0 rfl (
      r_ic (x := 1) (pc2 := 134) rfl ic_1 rfl (
      r_ic (x := 1) (pc2 := 135) rfl ic_1 rfl (
      r_ic (x := 2) (pc2 := 136) rfl ic_2 rfl (
      r_callVV (pc2 := 139) (args := [.ref 44, gv 0, gv 1, gv 1, gv 2]) (st2 := []) rfl rfl rfl rfl rfl rfl (rc_of (sh_T hs rfl rfl)) (rf_md_tries hs 2 d g32 0 1 1 2) fun g33 => (
      r_aload (pc2 := 140) rfl rfl rfl (
      r_ic (x := 0) (pc2 := 141) rfl ic_0 rfl (
      r_ic (x := 2) (pc2 := 142) rfl ic_2 rfl (
      r_ic (x := 2) (pc2 := 143) rfl ic_2 rfl (
      r_ic (x := 1) (pc2 := 144) rfl ic_1 rfl (
      r_callVV (pc2 := 147) (args := [.ref 44, gv 0, gv 2, gv 2, gv 1]) (st2 := []) rfl rfl rfl rfl rfl rfl (rc_of (sh_T hs rfl rfl)) (rf_md_tries hs 2 d g33 0 2 2 1) fun g34 => (
      jr_leaf rfl)))))))))))))))))))) (fun g29 c h => match c, h with | _, rfl => (
      r_aload (pc2 := 148) rfl rfl rfl (
      r_getI (pc2 := 151) rfl rfl (sh_T hs rfl rfl) (
      r_ic (x := -1) (pc2 := 152) rfl ic_m1 rfl (
      jr_g fun h35 => r_cne (pc2 := 155) (t := 158) rfl h35 (rgk rfl) rfl (fun _ =>
      r_ic (x := -5) (pc2 := 157) rfl ic_m5 rfl (
      r_iret rfl rfl)) (fun _ =>
      r_aload (pc2 := 159) rfl rfl rfl (
      r_iload (pc2 := 160) rfl rfl rfl (
      r_putI (pc2 := 163) rfl rfl (sh_T hs rfl rfl) fun g36 => (
      r_ic (x := 0) (pc2 := 164) rfl ic_0 rfl (
      r_istore (L2 := [some (.ref 44), some (gv a1), some (gv v19), some (gv 0)]) (pc2 := 165) rfl rfl rfl (
      r_b1 (rl_md_arrange_l165 hs d   v19  fz 0 g36 _ rfl) (fun g52 c h => match c, h with | _, ⟨j51, hj51, rfl⟩ => (
      r_aload (pc2 := 225) rfl rfl rfl (
      r_getI (pc2 := 228) rfl rfl (sh_T hs rfl rfl) (
      r_iret rfl rfl))))))))))))))))))))))))))))))))))))))))))))))))))))) (fun _ =>
      r_ic (x := -2) (pc2 := 16) rfl ic_m2 rfl (
      r_iret rfl rfl)))))))))))
theorem rl_md_arranged_l2 {s : gm_S} {n m : Nat} (hs : gm_sh s n m) (d : Nat)  (g : gm_T) (c1 : Int) (c2 : Int)  : ∀ (fuel : Nat) (v3 : Int), jr (pI s g) (md_arranged_l2 g c1 c2 fuel v3) (jm_sup cd_287 (jm_cl jm_CD km_n (d + 1)) (2, [some (.ref 44), some (gv c1), some (gv c2), some (gv v3)], [], gm_h s g)) := by
  intro fuel
  induction fuel with
  | zero => intros; exact jr_none
  | succ fuel ih =>
    intro v3  
    unfold md_arranged_l2
    exact (
      r_iload (pc2 := 3) rfl rfl rfl (
      r_aload (pc2 := 4) rfl rfl rfl (
      r_getI (pc2 := 7) rfl rfl (sh_T hs rfl rfl) (
      jr_g fun h4 => r_cge (pc2 := 10) (t := 69) rfl h4.1 h4.2 rfl (fun _ =>
      r_aload (pc2 := 11) rfl rfl rfl (
      r_getA (pc2 := 14) rfl rfl (sh_T hs rfl rfl) (sh_A hs rfl rfl) (
      r_iload (pc2 := 15) rfl rfl rfl (
      jr_g fun h5 => r_iald (len := 3) (pc2 := 16) rfl rfl (sh_T hs rfl rfl) (sh_L hs rfl rfl) rfl h5 (
      r_iload (pc2 := 17) rfl rfl rfl (
      jr_g fun h6 => r_cne (pc2 := 20) (t := 63) rfl h6.1 h6.2 rfl (fun _ =>
      r_iload (pc2 := 21) rfl rfl rfl (
      r_ic (x := 0) (pc2 := 22) rfl ic_0 rfl (
      r_ic (x := 2) (pc2 := 23) rfl ic_2 rfl (
      r_callSP (pc2 := 26) (args := [gv c2, gv 0, gv 2]) (st2 := []) rfl rfl rfl rfl rfl rfl (rf_md_in hs d g c2 0 2 ) fun v7 => (
      jr_g fun h8 => r_ifeq (pc2 := 29) (t := 63) rfl h8 rfl (fun _ =>
      r_iinc (kk := 1) (L2 := [some (.ref 44), some (gv c1), some (gv c2), some (gv (v3 + 1))]) (pc2 := 66) rfl ic_1 rfl rfl rfl (
      r_goto (t := 2) rfl (
      ih (v3 + 1)))) (fun _ =>
      r_iload (pc2 := 30) rfl rfl rfl (
      jr_g fun h10 => r_ifne (pc2 := 33) (t := 42) rfl h10 rfl (fun _ =>
      r_aload (pc2 := 34) rfl rfl rfl (
      r_getA (pc2 := 37) rfl rfl (sh_T hs rfl rfl) (sh_A hs rfl rfl) (
      r_iload (pc2 := 38) rfl rfl rfl (
      r_iald (len := 3) (pc2 := 39) rfl rfl (sh_T hs rfl rfl) (sh_L hs rfl rfl) rfl h5 (
      r_goto (t := 62) rfl (
      r_iret rfl rfl)))))) (fun _ =>
      r_iload (pc2 := 43) rfl rfl rfl (
      r_ic (x := 1) (pc2 := 44) rfl ic_1 rfl (
      r_cne (pc2 := 47) (t := 56) rfl h10 (rgk rfl) rfl (fun _ =>
      r_aload (pc2 := 48) rfl rfl rfl (
      r_getA (pc2 := 51) rfl rfl (sh_T hs rfl rfl) (sh_A hs rfl rfl) (
      r_iload (pc2 := 52) rfl rfl rfl (
      r_iald (len := 3) (pc2 := 53) rfl rfl (sh_T hs rfl rfl) (sh_L hs rfl rfl) rfl h5 (
      r_goto (t := 62) rfl (
      r_iret rfl rfl)))))) (fun _ =>
      r_aload (pc2 := 57) rfl rfl rfl (
      r_getA (pc2 := 60) rfl rfl (sh_T hs rfl rfl) (sh_A hs rfl rfl) (
      r_iload (pc2 := 61) rfl rfl rfl (
      r_iald (len := 3) (pc2 := 62) rfl rfl (sh_T hs rfl rfl) (sh_L hs rfl rfl) rfl h5 (
      r_iret rfl rfl))))))))))))))) (fun _ =>
      r_iinc (kk := 1) (L2 := [some (.ref 44), some (gv c1), some (gv c2), some (gv (v3 + 1))]) (pc2 := 66) rfl ic_1 rfl rfl rfl (
      r_goto (t := 2) rfl (
      ih (v3 + 1)))))))))) (fun _ =>
      r_ic (x := -100000) (pc2 := 72) rfl ic_m100000 rfl (
      r_iret rfl rfl))))))
theorem rf_md_arranged {s : gm_S} {n m : Nat} (hs : gm_sh s n m) (d : Nat)  (g : gm_T) (a1 : Int) (a2 : Int)  : jr (pI s g) (md_arranged g a1 a2) (jm_cl jm_CD km_n (d + 2) 287 [.ref 44, gv a1, gv a2] (gm_h s g)) := by
  unfold md_arranged
  exact (r_ent (cd := cd_287) (n := 4) (L0 := [some (.ref 44), some (gv a1), some (gv a2), none]) rfl rfl rfl rfl (
      r_ic (x := 0) (pc2 := 1) rfl ic_0 rfl (
      r_istore (L2 := [some (.ref 44), some (gv a1), some (gv a2), some (gv 0)]) (pc2 := 2) rfl rfl rfl (
      rl_md_arranged_l2 hs d  g a1 a2  fz 0  ))))
theorem rl_md_boxOf_l6 {s : gm_S} {n m : Nat} (hs : gm_sh s n m) (d : Nat)  (g : gm_T) (c1 : Int) (c2 : Int) (c3 : Int)  : ∀ (fuel : Nat) (v4 : Int) (v5 : Int) (j6 : Option Value) (hj6 : jm_lg j6 = false), jr (fun (q : Int) (c : Option jm_R) => ∃ (j8 : Option Value) (j9 : Option Value), jm_lg j8 = false ∧ jm_lg j9 = false ∧ c = jm_sup cd_298 (jm_cl jm_CD km_n d) (84, [some (.ref 44), some (gv c1), some (gv c2), some (gv c3), some (gv q), j8, j9], [], gm_h s g)) (md_boxOf_l6 g c1 c2 c3 fuel v4 v5) (jm_sup cd_298 (jm_cl jm_CD km_n d) (6, [some (.ref 44), some (gv c1), some (gv c2), some (gv c3), some (gv v4), some (gv v5), j6], [], gm_h s g)) := by
  intro fuel
  induction fuel with
  | zero => intros; exact jr_none
  | succ fuel ih =>
    intro v4 v5 j6 hj6
    unfold md_boxOf_l6
    exact (
      r_iload (pc2 := 8) rfl rfl rfl (
      r_iload (pc2 := 9) rfl rfl rfl (
      jr_g fun h10 => r_cge (pc2 := 12) (t := 84) rfl h10.1 h10.2 rfl (fun _ =>
      r_aload (pc2 := 13) rfl rfl rfl (
      r_getA (pc2 := 16) rfl rfl (sh_T hs rfl rfl) (sh_A hs rfl rfl) (
      r_iload (pc2 := 18) rfl rfl rfl (
      jr_g fun h11 => r_iald (len := 100) (pc2 := 19) rfl rfl (sh_T hs rfl rfl) (sh_L hs rfl rfl) rfl h11 (
      r_iload (pc2 := 20) rfl rfl rfl (
      r_b1 (R1 := (fun (q : Int) (c : Option jm_R) => c = jm_sup cd_298 (jm_cl jm_CD km_n d) (39, [some (.ref 44), some (gv c1), some (gv c2), some (gv c3), some (gv v4), some (gv v5), j6], [gv q], gm_h s g))) (
      jr_g fun h13 => r_cne (pc2 := 23) (t := 38) rfl h13.1 h13.2 rfl (fun _ =>
      r_aload (pc2 := 24) rfl rfl rfl (
      r_getA (pc2 := 27) rfl rfl (sh_T hs rfl rfl) (sh_A hs rfl rfl) (
      r_iload (pc2 := 29) rfl rfl rfl (
      r_iald (len := 100) (pc2 := 30) rfl rfl (sh_T hs rfl rfl) (sh_L hs rfl rfl) rfl h11 (
      r_iload (pc2 := 31) rfl rfl rfl (
      jr_g fun h14 => r_cgt (pc2 := 34) (t := 38) rfl h14.1 h14.2 rfl (fun _ =>
      r_ic (x := 1) (pc2 := 35) rfl ic_1 rfl (
      r_goto (t := 39) rfl (
      jr_leaf rfl))) (fun _ =>
      r_ic (x := 0) (pc2 := 39) rfl ic_0 rfl (
      jr_leaf rfl)))))))) (fun _ =>
      r_ic (x := 0) (pc2 := 39) rfl ic_0 rfl (
      jr_leaf rfl))) (fun v12 c h => match c, h with | _, rfl => (
      r_istore (L2 := [some (.ref 44), some (gv c1), some (gv c2), some (gv c3), some (gv v4), some (gv v5), some (gv v12)]) (pc2 := 41) rfl rfl rfl (
      r_iload (pc2 := 43) rfl rfl rfl (
      jr_g fun h15 => r_ifeq (pc2 := 46) (t := 74) rfl h15 rfl (fun _ =>
      r_iload (pc2 := 76) rfl rfl rfl (
      r_istore (L2 := [some (.ref 44), some (gv c1), some (gv c2), some (gv c3), some (gv v4), some (gv v5), some (gv v12)]) (pc2 := 78) rfl rfl rfl (
      r_iinc (kk := 1) (L2 := [some (.ref 44), some (gv c1), some (gv c2), some (gv c3), some (gv v4), some (gv (v5 + 1)), some (gv v12)]) (pc2 := 81) rfl ic_1 rfl rfl rfl (
      r_goto (t := 6) rfl (
      ih v4 (v5 + 1) _ rfl))))) (fun _ =>
      r_iload (pc2 := 48) rfl rfl rfl (
      r_ic (x := -1) (pc2 := 49) rfl ic_m1 rfl (
      jr_g fun h17 => r_ceq (pc2 := 52) (t := 69) rfl h17 (rgk rfl) rfl (fun _ =>
      r_iload (pc2 := 71) rfl rfl rfl (
      r_goto (t := 76) rfl (
      r_istore (L2 := [some (.ref 44), some (gv c1), some (gv c2), some (gv c3), some (gv v5), some (gv v5), some (gv v12)]) (pc2 := 78) rfl rfl rfl (
      r_iinc (kk := 1) (L2 := [some (.ref 44), some (gv c1), some (gv c2), some (gv c3), some (gv v5), some (gv (v5 + 1)), some (gv v12)]) (pc2 := 81) rfl ic_1 rfl rfl rfl (
      r_goto (t := 6) rfl (
      ih v5 (v5 + 1) _ rfl)))))) (fun _ =>
      r_aload (pc2 := 53) rfl rfl rfl (
      r_getA (pc2 := 56) rfl rfl (sh_T hs rfl rfl) (sh_A hs rfl rfl) (
      r_iload (pc2 := 58) rfl rfl rfl (
      r_iald (len := 100) (pc2 := 59) rfl rfl (sh_T hs rfl rfl) (sh_L hs rfl rfl) rfl h11 (
      r_aload (pc2 := 60) rfl rfl rfl (
      r_getA (pc2 := 63) rfl rfl (sh_T hs rfl rfl) (sh_A hs rfl rfl) (
      r_iload (pc2 := 65) rfl rfl rfl (
      jr_g fun h19 => r_iald (len := 100) (pc2 := 66) rfl rfl (sh_T hs rfl rfl) (sh_L hs rfl rfl) rfl h19 (
      jr_g fun h20 => r_clt (pc2 := 69) (t := 74) rfl h20.1 h20.2 rfl (fun _ =>
      r_iload (pc2 := 76) rfl rfl rfl (
      r_istore (L2 := [some (.ref 44), some (gv c1), some (gv c2), some (gv c3), some (gv v4), some (gv v5), some (gv v12)]) (pc2 := 78) rfl rfl rfl (
      r_iinc (kk := 1) (L2 := [some (.ref 44), some (gv c1), some (gv c2), some (gv c3), some (gv v4), some (gv (v5 + 1)), some (gv v12)]) (pc2 := 81) rfl ic_1 rfl rfl rfl (
      r_goto (t := 6) rfl (
      ih v4 (v5 + 1) _ rfl))))) (fun _ =>
      r_iload (pc2 := 71) rfl rfl rfl (
      r_goto (t := 76) rfl (
      r_istore (L2 := [some (.ref 44), some (gv c1), some (gv c2), some (gv c3), some (gv v5), some (gv v5), some (gv v12)]) (pc2 := 78) rfl rfl rfl (
      r_iinc (kk := 1) (L2 := [some (.ref 44), some (gv c1), some (gv c2), some (gv c3), some (gv v5), some (gv (v5 + 1)), some (gv v12)]) (pc2 := 81) rfl ic_1 rfl rfl rfl (
      r_goto (t := 6) rfl (
      ih v5 (v5 + 1) _ rfl)))))))))))))))))))))))))))) (fun _ =>
      jr_leaf ⟨_, _, rfl, hj6, rfl⟩))))
theorem rf_md_boxOf {s : gm_S} {n m : Nat} (hs : gm_sh s n m) (d : Nat)  (g : gm_T) (a1 : Int) (a2 : Int) (a3 : Int)  : jr (pI s g) (md_boxOf g a1 a2 a3) (jm_cl jm_CD km_n (d + 1) 298 [.ref 44, gv a1, gv a2, gv a3] (gm_h s g)) := by
  unfold md_boxOf
  exact (r_ent (cd := cd_298) (n := 7) (L0 := [some (.ref 44), some (gv a1), some (gv a2), some (gv a3), none, none, none]) rfl rfl rfl rfl (
      r_ic (x := -1) (pc2 := 1) rfl ic_m1 rfl (
      r_istore (L2 := [some (.ref 44), some (gv a1), some (gv a2), some (gv a3), some (gv (-1)), none, none]) (pc2 := 3) rfl rfl rfl (
      r_ic (x := 0) (pc2 := 4) rfl ic_0 rfl (
      r_istore (L2 := [some (.ref 44), some (gv a1), some (gv a2), some (gv a3), some (gv (-1)), some (gv 0), none]) (pc2 := 6) rfl rfl rfl (
      r_b1 (rl_md_boxOf_l6 hs d  g a1 a2 a3  fz (-1) 0 _ rfl) (fun v23 c h => match c, h with | _, ⟨j24, j25, hj24, hj25, rfl⟩ => (
      r_iload (pc2 := 86) rfl rfl rfl (
      r_ic (x := -1) (pc2 := 87) rfl ic_m1 rfl (
      jr_g fun h26 => r_cne (pc2 := 90) (t := 94) rfl h26 (rgk rfl) rfl (fun _ =>
      r_ic (x := -1) (pc2 := 91) rfl ic_m1 rfl (
      r_goto (t := 101) rfl (
      r_iret rfl rfl))) (fun _ =>
      r_aload (pc2 := 95) rfl rfl rfl (
      r_getA (pc2 := 98) rfl rfl (sh_T hs rfl rfl) (sh_A hs rfl rfl) (
      r_iload (pc2 := 100) rfl rfl rfl (
      jr_g fun h27 => r_iald (len := 100) (pc2 := 101) rfl rfl (sh_T hs rfl rfl) (sh_L hs rfl rfl) rfl h27 (
      r_iret rfl rfl)))))))))))))))
theorem rl_md_letter_l166 {s : gm_S} {n m : Nat} (hs : gm_sh s n m) (d : Nat)  (g : gm_T) (c50 : Int)  : ∀ (fuel : Nat) (v51 : Int) (v52 : Int) (j49 : Option Value) (hj49 : jm_lg j49 = false), jr (fun (q : Int) (c : Option jm_R) => ∃ (j54 : Option Value), jm_lg j54 = false ∧ c = jm_sup cd_288 (jm_cl jm_CD km_n (d + 1)) (221, [some (.ref 44), j49, some (gv c50), some (gv q), j54], [], gm_h s g)) (md_letter_l166 g c50 fuel v51 v52) (jm_sup cd_288 (jm_cl jm_CD km_n (d + 1)) (166, [some (.ref 44), j49, some (gv c50), some (gv v51), some (gv v52)], [], gm_h s g)) := by
  intro fuel
  induction fuel with
  | zero => intros; exact jr_none
  | succ fuel ih =>
    intro v51 v52 j49 hj49
    unfold md_letter_l166
    exact (
      r_iload (pc2 := 168) rfl rfl rfl (
      r_aload (pc2 := 169) rfl rfl rfl (
      r_getI (pc2 := 172) rfl rfl (sh_T hs rfl rfl) (
      jr_g fun h55 => r_cge (pc2 := 175) (t := 221) rfl h55.1 h55.2 rfl (fun _ =>
      r_iload (pc2 := 176) rfl rfl rfl (
      r_aload (pc2 := 177) rfl rfl rfl (
      r_getA (pc2 := 180) rfl rfl (sh_T hs rfl rfl) (sh_A hs rfl rfl) (
      r_iload (pc2 := 182) rfl rfl rfl (
      jr_g fun h56 => r_iald (len := 60) (pc2 := 183) rfl rfl (sh_T hs rfl rfl) (sh_L hs rfl rfl) rfl h56 (
      jr_g fun h57 => r_ifeq (pc2 := 186) (t := 212) rfl h57 rfl (fun _ =>
      r_ic (x := 0) (pc2 := 213) rfl ic_0 rfl (
      r_iadd (pc2 := 214) rfl rfl (
      r_istoreL (L3 := fun v58 => [some (.ref 44), j49, some (gv c50), some (gv v58), some (gv v52)]) (pc2 := 215) rfl rfl (fun _ => rfl) fun v58 => (
      r_iinc (kk := 1) (L2 := [some (.ref 44), j49, some (gv c50), some (gv v58), some (gv (v52 + 1))]) (pc2 := 218) rfl ic_1 rfl rfl rfl (
      r_goto (t := 166) rfl (
      ih v58 (v52 + 1) _ hj49)))))) (fun _ =>
      r_aload (pc2 := 187) rfl rfl rfl (
      r_getA (pc2 := 190) rfl rfl (sh_T hs rfl rfl) (sh_A hs rfl rfl) (
      r_iload (pc2 := 192) rfl rfl rfl (
      r_iald (len := 60) (pc2 := 193) rfl rfl (sh_T hs rfl rfl) (sh_L hs rfl rfl) rfl h56 (
      r_iload (pc2 := 194) rfl rfl rfl (
      jr_g fun h60 => r_ceq (pc2 := 197) (t := 208) rfl h60.1 h60.2 rfl (fun _ =>
      r_ic (x := 1) (pc2 := 209) rfl ic_1 rfl (
      r_goto (t := 213) rfl (
      r_iadd (pc2 := 214) rfl rfl (
      r_istoreL (L3 := fun v61 => [some (.ref 44), j49, some (gv c50), some (gv v61), some (gv v52)]) (pc2 := 215) rfl rfl (fun _ => rfl) fun v61 => (
      r_iinc (kk := 1) (L2 := [some (.ref 44), j49, some (gv c50), some (gv v61), some (gv (v52 + 1))]) (pc2 := 218) rfl ic_1 rfl rfl rfl (
      r_goto (t := 166) rfl (
      ih v61 (v52 + 1) _ hj49))))))) (fun _ =>
      r_aload (pc2 := 198) rfl rfl rfl (
      r_getA (pc2 := 201) rfl rfl (sh_T hs rfl rfl) (sh_A hs rfl rfl) (
      r_iload (pc2 := 203) rfl rfl rfl (
      r_iald (len := 60) (pc2 := 204) rfl rfl (sh_T hs rfl rfl) (sh_L hs rfl rfl) rfl h56 (
      r_iload (pc2 := 205) rfl rfl rfl (
      jr_g fun h63 => r_cne (pc2 := 208) (t := 212) rfl h63 h60.2 rfl (fun _ =>
      r_ic (x := 1) (pc2 := 209) rfl ic_1 rfl (
      r_goto (t := 213) rfl (
      r_iadd (pc2 := 214) rfl rfl (
      r_istoreL (L3 := fun v64 => [some (.ref 44), j49, some (gv c50), some (gv v64), some (gv v52)]) (pc2 := 215) rfl rfl (fun _ => rfl) fun v64 => (
      r_iinc (kk := 1) (L2 := [some (.ref 44), j49, some (gv c50), some (gv v64), some (gv (v52 + 1))]) (pc2 := 218) rfl ic_1 rfl rfl rfl (
      r_goto (t := 166) rfl (
      ih v64 (v52 + 1) _ hj49))))))) (fun _ =>
      r_ic (x := 0) (pc2 := 213) rfl ic_0 rfl (
      r_iadd (pc2 := 214) rfl rfl (
      r_istoreL (L3 := fun v66 => [some (.ref 44), j49, some (gv c50), some (gv v66), some (gv v52)]) (pc2 := 215) rfl rfl (fun _ => rfl) fun v66 => (
      r_iinc (kk := 1) (L2 := [some (.ref 44), j49, some (gv c50), some (gv v66), some (gv (v52 + 1))]) (pc2 := 218) rfl ic_1 rfl rfl rfl (
      r_goto (t := 166) rfl (
      ih v66 (v52 + 1) _ hj49)))))))))))))))))))))))) (fun _ =>
      jr_leaf ⟨_, rfl, rfl⟩)))))
theorem rf_md_letter {s : gm_S} {n m : Nat} (hs : gm_sh s n m) (d : Nat)  (g : gm_T) (a1 : Int)  : jr (pI s g) (md_letter g a1) (jm_cl jm_CD km_n (d + 2) 288 [.ref 44, gv a1] (gm_h s g)) := by
  unfold md_letter
  exact (r_ent (cd := cd_288) (n := 5) (L0 := [some (.ref 44), some (gv a1), none, none, none]) rfl rfl rfl rfl (
      r_aload (pc2 := 1) rfl rfl rfl (
      r_getI (pc2 := 4) rfl rfl (sh_T hs rfl rfl) (
      r_istoreL (L3 := fun v1 => [some (.ref 44), some (gv a1), some (gv v1), none, none]) (pc2 := 5) rfl rfl (fun _ => rfl) fun v1 => (
      r_iload (pc2 := 6) rfl rfl rfl (
      jr_g fun h2 => (jr_ite (fun h5 => r_sw (pc2 := 154) rfl (sw_yes ic_99 h5) (
      r_aload (pc2 := 155) rfl rfl rfl (
      r_getA (pc2 := 158) rfl rfl (sh_T hs rfl rfl) (sh_A hs rfl rfl) (
      r_iload (pc2 := 159) rfl rfl rfl (
      jr_g fun h82 => r_iald (len := 30) (pc2 := 160) rfl rfl (sh_T hs rfl rfl) (sh_L hs rfl rfl) rfl h82 (
      r_iret rfl rfl)))))) (fun h5 =>
      jr_ite (fun h6 => r_sw (pc2 := 264) rfl (sw_no ic_99 h2 (rgk rfl) h5 (sw_yes ic_100 h6)) (
      r_aload (pc2 := 265) rfl rfl rfl (
      r_iload (pc2 := 266) rfl rfl rfl (
      r_ic (x := 999) (pc2 := 269) rfl ic_999 rfl (
      r_aload (pc2 := 270) rfl rfl rfl (
      r_getI (pc2 := 273) rfl rfl (sh_T hs rfl rfl) (
      r_callVP (pc2 := 276) (args := [.ref 44, gv v1, gv 999, gv (gm_I g 44 87)]) (st2 := []) rfl rfl rfl rfl rfl rfl (rc_of (sh_T hs rfl rfl)) (rf_md_boxOf hs d g v1 999 (gm_I g 44 87) ) fun v80 => (
      r_istore (L2 := [some (.ref 44), some (gv a1), some (gv v1), none, some (gv v80)]) (pc2 := 278) rfl rfl rfl (
      r_iload (pc2 := 280) rfl rfl rfl (
      r_ic (x := -1) (pc2 := 281) rfl ic_m1 rfl (
      jr_g fun h81 => r_cne (pc2 := 284) (t := 289) rfl h81 (rgk rfl) rfl (fun _ =>
      r_ic (x := 99) (pc2 := 286) rfl ic_99 rfl (
      r_goto (t := 291) rfl (
      r_iret rfl rfl))) (fun _ =>
      r_iload (pc2 := 291) rfl rfl rfl (
      r_iret rfl rfl))))))))))))) (fun h6 =>
      jr_ite (fun h7 => r_sw (pc2 := 140) rfl (sw_no ic_99 h2 (rgk rfl) h5 (sw_no ic_100 h2 (rgk rfl) h6 (sw_yes ic_101 h7))) (
      r_aload (pc2 := 141) rfl rfl rfl (
      r_getA (pc2 := 144) rfl rfl (sh_T hs rfl rfl) (sh_A hs rfl rfl) (
      r_iload (pc2 := 145) rfl rfl rfl (
      jr_g fun h79 => r_iald (len := 30) (pc2 := 146) rfl rfl (sh_T hs rfl rfl) (sh_L hs rfl rfl) rfl h79 (
      r_iret rfl rfl)))))) (fun h7 =>
      jr_ite (fun h8 => r_sw (pc2 := 264) rfl (sw_no ic_99 h2 (rgk rfl) h5 (sw_no ic_100 h2 (rgk rfl) h6 (sw_no ic_101 h2 (rgk rfl) h7 (sw_yes ic_102 h8)))) (
      r_aload (pc2 := 265) rfl rfl rfl (
      r_iload (pc2 := 266) rfl rfl rfl (
      r_ic (x := 999) (pc2 := 269) rfl ic_999 rfl (
      r_aload (pc2 := 270) rfl rfl rfl (
      r_getI (pc2 := 273) rfl rfl (sh_T hs rfl rfl) (
      r_callVP (pc2 := 276) (args := [.ref 44, gv v1, gv 999, gv (gm_I g 44 87)]) (st2 := []) rfl rfl rfl rfl rfl rfl (rc_of (sh_T hs rfl rfl)) (rf_md_boxOf hs d g v1 999 (gm_I g 44 87) ) fun v77 => (
      r_istore (L2 := [some (.ref 44), some (gv a1), some (gv v1), none, some (gv v77)]) (pc2 := 278) rfl rfl rfl (
      r_iload (pc2 := 280) rfl rfl rfl (
      r_ic (x := -1) (pc2 := 281) rfl ic_m1 rfl (
      jr_g fun h78 => r_cne (pc2 := 284) (t := 289) rfl h78 (rgk rfl) rfl (fun _ =>
      r_ic (x := 99) (pc2 := 286) rfl ic_99 rfl (
      r_goto (t := 291) rfl (
      r_iret rfl rfl))) (fun _ =>
      r_iload (pc2 := 291) rfl rfl rfl (
      r_iret rfl rfl))))))))))))) (fun h8 =>
      jr_ite (fun h9 => r_sw (pc2 := 223) rfl (sw_no ic_99 h2 (rgk rfl) h5 (sw_no ic_100 h2 (rgk rfl) h6 (sw_no ic_101 h2 (rgk rfl) h7 (sw_no ic_102 h2 (rgk rfl) h8 (sw_yes ic_103 h9))))) (
      r_aload (pc2 := 224) rfl rfl rfl (
      r_aload (pc2 := 225) rfl rfl rfl (
      r_getA (pc2 := 228) rfl rfl (sh_T hs rfl rfl) (sh_A hs rfl rfl) (
      r_iload (pc2 := 229) rfl rfl rfl (
      jr_g fun h75 => r_iald (len := 30) (pc2 := 230) rfl rfl (sh_T hs rfl rfl) (sh_L hs rfl rfl) rfl h75 (
      r_callVP (pc2 := 233) (args := [.ref 44, gv (gm_I g 78 v1.toNat)]) (st2 := []) rfl rfl rfl rfl rfl rfl (rc_of (sh_T hs rfl rfl)) (rf_md_sizeOf hs d g (gm_I g 78 v1.toNat) ) fun v76 => (
      r_iret rfl rfl)))))))) (fun h9 =>
      jr_ite (fun h10 => r_sw (pc2 := 264) rfl (sw_no ic_99 h2 (rgk rfl) h5 (sw_no ic_100 h2 (rgk rfl) h6 (sw_no ic_101 h2 (rgk rfl) h7 (sw_no ic_102 h2 (rgk rfl) h8 (sw_no ic_103 h2 (rgk rfl) h9 (sw_yes ic_104 h10)))))) (
      r_aload (pc2 := 265) rfl rfl rfl (
      r_iload (pc2 := 266) rfl rfl rfl (
      r_ic (x := 999) (pc2 := 269) rfl ic_999 rfl (
      r_aload (pc2 := 270) rfl rfl rfl (
      r_getI (pc2 := 273) rfl rfl (sh_T hs rfl rfl) (
      r_callVP (pc2 := 276) (args := [.ref 44, gv v1, gv 999, gv (gm_I g 44 87)]) (st2 := []) rfl rfl rfl rfl rfl rfl (rc_of (sh_T hs rfl rfl)) (rf_md_boxOf hs d g v1 999 (gm_I g 44 87) ) fun v73 => (
      r_istore (L2 := [some (.ref 44), some (gv a1), some (gv v1), none, some (gv v73)]) (pc2 := 278) rfl rfl rfl (
      r_iload (pc2 := 280) rfl rfl rfl (
      r_ic (x := -1) (pc2 := 281) rfl ic_m1 rfl (
      jr_g fun h74 => r_cne (pc2 := 284) (t := 289) rfl h74 (rgk rfl) rfl (fun _ =>
      r_ic (x := 99) (pc2 := 286) rfl ic_99 rfl (
      r_goto (t := 291) rfl (
      r_iret rfl rfl))) (fun _ =>
      r_iload (pc2 := 291) rfl rfl rfl (
      r_iret rfl rfl))))))))))))) (fun h10 =>
      jr_ite (fun h11 => r_sw (pc2 := 264) rfl (sw_no ic_99 h2 (rgk rfl) h5 (sw_no ic_100 h2 (rgk rfl) h6 (sw_no ic_101 h2 (rgk rfl) h7 (sw_no ic_102 h2 (rgk rfl) h8 (sw_no ic_103 h2 (rgk rfl) h9 (sw_no ic_104 h2 (rgk rfl) h10 (sw_yes ic_105 h11))))))) (
      r_aload (pc2 := 265) rfl rfl rfl (
      r_iload (pc2 := 266) rfl rfl rfl (
      r_ic (x := 999) (pc2 := 269) rfl ic_999 rfl (
      r_aload (pc2 := 270) rfl rfl rfl (
      r_getI (pc2 := 273) rfl rfl (sh_T hs rfl rfl) (
      r_callVP (pc2 := 276) (args := [.ref 44, gv v1, gv 999, gv (gm_I g 44 87)]) (st2 := []) rfl rfl rfl rfl rfl rfl (rc_of (sh_T hs rfl rfl)) (rf_md_boxOf hs d g v1 999 (gm_I g 44 87) ) fun v71 => (
      r_istore (L2 := [some (.ref 44), some (gv a1), some (gv v1), none, some (gv v71)]) (pc2 := 278) rfl rfl rfl (
      r_iload (pc2 := 280) rfl rfl rfl (
      r_ic (x := -1) (pc2 := 281) rfl ic_m1 rfl (
      jr_g fun h72 => r_cne (pc2 := 284) (t := 289) rfl h72 (rgk rfl) rfl (fun _ =>
      r_ic (x := 99) (pc2 := 286) rfl ic_99 rfl (
      r_goto (t := 291) rfl (
      r_iret rfl rfl))) (fun _ =>
      r_iload (pc2 := 291) rfl rfl rfl (
      r_iret rfl rfl))))))))))))) (fun h11 =>
      jr_ite (fun h12 => r_sw (pc2 := 161) rfl (sw_no ic_99 h2 (rgk rfl) h5 (sw_no ic_100 h2 (rgk rfl) h6 (sw_no ic_101 h2 (rgk rfl) h7 (sw_no ic_102 h2 (rgk rfl) h8 (sw_no ic_103 h2 (rgk rfl) h9 (sw_no ic_104 h2 (rgk rfl) h10 (sw_no ic_105 h2 (rgk rfl) h11 (sw_yes ic_106 h12)))))))) (
      r_ic (x := 0) (pc2 := 162) rfl ic_0 rfl (
      r_istore (L2 := [some (.ref 44), some (gv a1), some (gv v1), some (gv 0), none]) (pc2 := 163) rfl rfl rfl (
      r_ic (x := 0) (pc2 := 164) rfl ic_0 rfl (
      r_istore (L2 := [some (.ref 44), some (gv a1), some (gv v1), some (gv 0), some (gv 0)]) (pc2 := 166) rfl rfl rfl (
      r_b1 (rl_md_letter_l166 hs d  g v1  fz 0 0 _ rfl) (fun v69 c h => match c, h with | _, ⟨j70, hj70, rfl⟩ => (
      r_iload (pc2 := 222) rfl rfl rfl (
      r_iret rfl rfl))))))))) (fun h12 =>
      jr_ite (fun h13 => r_sw (pc2 := 264) rfl (sw_no ic_99 h2 (rgk rfl) h5 (sw_no ic_100 h2 (rgk rfl) h6 (sw_no ic_101 h2 (rgk rfl) h7 (sw_no ic_102 h2 (rgk rfl) h8 (sw_no ic_103 h2 (rgk rfl) h9 (sw_no ic_104 h2 (rgk rfl) h10 (sw_no ic_105 h2 (rgk rfl) h11 (sw_no ic_106 h2 (rgk rfl) h12 (sw_yes ic_107 h13))))))))) (
      r_aload (pc2 := 265) rfl rfl rfl (
      r_iload (pc2 := 266) rfl rfl rfl (
      r_ic (x := 999) (pc2 := 269) rfl ic_999 rfl (
      r_aload (pc2 := 270) rfl rfl rfl (
      r_getI (pc2 := 273) rfl rfl (sh_T hs rfl rfl) (
      r_callVP (pc2 := 276) (args := [.ref 44, gv v1, gv 999, gv (gm_I g 44 87)]) (st2 := []) rfl rfl rfl rfl rfl rfl (rc_of (sh_T hs rfl rfl)) (rf_md_boxOf hs d g v1 999 (gm_I g 44 87) ) fun v47 => (
      r_istore (L2 := [some (.ref 44), some (gv a1), some (gv v1), none, some (gv v47)]) (pc2 := 278) rfl rfl rfl (
      r_iload (pc2 := 280) rfl rfl rfl (
      r_ic (x := -1) (pc2 := 281) rfl ic_m1 rfl (
      jr_g fun h48 => r_cne (pc2 := 284) (t := 289) rfl h48 (rgk rfl) rfl (fun _ =>
      r_ic (x := 99) (pc2 := 286) rfl ic_99 rfl (
      r_goto (t := 291) rfl (
      r_iret rfl rfl))) (fun _ =>
      r_iload (pc2 := 291) rfl rfl rfl (
      r_iret rfl rfl))))))))))))) (fun h13 =>
      jr_ite (fun h14 => r_sw (pc2 := 264) rfl (sw_no ic_99 h2 (rgk rfl) h5 (sw_no ic_100 h2 (rgk rfl) h6 (sw_no ic_101 h2 (rgk rfl) h7 (sw_no ic_102 h2 (rgk rfl) h8 (sw_no ic_103 h2 (rgk rfl) h9 (sw_no ic_104 h2 (rgk rfl) h10 (sw_no ic_105 h2 (rgk rfl) h11 (sw_no ic_106 h2 (rgk rfl) h12 (sw_no ic_107 h2 (rgk rfl) h13 (sw_yes ic_108 h14)))))))))) (
      r_aload (pc2 := 265) rfl rfl rfl (
      r_iload (pc2 := 266) rfl rfl rfl (
      r_ic (x := 999) (pc2 := 269) rfl ic_999 rfl (
      r_aload (pc2 := 270) rfl rfl rfl (
      r_getI (pc2 := 273) rfl rfl (sh_T hs rfl rfl) (
      r_callVP (pc2 := 276) (args := [.ref 44, gv v1, gv 999, gv (gm_I g 44 87)]) (st2 := []) rfl rfl rfl rfl rfl rfl (rc_of (sh_T hs rfl rfl)) (rf_md_boxOf hs d g v1 999 (gm_I g 44 87) ) fun v45 => (
      r_istore (L2 := [some (.ref 44), some (gv a1), some (gv v1), none, some (gv v45)]) (pc2 := 278) rfl rfl rfl (
      r_iload (pc2 := 280) rfl rfl rfl (
      r_ic (x := -1) (pc2 := 281) rfl ic_m1 rfl (
      jr_g fun h46 => r_cne (pc2 := 284) (t := 289) rfl h46 (rgk rfl) rfl (fun _ =>
      r_ic (x := 99) (pc2 := 286) rfl ic_99 rfl (
      r_goto (t := 291) rfl (
      r_iret rfl rfl))) (fun _ =>
      r_iload (pc2 := 291) rfl rfl rfl (
      r_iret rfl rfl))))))))))))) (fun h14 =>
      jr_ite (fun h15 => r_sw (pc2 := 264) rfl (sw_no ic_99 h2 (rgk rfl) h5 (sw_no ic_100 h2 (rgk rfl) h6 (sw_no ic_101 h2 (rgk rfl) h7 (sw_no ic_102 h2 (rgk rfl) h8 (sw_no ic_103 h2 (rgk rfl) h9 (sw_no ic_104 h2 (rgk rfl) h10 (sw_no ic_105 h2 (rgk rfl) h11 (sw_no ic_106 h2 (rgk rfl) h12 (sw_no ic_107 h2 (rgk rfl) h13 (sw_no ic_108 h2 (rgk rfl) h14 (sw_yes ic_109 h15))))))))))) (
      r_aload (pc2 := 265) rfl rfl rfl (
      r_iload (pc2 := 266) rfl rfl rfl (
      r_ic (x := 999) (pc2 := 269) rfl ic_999 rfl (
      r_aload (pc2 := 270) rfl rfl rfl (
      r_getI (pc2 := 273) rfl rfl (sh_T hs rfl rfl) (
      r_callVP (pc2 := 276) (args := [.ref 44, gv v1, gv 999, gv (gm_I g 44 87)]) (st2 := []) rfl rfl rfl rfl rfl rfl (rc_of (sh_T hs rfl rfl)) (rf_md_boxOf hs d g v1 999 (gm_I g 44 87) ) fun v43 => (
      r_istore (L2 := [some (.ref 44), some (gv a1), some (gv v1), none, some (gv v43)]) (pc2 := 278) rfl rfl rfl (
      r_iload (pc2 := 280) rfl rfl rfl (
      r_ic (x := -1) (pc2 := 281) rfl ic_m1 rfl (
      jr_g fun h44 => r_cne (pc2 := 284) (t := 289) rfl h44 (rgk rfl) rfl (fun _ =>
      r_ic (x := 99) (pc2 := 286) rfl ic_99 rfl (
      r_goto (t := 291) rfl (
      r_iret rfl rfl))) (fun _ =>
      r_iload (pc2 := 291) rfl rfl rfl (
      r_iret rfl rfl))))))))))))) (fun h15 =>
      jr_ite (fun h16 => r_sw (pc2 := 147) rfl (sw_no ic_99 h2 (rgk rfl) h5 (sw_no ic_100 h2 (rgk rfl) h6 (sw_no ic_101 h2 (rgk rfl) h7 (sw_no ic_102 h2 (rgk rfl) h8 (sw_no ic_103 h2 (rgk rfl) h9 (sw_no ic_104 h2 (rgk rfl) h10 (sw_no ic_105 h2 (rgk rfl) h11 (sw_no ic_106 h2 (rgk rfl) h12 (sw_no ic_107 h2 (rgk rfl) h13 (sw_no ic_108 h2 (rgk rfl) h14 (sw_no ic_109 h2 (rgk rfl) h15 (sw_yes ic_110 h16)))))))))))) (
      r_aload (pc2 := 148) rfl rfl rfl (
      r_getA (pc2 := 151) rfl rfl (sh_T hs rfl rfl) (sh_A hs rfl rfl) (
      r_iload (pc2 := 152) rfl rfl rfl (
      jr_g fun h42 => r_iald (len := 30) (pc2 := 153) rfl rfl (sh_T hs rfl rfl) (sh_L hs rfl rfl) rfl h42 (
      r_iret rfl rfl)))))) (fun h16 =>
      jr_ite (fun h17 => r_sw (pc2 := 264) rfl (sw_no ic_99 h2 (rgk rfl) h5 (sw_no ic_100 h2 (rgk rfl) h6 (sw_no ic_101 h2 (rgk rfl) h7 (sw_no ic_102 h2 (rgk rfl) h8 (sw_no ic_103 h2 (rgk rfl) h9 (sw_no ic_104 h2 (rgk rfl) h10 (sw_no ic_105 h2 (rgk rfl) h11 (sw_no ic_106 h2 (rgk rfl) h12 (sw_no ic_107 h2 (rgk rfl) h13 (sw_no ic_108 h2 (rgk rfl) h14 (sw_no ic_109 h2 (rgk rfl) h15 (sw_no ic_110 h2 (rgk rfl) h16 (sw_yes ic_111 h17))))))))))))) (
      r_aload (pc2 := 265) rfl rfl rfl (
      r_iload (pc2 := 266) rfl rfl rfl (
      r_ic (x := 999) (pc2 := 269) rfl ic_999 rfl (
      r_aload (pc2 := 270) rfl rfl rfl (
      r_getI (pc2 := 273) rfl rfl (sh_T hs rfl rfl) (
      r_callVP (pc2 := 276) (args := [.ref 44, gv v1, gv 999, gv (gm_I g 44 87)]) (st2 := []) rfl rfl rfl rfl rfl rfl (rc_of (sh_T hs rfl rfl)) (rf_md_boxOf hs d g v1 999 (gm_I g 44 87) ) fun v40 => (
      r_istore (L2 := [some (.ref 44), some (gv a1), some (gv v1), none, some (gv v40)]) (pc2 := 278) rfl rfl rfl (
      r_iload (pc2 := 280) rfl rfl rfl (
      r_ic (x := -1) (pc2 := 281) rfl ic_m1 rfl (
      jr_g fun h41 => r_cne (pc2 := 284) (t := 289) rfl h41 (rgk rfl) rfl (fun _ =>
      r_ic (x := 99) (pc2 := 286) rfl ic_99 rfl (
      r_goto (t := 291) rfl (
      r_iret rfl rfl))) (fun _ =>
      r_iload (pc2 := 291) rfl rfl rfl (
      r_iret rfl rfl))))))))))))) (fun h17 =>
      jr_ite (fun h18 => r_sw (pc2 := 133) rfl (sw_no ic_99 h2 (rgk rfl) h5 (sw_no ic_100 h2 (rgk rfl) h6 (sw_no ic_101 h2 (rgk rfl) h7 (sw_no ic_102 h2 (rgk rfl) h8 (sw_no ic_103 h2 (rgk rfl) h9 (sw_no ic_104 h2 (rgk rfl) h10 (sw_no ic_105 h2 (rgk rfl) h11 (sw_no ic_106 h2 (rgk rfl) h12 (sw_no ic_107 h2 (rgk rfl) h13 (sw_no ic_108 h2 (rgk rfl) h14 (sw_no ic_109 h2 (rgk rfl) h15 (sw_no ic_110 h2 (rgk rfl) h16 (sw_no ic_111 h2 (rgk rfl) h17 (sw_yes ic_112 h18)))))))))))))) (
      r_aload (pc2 := 134) rfl rfl rfl (
      r_getA (pc2 := 137) rfl rfl (sh_T hs rfl rfl) (sh_A hs rfl rfl) (
      r_iload (pc2 := 138) rfl rfl rfl (
      jr_g fun h39 => r_iald (len := 30) (pc2 := 139) rfl rfl (sh_T hs rfl rfl) (sh_L hs rfl rfl) rfl h39 (
      r_iret rfl rfl)))))) (fun h18 =>
      jr_ite (fun h19 => r_sw (pc2 := 264) rfl (sw_no ic_99 h2 (rgk rfl) h5 (sw_no ic_100 h2 (rgk rfl) h6 (sw_no ic_101 h2 (rgk rfl) h7 (sw_no ic_102 h2 (rgk rfl) h8 (sw_no ic_103 h2 (rgk rfl) h9 (sw_no ic_104 h2 (rgk rfl) h10 (sw_no ic_105 h2 (rgk rfl) h11 (sw_no ic_106 h2 (rgk rfl) h12 (sw_no ic_107 h2 (rgk rfl) h13 (sw_no ic_108 h2 (rgk rfl) h14 (sw_no ic_109 h2 (rgk rfl) h15 (sw_no ic_110 h2 (rgk rfl) h16 (sw_no ic_111 h2 (rgk rfl) h17 (sw_no ic_112 h2 (rgk rfl) h18 (sw_yes ic_113 h19))))))))))))))) (
      r_aload (pc2 := 265) rfl rfl rfl (
      r_iload (pc2 := 266) rfl rfl rfl (
      r_ic (x := 999) (pc2 := 269) rfl ic_999 rfl (
      r_aload (pc2 := 270) rfl rfl rfl (
      r_getI (pc2 := 273) rfl rfl (sh_T hs rfl rfl) (
      r_callVP (pc2 := 276) (args := [.ref 44, gv v1, gv 999, gv (gm_I g 44 87)]) (st2 := []) rfl rfl rfl rfl rfl rfl (rc_of (sh_T hs rfl rfl)) (rf_md_boxOf hs d g v1 999 (gm_I g 44 87) ) fun v37 => (
      r_istore (L2 := [some (.ref 44), some (gv a1), some (gv v1), none, some (gv v37)]) (pc2 := 278) rfl rfl rfl (
      r_iload (pc2 := 280) rfl rfl rfl (
      r_ic (x := -1) (pc2 := 281) rfl ic_m1 rfl (
      jr_g fun h38 => r_cne (pc2 := 284) (t := 289) rfl h38 (rgk rfl) rfl (fun _ =>
      r_ic (x := 99) (pc2 := 286) rfl ic_99 rfl (
      r_goto (t := 291) rfl (
      r_iret rfl rfl))) (fun _ =>
      r_iload (pc2 := 291) rfl rfl rfl (
      r_iret rfl rfl))))))))))))) (fun h19 =>
      jr_ite (fun h20 => r_sw (pc2 := 264) rfl (sw_no ic_99 h2 (rgk rfl) h5 (sw_no ic_100 h2 (rgk rfl) h6 (sw_no ic_101 h2 (rgk rfl) h7 (sw_no ic_102 h2 (rgk rfl) h8 (sw_no ic_103 h2 (rgk rfl) h9 (sw_no ic_104 h2 (rgk rfl) h10 (sw_no ic_105 h2 (rgk rfl) h11 (sw_no ic_106 h2 (rgk rfl) h12 (sw_no ic_107 h2 (rgk rfl) h13 (sw_no ic_108 h2 (rgk rfl) h14 (sw_no ic_109 h2 (rgk rfl) h15 (sw_no ic_110 h2 (rgk rfl) h16 (sw_no ic_111 h2 (rgk rfl) h17 (sw_no ic_112 h2 (rgk rfl) h18 (sw_no ic_113 h2 (rgk rfl) h19 (sw_yes ic_114 h20)))))))))))))))) (
      r_aload (pc2 := 265) rfl rfl rfl (
      r_iload (pc2 := 266) rfl rfl rfl (
      r_ic (x := 999) (pc2 := 269) rfl ic_999 rfl (
      r_aload (pc2 := 270) rfl rfl rfl (
      r_getI (pc2 := 273) rfl rfl (sh_T hs rfl rfl) (
      r_callVP (pc2 := 276) (args := [.ref 44, gv v1, gv 999, gv (gm_I g 44 87)]) (st2 := []) rfl rfl rfl rfl rfl rfl (rc_of (sh_T hs rfl rfl)) (rf_md_boxOf hs d g v1 999 (gm_I g 44 87) ) fun v35 => (
      r_istore (L2 := [some (.ref 44), some (gv a1), some (gv v1), none, some (gv v35)]) (pc2 := 278) rfl rfl rfl (
      r_iload (pc2 := 280) rfl rfl rfl (
      r_ic (x := -1) (pc2 := 281) rfl ic_m1 rfl (
      jr_g fun h36 => r_cne (pc2 := 284) (t := 289) rfl h36 (rgk rfl) rfl (fun _ =>
      r_ic (x := 99) (pc2 := 286) rfl ic_99 rfl (
      r_goto (t := 291) rfl (
      r_iret rfl rfl))) (fun _ =>
      r_iload (pc2 := 291) rfl rfl rfl (
      r_iret rfl rfl))))))))))))) (fun h20 =>
      jr_ite (fun h21 => r_sw (pc2 := 111) rfl (sw_no ic_99 h2 (rgk rfl) h5 (sw_no ic_100 h2 (rgk rfl) h6 (sw_no ic_101 h2 (rgk rfl) h7 (sw_no ic_102 h2 (rgk rfl) h8 (sw_no ic_103 h2 (rgk rfl) h9 (sw_no ic_104 h2 (rgk rfl) h10 (sw_no ic_105 h2 (rgk rfl) h11 (sw_no ic_106 h2 (rgk rfl) h12 (sw_no ic_107 h2 (rgk rfl) h13 (sw_no ic_108 h2 (rgk rfl) h14 (sw_no ic_109 h2 (rgk rfl) h15 (sw_no ic_110 h2 (rgk rfl) h16 (sw_no ic_111 h2 (rgk rfl) h17 (sw_no ic_112 h2 (rgk rfl) h18 (sw_no ic_113 h2 (rgk rfl) h19 (sw_no ic_114 h2 (rgk rfl) h20 (sw_yes ic_115 h21))))))))))))))))) (
      r_aload (pc2 := 112) rfl rfl rfl (
      r_getA (pc2 := 115) rfl rfl (sh_T hs rfl rfl) (sh_A hs rfl rfl) (
      r_iload (pc2 := 116) rfl rfl rfl (
      jr_g fun h33 => r_iald (len := 30) (pc2 := 117) rfl rfl (sh_T hs rfl rfl) (sh_L hs rfl rfl) rfl h33 (
      r_ic (x := -1) (pc2 := 118) rfl ic_m1 rfl (
      jr_g fun h34 => r_cne (pc2 := 121) (t := 126) rfl h34 (rgk rfl) rfl (fun _ =>
      r_ic (x := 9) (pc2 := 123) rfl ic_9 rfl (
      r_goto (t := 132) rfl (
      r_iret rfl rfl))) (fun _ =>
      r_aload (pc2 := 127) rfl rfl rfl (
      r_getA (pc2 := 130) rfl rfl (sh_T hs rfl rfl) (sh_A hs rfl rfl) (
      r_iload (pc2 := 131) rfl rfl rfl (
      r_iald (len := 30) (pc2 := 132) rfl rfl (sh_T hs rfl rfl) (sh_L hs rfl rfl) rfl h33 (
      r_iret rfl rfl)))))))))))) (fun h21 =>
      jr_ite (fun h22 => r_sw (pc2 := 104) rfl (sw_no ic_99 h2 (rgk rfl) h5 (sw_no ic_100 h2 (rgk rfl) h6 (sw_no ic_101 h2 (rgk rfl) h7 (sw_no ic_102 h2 (rgk rfl) h8 (sw_no ic_103 h2 (rgk rfl) h9 (sw_no ic_104 h2 (rgk rfl) h10 (sw_no ic_105 h2 (rgk rfl) h11 (sw_no ic_106 h2 (rgk rfl) h12 (sw_no ic_107 h2 (rgk rfl) h13 (sw_no ic_108 h2 (rgk rfl) h14 (sw_no ic_109 h2 (rgk rfl) h15 (sw_no ic_110 h2 (rgk rfl) h16 (sw_no ic_111 h2 (rgk rfl) h17 (sw_no ic_112 h2 (rgk rfl) h18 (sw_no ic_113 h2 (rgk rfl) h19 (sw_no ic_114 h2 (rgk rfl) h20 (sw_no ic_115 h2 (rgk rfl) h21 (sw_yes ic_116 h22)))))))))))))))))) (
      r_aload (pc2 := 105) rfl rfl rfl (
      r_getA (pc2 := 108) rfl rfl (sh_T hs rfl rfl) (sh_A hs rfl rfl) (
      r_iload (pc2 := 109) rfl rfl rfl (
      jr_g fun h32 => r_iald (len := 30) (pc2 := 110) rfl rfl (sh_T hs rfl rfl) (sh_L hs rfl rfl) rfl h32 (
      r_iret rfl rfl)))))) (fun h22 =>
      jr_ite (fun h23 => r_sw (pc2 := 264) rfl (sw_no ic_99 h2 (rgk rfl) h5 (sw_no ic_100 h2 (rgk rfl) h6 (sw_no ic_101 h2 (rgk rfl) h7 (sw_no ic_102 h2 (rgk rfl) h8 (sw_no ic_103 h2 (rgk rfl) h9 (sw_no ic_104 h2 (rgk rfl) h10 (sw_no ic_105 h2 (rgk rfl) h11 (sw_no ic_106 h2 (rgk rfl) h12 (sw_no ic_107 h2 (rgk rfl) h13 (sw_no ic_108 h2 (rgk rfl) h14 (sw_no ic_109 h2 (rgk rfl) h15 (sw_no ic_110 h2 (rgk rfl) h16 (sw_no ic_111 h2 (rgk rfl) h17 (sw_no ic_112 h2 (rgk rfl) h18 (sw_no ic_113 h2 (rgk rfl) h19 (sw_no ic_114 h2 (rgk rfl) h20 (sw_no ic_115 h2 (rgk rfl) h21 (sw_no ic_116 h2 (rgk rfl) h22 (sw_yes ic_117 h23))))))))))))))))))) (
      r_aload (pc2 := 265) rfl rfl rfl (
      r_iload (pc2 := 266) rfl rfl rfl (
      r_ic (x := 999) (pc2 := 269) rfl ic_999 rfl (
      r_aload (pc2 := 270) rfl rfl rfl (
      r_getI (pc2 := 273) rfl rfl (sh_T hs rfl rfl) (
      r_callVP (pc2 := 276) (args := [.ref 44, gv v1, gv 999, gv (gm_I g 44 87)]) (st2 := []) rfl rfl rfl rfl rfl rfl (rc_of (sh_T hs rfl rfl)) (rf_md_boxOf hs d g v1 999 (gm_I g 44 87) ) fun v30 => (
      r_istore (L2 := [some (.ref 44), some (gv a1), some (gv v1), none, some (gv v30)]) (pc2 := 278) rfl rfl rfl (
      r_iload (pc2 := 280) rfl rfl rfl (
      r_ic (x := -1) (pc2 := 281) rfl ic_m1 rfl (
      jr_g fun h31 => r_cne (pc2 := 284) (t := 289) rfl h31 (rgk rfl) rfl (fun _ =>
      r_ic (x := 99) (pc2 := 286) rfl ic_99 rfl (
      r_goto (t := 291) rfl (
      r_iret rfl rfl))) (fun _ =>
      r_iload (pc2 := 291) rfl rfl rfl (
      r_iret rfl rfl))))))))))))) (fun h23 =>
      jr_ite (fun h24 => r_sw (pc2 := 249) rfl (sw_no ic_99 h2 (rgk rfl) h5 (sw_no ic_100 h2 (rgk rfl) h6 (sw_no ic_101 h2 (rgk rfl) h7 (sw_no ic_102 h2 (rgk rfl) h8 (sw_no ic_103 h2 (rgk rfl) h9 (sw_no ic_104 h2 (rgk rfl) h10 (sw_no ic_105 h2 (rgk rfl) h11 (sw_no ic_106 h2 (rgk rfl) h12 (sw_no ic_107 h2 (rgk rfl) h13 (sw_no ic_108 h2 (rgk rfl) h14 (sw_no ic_109 h2 (rgk rfl) h15 (sw_no ic_110 h2 (rgk rfl) h16 (sw_no ic_111 h2 (rgk rfl) h17 (sw_no ic_112 h2 (rgk rfl) h18 (sw_no ic_113 h2 (rgk rfl) h19 (sw_no ic_114 h2 (rgk rfl) h20 (sw_no ic_115 h2 (rgk rfl) h21 (sw_no ic_116 h2 (rgk rfl) h22 (sw_no ic_117 h2 (rgk rfl) h23 (sw_yes ic_118 h24)))))))))))))))))))) (
      r_aload (pc2 := 250) rfl rfl rfl (
      r_getA (pc2 := 253) rfl rfl (sh_T hs rfl rfl) (sh_A hs rfl rfl) (
      r_iload (pc2 := 254) rfl rfl rfl (
      jr_g fun h28 => r_iald (len := 30) (pc2 := 255) rfl rfl (sh_T hs rfl rfl) (sh_L hs rfl rfl) rfl h28 (
      jr_g fun h29 => r_ifeq (pc2 := 258) (t := 262) rfl h29 rfl (fun _ =>
      r_ic (x := 0) (pc2 := 263) rfl ic_0 rfl (
      r_iret rfl rfl)) (fun _ =>
      r_ic (x := 1) (pc2 := 259) rfl ic_1 rfl (
      r_goto (t := 263) rfl (
      r_iret rfl rfl))))))))) (fun h24 =>
      jr_ite (fun h25 => r_sw (pc2 := 234) rfl (sw_no ic_99 h2 (rgk rfl) h5 (sw_no ic_100 h2 (rgk rfl) h6 (sw_no ic_101 h2 (rgk rfl) h7 (sw_no ic_102 h2 (rgk rfl) h8 (sw_no ic_103 h2 (rgk rfl) h9 (sw_no ic_104 h2 (rgk rfl) h10 (sw_no ic_105 h2 (rgk rfl) h11 (sw_no ic_106 h2 (rgk rfl) h12 (sw_no ic_107 h2 (rgk rfl) h13 (sw_no ic_108 h2 (rgk rfl) h14 (sw_no ic_109 h2 (rgk rfl) h15 (sw_no ic_110 h2 (rgk rfl) h16 (sw_no ic_111 h2 (rgk rfl) h17 (sw_no ic_112 h2 (rgk rfl) h18 (sw_no ic_113 h2 (rgk rfl) h19 (sw_no ic_114 h2 (rgk rfl) h20 (sw_no ic_115 h2 (rgk rfl) h21 (sw_no ic_116 h2 (rgk rfl) h22 (sw_no ic_117 h2 (rgk rfl) h23 (sw_no ic_118 h2 (rgk rfl) h24 (sw_yes ic_119 h25))))))))))))))))))))) (
      r_aload (pc2 := 235) rfl rfl rfl (
      r_getA (pc2 := 238) rfl rfl (sh_T hs rfl rfl) (sh_A hs rfl rfl) (
      r_iload (pc2 := 239) rfl rfl rfl (
      jr_g fun h26 => r_iald (len := 30) (pc2 := 240) rfl rfl (sh_T hs rfl rfl) (sh_L hs rfl rfl) rfl h26 (
      jr_g fun h27 => r_ifeq (pc2 := 243) (t := 247) rfl h27 rfl (fun _ =>
      r_ic (x := 0) (pc2 := 248) rfl ic_0 rfl (
      r_iret rfl rfl)) (fun _ =>
      r_ic (x := 1) (pc2 := 244) rfl ic_1 rfl (
      r_goto (t := 248) rfl (
      r_iret rfl rfl))))))))) (fun h25 =>
      r_sw (pc2 := 264) rfl (sw_no ic_99 h2 (rgk rfl) h5 (sw_no ic_100 h2 (rgk rfl) h6 (sw_no ic_101 h2 (rgk rfl) h7 (sw_no ic_102 h2 (rgk rfl) h8 (sw_no ic_103 h2 (rgk rfl) h9 (sw_no ic_104 h2 (rgk rfl) h10 (sw_no ic_105 h2 (rgk rfl) h11 (sw_no ic_106 h2 (rgk rfl) h12 (sw_no ic_107 h2 (rgk rfl) h13 (sw_no ic_108 h2 (rgk rfl) h14 (sw_no ic_109 h2 (rgk rfl) h15 (sw_no ic_110 h2 (rgk rfl) h16 (sw_no ic_111 h2 (rgk rfl) h17 (sw_no ic_112 h2 (rgk rfl) h18 (sw_no ic_113 h2 (rgk rfl) h19 (sw_no ic_114 h2 (rgk rfl) h20 (sw_no ic_115 h2 (rgk rfl) h21 (sw_no ic_116 h2 (rgk rfl) h22 (sw_no ic_117 h2 (rgk rfl) h23 (sw_no ic_118 h2 (rgk rfl) h24 (sw_no ic_119 h2 (rgk rfl) h25 rfl))))))))))))))))))))) (
      r_aload (pc2 := 265) rfl rfl rfl (
      r_iload (pc2 := 266) rfl rfl rfl (
      r_ic (x := 999) (pc2 := 269) rfl ic_999 rfl (
      r_aload (pc2 := 270) rfl rfl rfl (
      r_getI (pc2 := 273) rfl rfl (sh_T hs rfl rfl) (
      r_callVP (pc2 := 276) (args := [.ref 44, gv v1, gv 999, gv (gm_I g 44 87)]) (st2 := []) rfl rfl rfl rfl rfl rfl (rc_of (sh_T hs rfl rfl)) (rf_md_boxOf hs d g v1 999 (gm_I g 44 87) ) fun v3 => (
      r_istore (L2 := [some (.ref 44), some (gv a1), some (gv v1), none, some (gv v3)]) (pc2 := 278) rfl rfl rfl (
      r_iload (pc2 := 280) rfl rfl rfl (
      r_ic (x := -1) (pc2 := 281) rfl ic_m1 rfl (
      jr_g fun h4 => r_cne (pc2 := 284) (t := 289) rfl h4 (rgk rfl) rfl (fun _ =>
      r_ic (x := 99) (pc2 := 286) rfl ic_99 rfl (
      r_goto (t := 291) rfl (
      r_iret rfl rfl))) (fun _ =>
      r_iload (pc2 := 291) rfl rfl rfl (
      r_iret rfl rfl))))))))))))))))))))))))))))))))))))))))
theorem rf_md_isLetter {s : gm_S} {n m : Nat} (hs : gm_sh s n m) (d : Nat)  (g : gm_T) (a0 : Int)  : jr (pI s g) (md_isLetter g a0) (jm_cl jm_CD km_n (d + 1) 289 [gv a0] (gm_h s g)) := by
  unfold md_isLetter
  exact (r_ent (cd := cd_289) (n := 1) (L0 := [some (gv a0)]) rfl rfl rfl rfl (
      r_iload (pc2 := 1) rfl rfl rfl (
      r_ic (x := 116) (pc2 := 3) rfl ic_116 rfl (
      jr_g fun h1 => r_ceq (pc2 := 6) (t := 66) rfl h1 (rgk rfl) rfl (fun _ =>
      r_ic (x := 1) (pc2 := 67) rfl ic_1 rfl (
      r_goto (t := 71) rfl (
      r_zret rfl (by decide) rfl))) (fun _ =>
      r_iload (pc2 := 7) rfl rfl rfl (
      r_ic (x := 115) (pc2 := 9) rfl ic_115 rfl (
      r_ceq (pc2 := 12) (t := 66) rfl h1 (rgk rfl) rfl (fun _ =>
      r_ic (x := 1) (pc2 := 67) rfl ic_1 rfl (
      r_goto (t := 71) rfl (
      r_zret rfl (by decide) rfl))) (fun _ =>
      r_iload (pc2 := 13) rfl rfl rfl (
      r_ic (x := 112) (pc2 := 15) rfl ic_112 rfl (
      r_ceq (pc2 := 18) (t := 66) rfl h1 (rgk rfl) rfl (fun _ =>
      r_ic (x := 1) (pc2 := 67) rfl ic_1 rfl (
      r_goto (t := 71) rfl (
      r_zret rfl (by decide) rfl))) (fun _ =>
      r_iload (pc2 := 19) rfl rfl rfl (
      r_ic (x := 101) (pc2 := 21) rfl ic_101 rfl (
      r_ceq (pc2 := 24) (t := 66) rfl h1 (rgk rfl) rfl (fun _ =>
      r_ic (x := 1) (pc2 := 67) rfl ic_1 rfl (
      r_goto (t := 71) rfl (
      r_zret rfl (by decide) rfl))) (fun _ =>
      r_iload (pc2 := 25) rfl rfl rfl (
      r_ic (x := 110) (pc2 := 27) rfl ic_110 rfl (
      r_ceq (pc2 := 30) (t := 66) rfl h1 (rgk rfl) rfl (fun _ =>
      r_ic (x := 1) (pc2 := 67) rfl ic_1 rfl (
      r_goto (t := 71) rfl (
      r_zret rfl (by decide) rfl))) (fun _ =>
      r_iload (pc2 := 31) rfl rfl rfl (
      r_ic (x := 99) (pc2 := 33) rfl ic_99 rfl (
      r_ceq (pc2 := 36) (t := 66) rfl h1 (rgk rfl) rfl (fun _ =>
      r_ic (x := 1) (pc2 := 67) rfl ic_1 rfl (
      r_goto (t := 71) rfl (
      r_zret rfl (by decide) rfl))) (fun _ =>
      r_iload (pc2 := 37) rfl rfl rfl (
      r_ic (x := 106) (pc2 := 39) rfl ic_106 rfl (
      r_ceq (pc2 := 42) (t := 66) rfl h1 (rgk rfl) rfl (fun _ =>
      r_ic (x := 1) (pc2 := 67) rfl ic_1 rfl (
      r_goto (t := 71) rfl (
      r_zret rfl (by decide) rfl))) (fun _ =>
      r_iload (pc2 := 43) rfl rfl rfl (
      r_ic (x := 103) (pc2 := 45) rfl ic_103 rfl (
      r_ceq (pc2 := 48) (t := 66) rfl h1 (rgk rfl) rfl (fun _ =>
      r_ic (x := 1) (pc2 := 67) rfl ic_1 rfl (
      r_goto (t := 71) rfl (
      r_zret rfl (by decide) rfl))) (fun _ =>
      r_iload (pc2 := 49) rfl rfl rfl (
      r_ic (x := 119) (pc2 := 51) rfl ic_119 rfl (
      r_ceq (pc2 := 54) (t := 66) rfl h1 (rgk rfl) rfl (fun _ =>
      r_ic (x := 1) (pc2 := 67) rfl ic_1 rfl (
      r_goto (t := 71) rfl (
      r_zret rfl (by decide) rfl))) (fun _ =>
      r_iload (pc2 := 55) rfl rfl rfl (
      r_ic (x := 118) (pc2 := 57) rfl ic_118 rfl (
      r_ceq (pc2 := 60) (t := 66) rfl h1 (rgk rfl) rfl (fun _ =>
      r_ic (x := 1) (pc2 := 67) rfl ic_1 rfl (
      r_goto (t := 71) rfl (
      r_zret rfl (by decide) rfl))) (fun _ =>
      r_iload (pc2 := 61) rfl rfl rfl (
      r_ic (x := 98) (pc2 := 63) rfl ic_98 rfl (
      r_cne (pc2 := 66) (t := 70) rfl h1 (rgk rfl) rfl (fun _ =>
      r_ic (x := 1) (pc2 := 67) rfl ic_1 rfl (
      r_goto (t := 71) rfl (
      r_zret rfl (by decide) rfl))) (fun _ =>
      r_ic (x := 0) (pc2 := 71) rfl ic_0 rfl (
      r_zret rfl (by decide) rfl))))))))))))))))))))))))))))))))))))
theorem rl_md_test_l117 {s : gm_S} {n m : Nat} (hs : gm_sh s n m) (d : Nat)  (c20 : Int) (c21 : Int)  : ∀ (fuel : Nat) (v22 : Int) (v23 : Int) (g24 : gm_T), jr (fun (q : Int × gm_T) (c : Option jm_R) => ∃ (j26 : Option Value), jm_lg j26 = false ∧ c = jm_sup cd_290 (jm_cl jm_CD km_n (d + 3)) (157, [some (.ref 44), some (gv c20), some (gv c21), some (gv q.1), j26], [], gm_h s q.2)) (md_test_l117  c20 c21 fuel v22 v23 g24) (jm_sup cd_290 (jm_cl jm_CD km_n (d + 3)) (117, [some (.ref 44), some (gv c20), some (gv c21), some (gv v22), some (gv v23)], [], gm_h s g24)) := by
  intro fuel
  induction fuel with
  | zero => intros; exact jr_none
  | succ fuel ih =>
    intro v22 v23 g24  
    unfold md_test_l117
    exact (
      r_iload (pc2 := 119) rfl rfl rfl (
      r_ic (x := 2) (pc2 := 120) rfl ic_2 rfl (
      jr_g fun h28 => r_cge (pc2 := 123) (t := 157) rfl h28 (rgk rfl) rfl (fun _ =>
      r_aload (pc2 := 124) rfl rfl rfl (
      r_getI (pc2 := 127) rfl rfl (sh_T hs rfl rfl) (
      jr_g fun h29 => r_ifne (pc2 := 130) (t := 157) rfl h29 rfl (fun _ =>
      r_iload (pc2 := 131) rfl rfl rfl (
      jr_g fun h30 => r_ifle (pc2 := 134) (t := 157) rfl h30 rfl (fun _ =>
      jr_leaf ⟨_, rfl, rfl⟩) (fun _ =>
      r_aload (pc2 := 135) rfl rfl rfl (
      r_callVP (pc2 := 138) (args := [.ref 44]) (st2 := []) rfl rfl rfl rfl rfl rfl (rc_of (sh_T hs rfl rfl)) (rf_md_isDigit hs (d + 1) g24 ) fun v31 => (
      jr_g fun h32 => r_ifeq (pc2 := 141) (t := 157) rfl h32 rfl (fun _ =>
      jr_leaf ⟨_, rfl, rfl⟩) (fun _ =>
      r_ic (x := 10) (pc2 := 143) rfl ic_10 rfl (
      r_iload (pc2 := 144) rfl rfl rfl (
      r_imul (pc2 := 145) rfl rfl (
      r_aload (pc2 := 146) rfl rfl rfl (
      r_callVI (pc2 := 149) (args := [.ref 44]) (st2 := [gv (10 * v22)]) rfl rfl rfl rfl rfl rfl (rc_of (sh_T hs rfl rfl)) (rf_md_digit hs d g24 ) fun v33 g34 => (
      r_iadd (pc2 := 150) rfl rfl (
      r_istoreL (L3 := fun v35 => [some (.ref 44), some (gv c20), some (gv c21), some (gv v35), some (gv v23)]) (pc2 := 151) rfl rfl (fun _ => rfl) fun v35 => (
      r_iinc (kk := 1) (L2 := [some (.ref 44), some (gv c20), some (gv c21), some (gv v35), some (gv (v23 + 1))]) (pc2 := 154) rfl ic_1 rfl rfl rfl (
      r_goto (t := 117) rfl (
      ih v35 (v23 + 1) g34))))))))))))))) (fun _ =>
      jr_leaf ⟨_, rfl, rfl⟩)))) (fun _ =>
      jr_leaf ⟨_, rfl, rfl⟩))))
theorem rf_md_test {s : gm_S} {n m : Nat} (hs : gm_sh s n m) (d : Nat)  (g : gm_T)   : jr (eI s) (md_test g ) (jm_cl jm_CD km_n (d + 4) 290 [.ref 44] (gm_h s g)) := by
  unfold md_test
  exact (r_ent (cd := cd_290) (n := 5) (L0 := [some (.ref 44), none, none, none, none]) rfl rfl rfl rfl (
      r_aload (pc2 := 1) rfl rfl rfl (
      r_callVP (pc2 := 4) (args := [.ref 44]) (st2 := []) rfl rfl rfl rfl rfl rfl (rc_of (sh_T hs rfl rfl)) (rf_md_byteAt hs (d + 2) g ) fun v1 => (
      r_istore (L2 := [some (.ref 44), some (gv v1), none, none, none]) (pc2 := 5) rfl rfl rfl (
      r_aload (pc2 := 6) rfl rfl rfl (
      r_aload (pc2 := 7) rfl rfl rfl (
      r_getI (pc2 := 10) rfl rfl (sh_T hs rfl rfl) (
      r_b1 (R1 := (fun (q : Int) (c : Option jm_R) => c = jm_sup cd_290 (jm_cl jm_CD km_n (d + 3)) (25, [some (.ref 44), some (gv v1), none, none, none], [gv q, .ref 44], gm_h s g))) (
      jr_g fun h3 => r_ifne (pc2 := 13) (t := 20) rfl h3 rfl (fun _ =>
      r_iload (pc2 := 14) rfl rfl rfl (
      r_callSP (pc2 := 17) (args := [gv v1]) (st2 := [.ref 44]) rfl rfl rfl rfl rfl rfl (rf_md_isLetter hs (d + 2) g v1 ) fun v4 => (
      jr_g fun h5 => r_ifne (pc2 := 20) (t := 24) rfl h5 rfl (fun _ =>
      r_ic (x := 1) (pc2 := 21) rfl ic_1 rfl (
      r_goto (t := 25) rfl (
      jr_leaf rfl))) (fun _ =>
      r_ic (x := 0) (pc2 := 25) rfl ic_0 rfl (
      jr_leaf rfl))))) (fun _ =>
      r_ic (x := 1) (pc2 := 21) rfl ic_1 rfl (
      r_goto (t := 25) rfl (
      jr_leaf rfl)))) (fun v2 c h => match c, h with | _, rfl => (
      jr_g fun hz => r_putZ (pc2 := 28) rfl rfl (sh_T hs rfl rfl) hz fun g6 => (
      r_aload (pc2 := 29) rfl rfl rfl (
      r_dup (pc2 := 30) rfl rfl rfl (
      r_getI (pc2 := 33) rfl rfl (sh_T hs rfl rfl) (
      r_aload (pc2 := 34) rfl rfl rfl (
      r_getI (pc2 := 37) rfl rfl (sh_T hs rfl rfl) (
      r_b1 (R1 := (fun (q : Int) (c : Option jm_R) => c = jm_sup cd_290 (jm_cl jm_CD km_n (d + 3)) (45, [some (.ref 44), some (gv v1), none, none, none], [gv q, gv (gm_I g6 44 40), .ref 44], gm_h s g6))) (
      jr_g fun h8 => r_ifeq (pc2 := 40) (t := 44) rfl h8 rfl (fun _ =>
      r_ic (x := 1) (pc2 := 45) rfl ic_1 rfl (
      jr_leaf rfl)) (fun _ =>
      r_ic (x := 0) (pc2 := 41) rfl ic_0 rfl (
      r_goto (t := 45) rfl (
      jr_leaf rfl)))) (fun v7 c h => match c, h with | _, rfl => (
      r_iadd (pc2 := 46) rfl rfl (
      r_putI (pc2 := 49) rfl rfl (sh_T hs rfl rfl) fun g9 => (
      r_aload (pc2 := 50) rfl rfl rfl (
      r_callVP (pc2 := 53) (args := [.ref 44]) (st2 := []) rfl rfl rfl rfl rfl rfl (rc_of (sh_T hs rfl rfl)) (rf_md_byteAt hs (d + 2) g9 ) fun v10 => (
      r_istore (L2 := [some (.ref 44), some (gv v1), some (gv v10), none, none]) (pc2 := 54) rfl rfl rfl (
      r_aload (pc2 := 55) rfl rfl rfl (
      r_aload (pc2 := 56) rfl rfl rfl (
      r_getI (pc2 := 59) rfl rfl (sh_T hs rfl rfl) (
      r_b1 (R1 := (fun (q : Int) (c : Option jm_R) => c = jm_sup cd_290 (jm_cl jm_CD km_n (d + 3)) (85, [some (.ref 44), some (gv v1), some (gv v10), none, none], [gv q, .ref 44], gm_h s g9))) (
      jr_g fun h12 => r_ifne (pc2 := 62) (t := 80) rfl h12 rfl (fun _ =>
      r_iload (pc2 := 63) rfl rfl rfl (
      r_ic (x := 60) (pc2 := 65) rfl ic_60 rfl (
      jr_g fun h13 => r_ceq (pc2 := 68) (t := 84) rfl h13 (rgk rfl) rfl (fun _ =>
      r_ic (x := 0) (pc2 := 85) rfl ic_0 rfl (
      jr_leaf rfl)) (fun _ =>
      r_iload (pc2 := 69) rfl rfl rfl (
      r_ic (x := 61) (pc2 := 71) rfl ic_61 rfl (
      r_ceq (pc2 := 74) (t := 84) rfl h13 (rgk rfl) rfl (fun _ =>
      r_ic (x := 0) (pc2 := 85) rfl ic_0 rfl (
      jr_leaf rfl)) (fun _ =>
      r_iload (pc2 := 75) rfl rfl rfl (
      r_ic (x := 62) (pc2 := 77) rfl ic_62 rfl (
      r_ceq (pc2 := 80) (t := 84) rfl h13 (rgk rfl) rfl (fun _ =>
      r_ic (x := 0) (pc2 := 85) rfl ic_0 rfl (
      jr_leaf rfl)) (fun _ =>
      r_ic (x := 1) (pc2 := 81) rfl ic_1 rfl (
      r_goto (t := 85) rfl (
      jr_leaf rfl)))))))))))) (fun _ =>
      r_ic (x := 1) (pc2 := 81) rfl ic_1 rfl (
      r_goto (t := 85) rfl (
      jr_leaf rfl)))) (fun v11 c h => match c, h with | _, rfl => (
      jr_g fun hz => r_putZ (pc2 := 88) rfl rfl (sh_T hs rfl rfl) hz fun g14 => (
      r_aload (pc2 := 89) rfl rfl rfl (
      r_dup (pc2 := 90) rfl rfl rfl (
      r_getI (pc2 := 93) rfl rfl (sh_T hs rfl rfl) (
      r_aload (pc2 := 94) rfl rfl rfl (
      r_getI (pc2 := 97) rfl rfl (sh_T hs rfl rfl) (
      r_b1 (R1 := (fun (q : Int) (c : Option jm_R) => c = jm_sup cd_290 (jm_cl jm_CD km_n (d + 3)) (105, [some (.ref 44), some (gv v1), some (gv v10), none, none], [gv q, gv (gm_I g14 44 40), .ref 44], gm_h s g14))) (
      jr_g fun h16 => r_ifeq (pc2 := 100) (t := 104) rfl h16 rfl (fun _ =>
      r_ic (x := 1) (pc2 := 105) rfl ic_1 rfl (
      jr_leaf rfl)) (fun _ =>
      r_ic (x := 0) (pc2 := 101) rfl ic_0 rfl (
      r_goto (t := 105) rfl (
      jr_leaf rfl)))) (fun v15 c h => match c, h with | _, rfl => (
      r_iadd (pc2 := 106) rfl rfl (
      r_putI (pc2 := 109) rfl rfl (sh_T hs rfl rfl) fun g17 => (
      r_aload (pc2 := 110) rfl rfl rfl (
      r_callVI (pc2 := 113) (args := [.ref 44]) (st2 := []) rfl rfl rfl rfl rfl rfl (rc_of (sh_T hs rfl rfl)) (rf_md_digit hs d g17 ) fun v18 g19 => (
      r_istore (L2 := [some (.ref 44), some (gv v1), some (gv v10), some (gv v18), none]) (pc2 := 114) rfl rfl rfl (
      r_ic (x := 0) (pc2 := 115) rfl ic_0 rfl (
      r_istore (L2 := [some (.ref 44), some (gv v1), some (gv v10), some (gv v18), some (gv 0)]) (pc2 := 117) rfl rfl rfl (
      r_b2 (rl_md_test_l117 hs d   v1 v10  fz v18 0 g19  ) (fun v37 g39 c h => match c, h with | _, ⟨j38, hj38, rfl⟩ => (
      r_aload (pc2 := 158) rfl rfl rfl (
      r_getI (pc2 := 161) rfl rfl (sh_T hs rfl rfl) (
      jr_g fun h40 => r_ifne (pc2 := 164) (t := 172) rfl h40 rfl (fun _ =>
      r_aload (pc2 := 165) rfl rfl rfl (
      r_getI (pc2 := 168) rfl rfl (sh_T hs rfl rfl) (
      r_ic (x := -1) (pc2 := 169) rfl ic_m1 rfl (
      jr_g fun h41 => r_cne (pc2 := 172) (t := 174) rfl h41 (rgk rfl) rfl (fun _ =>
      r_ic (x := 0) (pc2 := 173) rfl ic_0 rfl (
      r_zret rfl (by decide) rfl)) (fun _ =>
      r_aload (pc2 := 175) rfl rfl rfl (
      r_iload (pc2 := 176) rfl rfl rfl (
      r_callVP (pc2 := 179) (args := [.ref 44, gv v1]) (st2 := []) rfl rfl rfl rfl rfl rfl (rc_of (sh_T hs rfl rfl)) (rf_md_letter hs (d + 1) g39 v1 ) fun v42 => (
      r_istore (L2 := [some (.ref 44), some (gv v1), some (gv v10), some (gv v37), some (gv v42)]) (pc2 := 181) rfl rfl rfl (
      r_iload (pc2 := 182) rfl rfl rfl (
      r_ic (x := 60) (pc2 := 184) rfl ic_60 rfl (
      jr_g fun h43 => r_cne (pc2 := 187) (t := 201) rfl h43 (rgk rfl) rfl (fun _ =>
      r_iload (pc2 := 189) rfl rfl rfl (
      r_iload (pc2 := 190) rfl rfl rfl (
      jr_g fun h44 => r_cge (pc2 := 193) (t := 197) rfl h44.1 h44.2 rfl (fun _ =>
      r_ic (x := 1) (pc2 := 194) rfl ic_1 rfl (
      r_goto (t := 232) rfl (
      r_zret rfl (by decide) rfl))) (fun _ =>
      r_ic (x := 0) (pc2 := 198) rfl ic_0 rfl (
      r_goto (t := 232) rfl (
      r_zret rfl (by decide) rfl)))))) (fun _ =>
      r_iload (pc2 := 202) rfl rfl rfl (
      r_ic (x := 61) (pc2 := 204) rfl ic_61 rfl (
      r_cne (pc2 := 207) (t := 221) rfl h43 (rgk rfl) rfl (fun _ =>
      r_iload (pc2 := 209) rfl rfl rfl (
      r_iload (pc2 := 210) rfl rfl rfl (
      jr_g fun h45 => r_cne (pc2 := 213) (t := 217) rfl h45.1 h45.2 rfl (fun _ =>
      r_ic (x := 1) (pc2 := 214) rfl ic_1 rfl (
      r_goto (t := 232) rfl (
      r_zret rfl (by decide) rfl))) (fun _ =>
      r_ic (x := 0) (pc2 := 218) rfl ic_0 rfl (
      r_goto (t := 232) rfl (
      r_zret rfl (by decide) rfl)))))) (fun _ =>
      r_iload (pc2 := 223) rfl rfl rfl (
      r_iload (pc2 := 224) rfl rfl rfl (
      jr_g fun h46 => r_cle (pc2 := 227) (t := 231) rfl h46.1 h46.2 rfl (fun _ =>
      r_ic (x := 0) (pc2 := 232) rfl ic_0 rfl (
      r_zret rfl (by decide) rfl)) (fun _ =>
      r_ic (x := 1) (pc2 := 228) rfl ic_1 rfl (
      r_goto (t := 232) rfl (
      r_zret rfl (by decide) rfl)))))))))))))))))))) (fun _ =>
      r_ic (x := 0) (pc2 := 173) rfl ic_0 rfl (
      r_zret rfl (by decide) rfl)))))))))))))))))))))))))))))))))))))))))))))))))
theorem rl_md_term_l5 {s : gm_S} {n m : Nat} (hs : gm_sh s n m) (d : Nat) (rec : Nat → gm_T → Option (Int × gm_T)) (hrec : ∀ (g : gm_T), jr (eI s) (rec 0 g) (jm_cl jm_CD km_n (d + 4) 293 [.ref 44] (gm_h s g)) ∧ jr (eI s) (rec 1 g) (jm_cl jm_CD km_n (d + 4) 292 [.ref 44] (gm_h s g)) ∧ jr (eI s) (rec 2 g) (jm_cl jm_CD km_n (d + 4) 291 [.ref 44] (gm_h s g)))   : ∀ (fuel : Nat) (v3 : Int) (g5 : gm_T) (j4 : Option Value) (hj4 : jm_lg j4 = false), jr (fun (q : Int × gm_T) (c : Option jm_R) => ∃ (j7 : Option Value), jm_lg j7 = false ∧ c = jm_sup cd_292 (jm_cl jm_CD km_n (d + 4)) (53, [some (.ref 44), some (gv q.1), j7], [], gm_h s q.2)) (md_term_l5 rec   fuel v3 g5) (jm_sup cd_292 (jm_cl jm_CD km_n (d + 4)) (5, [some (.ref 44), some (gv v3), j4], [], gm_h s g5)) := by
  intro fuel
  induction fuel with
  | zero => intros; exact jr_none
  | succ fuel ih =>
    intro v3 g5 j4 hj4
    unfold md_term_l5
    exact (
      r_aload (pc2 := 6) rfl rfl rfl (
      r_getI (pc2 := 9) rfl rfl (sh_T hs rfl rfl) (
      jr_g fun h9 => r_ifne (pc2 := 12) (t := 53) rfl h9 rfl (fun _ =>
      r_aload (pc2 := 13) rfl rfl rfl (
      r_callVP (pc2 := 16) (args := [.ref 44]) (st2 := []) rfl rfl rfl rfl rfl rfl (rc_of (sh_T hs rfl rfl)) (rf_md_byteAt hs (d + 3) g5 ) fun v10 => (
      r_ic (x := 38) (pc2 := 18) rfl ic_38 rfl (
      jr_g fun h11 => r_cne (pc2 := 21) (t := 53) rfl h11 (rgk rfl) rfl (fun _ =>
      r_aload (pc2 := 22) rfl rfl rfl (
      r_dup (pc2 := 23) rfl rfl rfl (
      r_getI (pc2 := 26) rfl rfl (sh_T hs rfl rfl) (
      r_ic (x := 1) (pc2 := 27) rfl ic_1 rfl (
      r_iadd (pc2 := 28) rfl rfl (
      r_putI (pc2 := 31) rfl rfl (sh_T hs rfl rfl) fun g12 => (
      r_aload (pc2 := 32) rfl rfl rfl (
      r_callVI (pc2 := 35) (args := [.ref 44]) (st2 := []) rfl rfl rfl rfl rfl rfl (rc_of (sh_T hs rfl rfl)) (hrec g12).2.2 fun v13 g14 => (
      r_istore (L2 := [some (.ref 44), some (gv v3), some (gv v13)]) (pc2 := 36) rfl rfl rfl (
      r_iload (pc2 := 37) rfl rfl rfl (
      jr_g fun h15 => r_ifeq (pc2 := 40) (t := 48) rfl h15 rfl (fun _ =>
      r_ic (x := 0) (pc2 := 49) rfl ic_0 rfl (
      r_istore (L2 := [some (.ref 44), some (gv 0), some (gv v13)]) (pc2 := 50) rfl rfl rfl (
      r_goto (t := 5) rfl (
      ih 0 g14 _ rfl)))) (fun _ =>
      r_iload (pc2 := 41) rfl rfl rfl (
      jr_g fun h16 => r_ifeq (pc2 := 44) (t := 48) rfl h16 rfl (fun _ =>
      r_ic (x := 0) (pc2 := 49) rfl ic_0 rfl (
      r_istore (L2 := [some (.ref 44), some (gv 0), some (gv v13)]) (pc2 := 50) rfl rfl rfl (
      r_goto (t := 5) rfl (
      ih 0 g14 _ rfl)))) (fun _ =>
      r_ic (x := 1) (pc2 := 45) rfl ic_1 rfl (
      r_goto (t := 49) rfl (
      r_istore (L2 := [some (.ref 44), some (gv 1), some (gv v13)]) (pc2 := 50) rfl rfl rfl (
      r_goto (t := 5) rfl (
      ih 1 g14 _ rfl)))))))))))))))))) (fun _ =>
      jr_leaf ⟨_, hj4, rfl⟩))))) (fun _ =>
      jr_leaf ⟨_, hj4, rfl⟩))))
theorem rf_md_term_b {s : gm_S} {n m : Nat} (hs : gm_sh s n m) (d : Nat) (rec : Nat → gm_T → Option (Int × gm_T)) (hrec : ∀ (g : gm_T), jr (eI s) (rec 0 g) (jm_cl jm_CD km_n (d + 4) 293 [.ref 44] (gm_h s g)) ∧ jr (eI s) (rec 1 g) (jm_cl jm_CD km_n (d + 4) 292 [.ref 44] (gm_h s g)) ∧ jr (eI s) (rec 2 g) (jm_cl jm_CD km_n (d + 4) 291 [.ref 44] (gm_h s g))) (g : gm_T)   : jr (eI s) (md_term_b rec g ) (jm_cl jm_CD km_n (d + 5) 292 [.ref 44] (gm_h s g)) := by
  unfold md_term_b
  exact (r_ent (cd := cd_292) (n := 3) (L0 := [some (.ref 44), none, none]) rfl rfl rfl rfl (
      r_aload (pc2 := 1) rfl rfl rfl (
      r_callVI (pc2 := 4) (args := [.ref 44]) (st2 := []) rfl rfl rfl rfl rfl rfl (rc_of (sh_T hs rfl rfl)) (hrec g).2.2 fun v1 g2 => (
      r_istore (L2 := [some (.ref 44), some (gv v1), none]) (pc2 := 5) rfl rfl rfl (
      r_b2 (rl_md_term_l5 hs d rec hrec    fz v1 g2 _ rfl) (fun v17 g19 c h => match c, h with | _, ⟨j18, hj18, rfl⟩ => (
      r_iload (pc2 := 54) rfl rfl rfl (
      jr_g fun hz => r_zret rfl hz rfl))))))))
theorem rl_md_question_l5 {s : gm_S} {n m : Nat} (hs : gm_sh s n m) (d : Nat) (rec : Nat → gm_T → Option (Int × gm_T)) (hrec : ∀ (g : gm_T), jr (eI s) (rec 0 g) (jm_cl jm_CD km_n (d + 4) 293 [.ref 44] (gm_h s g)) ∧ jr (eI s) (rec 1 g) (jm_cl jm_CD km_n (d + 4) 292 [.ref 44] (gm_h s g)) ∧ jr (eI s) (rec 2 g) (jm_cl jm_CD km_n (d + 4) 291 [.ref 44] (gm_h s g)))   : ∀ (fuel : Nat) (v3 : Int) (g5 : gm_T) (j4 : Option Value) (hj4 : jm_lg j4 = false), jr (fun (q : Int × gm_T) (c : Option jm_R) => ∃ (j7 : Option Value), jm_lg j7 = false ∧ c = jm_sup cd_293 (jm_cl jm_CD km_n (d + 4)) (53, [some (.ref 44), some (gv q.1), j7], [], gm_h s q.2)) (md_question_l5 rec   fuel v3 g5) (jm_sup cd_293 (jm_cl jm_CD km_n (d + 4)) (5, [some (.ref 44), some (gv v3), j4], [], gm_h s g5)) := by
  intro fuel
  induction fuel with
  | zero => intros; exact jr_none
  | succ fuel ih =>
    intro v3 g5 j4 hj4
    unfold md_question_l5
    exact (
      r_aload (pc2 := 6) rfl rfl rfl (
      r_getI (pc2 := 9) rfl rfl (sh_T hs rfl rfl) (
      jr_g fun h9 => r_ifne (pc2 := 12) (t := 53) rfl h9 rfl (fun _ =>
      r_aload (pc2 := 13) rfl rfl rfl (
      r_callVP (pc2 := 16) (args := [.ref 44]) (st2 := []) rfl rfl rfl rfl rfl rfl (rc_of (sh_T hs rfl rfl)) (rf_md_byteAt hs (d + 3) g5 ) fun v10 => (
      r_ic (x := 124) (pc2 := 18) rfl ic_124 rfl (
      jr_g fun h11 => r_cne (pc2 := 21) (t := 53) rfl h11 (rgk rfl) rfl (fun _ =>
      r_aload (pc2 := 22) rfl rfl rfl (
      r_dup (pc2 := 23) rfl rfl rfl (
      r_getI (pc2 := 26) rfl rfl (sh_T hs rfl rfl) (
      r_ic (x := 1) (pc2 := 27) rfl ic_1 rfl (
      r_iadd (pc2 := 28) rfl rfl (
      r_putI (pc2 := 31) rfl rfl (sh_T hs rfl rfl) fun g12 => (
      r_aload (pc2 := 32) rfl rfl rfl (
      r_callVI (pc2 := 35) (args := [.ref 44]) (st2 := []) rfl rfl rfl rfl rfl rfl (rc_of (sh_T hs rfl rfl)) (hrec g12).2.1 fun v13 g14 => (
      r_istore (L2 := [some (.ref 44), some (gv v3), some (gv v13)]) (pc2 := 36) rfl rfl rfl (
      r_iload (pc2 := 37) rfl rfl rfl (
      jr_g fun h15 => r_ifne (pc2 := 40) (t := 44) rfl h15 rfl (fun _ =>
      r_iload (pc2 := 41) rfl rfl rfl (
      jr_g fun h16 => r_ifeq (pc2 := 44) (t := 48) rfl h16 rfl (fun _ =>
      r_ic (x := 0) (pc2 := 49) rfl ic_0 rfl (
      r_istore (L2 := [some (.ref 44), some (gv 0), some (gv v13)]) (pc2 := 50) rfl rfl rfl (
      r_goto (t := 5) rfl (
      ih 0 g14 _ rfl)))) (fun _ =>
      r_ic (x := 1) (pc2 := 45) rfl ic_1 rfl (
      r_goto (t := 49) rfl (
      r_istore (L2 := [some (.ref 44), some (gv 1), some (gv v13)]) (pc2 := 50) rfl rfl rfl (
      r_goto (t := 5) rfl (
      ih 1 g14 _ rfl))))))) (fun _ =>
      r_ic (x := 1) (pc2 := 45) rfl ic_1 rfl (
      r_goto (t := 49) rfl (
      r_istore (L2 := [some (.ref 44), some (gv 1), some (gv v13)]) (pc2 := 50) rfl rfl rfl (
      r_goto (t := 5) rfl (
      ih 1 g14 _ rfl)))))))))))))))) (fun _ =>
      jr_leaf ⟨_, hj4, rfl⟩))))) (fun _ =>
      jr_leaf ⟨_, hj4, rfl⟩))))
theorem rf_md_question_b {s : gm_S} {n m : Nat} (hs : gm_sh s n m) (d : Nat) (rec : Nat → gm_T → Option (Int × gm_T)) (hrec : ∀ (g : gm_T), jr (eI s) (rec 0 g) (jm_cl jm_CD km_n (d + 4) 293 [.ref 44] (gm_h s g)) ∧ jr (eI s) (rec 1 g) (jm_cl jm_CD km_n (d + 4) 292 [.ref 44] (gm_h s g)) ∧ jr (eI s) (rec 2 g) (jm_cl jm_CD km_n (d + 4) 291 [.ref 44] (gm_h s g))) (g : gm_T)   : jr (eI s) (md_question_b rec g ) (jm_cl jm_CD km_n (d + 5) 293 [.ref 44] (gm_h s g)) := by
  unfold md_question_b
  exact (r_ent (cd := cd_293) (n := 3) (L0 := [some (.ref 44), none, none]) rfl rfl rfl rfl (
      r_aload (pc2 := 1) rfl rfl rfl (
      r_callVI (pc2 := 4) (args := [.ref 44]) (st2 := []) rfl rfl rfl rfl rfl rfl (rc_of (sh_T hs rfl rfl)) (hrec g).2.1 fun v1 g2 => (
      r_istore (L2 := [some (.ref 44), some (gv v1), none]) (pc2 := 5) rfl rfl rfl (
      r_b2 (rl_md_question_l5 hs d rec hrec    fz v1 g2 _ rfl) (fun v17 g19 c h => match c, h with | _, ⟨j18, hj18, rfl⟩ => (
      r_iload (pc2 := 54) rfl rfl rfl (
      jr_g fun hz => r_zret rfl hz rfl))))))))
theorem rf_md_factor_b {s : gm_S} {n m : Nat} (hs : gm_sh s n m) (d : Nat) (rec : Nat → gm_T → Option (Int × gm_T)) (hrec : ∀ (g : gm_T), jr (eI s) (rec 0 g) (jm_cl jm_CD km_n (d + 4) 293 [.ref 44] (gm_h s g)) ∧ jr (eI s) (rec 1 g) (jm_cl jm_CD km_n (d + 4) 292 [.ref 44] (gm_h s g)) ∧ jr (eI s) (rec 2 g) (jm_cl jm_CD km_n (d + 4) 291 [.ref 44] (gm_h s g))) (g : gm_T)   : jr (eI s) (md_factor_b rec g ) (jm_cl jm_CD km_n (d + 5) 291 [.ref 44] (gm_h s g)) := by
  unfold md_factor_b
  exact (r_ent (cd := cd_291) (n := 2) (L0 := [some (.ref 44), none]) rfl rfl rfl rfl (
      r_aload (pc2 := 1) rfl rfl rfl (
      r_getI (pc2 := 4) rfl rfl (sh_T hs rfl rfl) (
      jr_g fun h1 => r_ifne (pc2 := 7) (t := 39) rfl h1 rfl (fun _ =>
      r_aload (pc2 := 8) rfl rfl rfl (
      r_callVP (pc2 := 11) (args := [.ref 44]) (st2 := []) rfl rfl rfl rfl rfl rfl (rc_of (sh_T hs rfl rfl)) (rf_md_byteAt hs (d + 3) g ) fun v2 => (
      r_ic (x := 33) (pc2 := 13) rfl ic_33 rfl (
      jr_g fun h3 => r_cne (pc2 := 16) (t := 39) rfl h3 (rgk rfl) rfl (fun _ =>
      r_aload (pc2 := 17) rfl rfl rfl (
      r_dup (pc2 := 18) rfl rfl rfl (
      r_getI (pc2 := 21) rfl rfl (sh_T hs rfl rfl) (
      r_ic (x := 1) (pc2 := 22) rfl ic_1 rfl (
      r_iadd (pc2 := 23) rfl rfl (
      r_putI (pc2 := 26) rfl rfl (sh_T hs rfl rfl) fun g4 => (
      r_aload (pc2 := 27) rfl rfl rfl (
      r_callVI (pc2 := 30) (args := [.ref 44]) (st2 := []) rfl rfl rfl rfl rfl rfl (rc_of (sh_T hs rfl rfl)) (hrec g4).2.2 fun v5 g6 => (
      jr_g fun h7 => r_ifne (pc2 := 33) (t := 37) rfl h7 rfl (fun _ =>
      r_ic (x := 1) (pc2 := 34) rfl ic_1 rfl (
      r_goto (t := 38) rfl (
      r_zret rfl (by decide) rfl))) (fun _ =>
      r_ic (x := 0) (pc2 := 38) rfl ic_0 rfl (
      r_zret rfl (by decide) rfl))))))))))) (fun _ =>
      r_aload (pc2 := 40) rfl rfl rfl (
      r_getI (pc2 := 43) rfl rfl (sh_T hs rfl rfl) (
      r_ifne (pc2 := 46) (t := 78) rfl h1 rfl (fun _ =>
      r_aload (pc2 := 47) rfl rfl rfl (
      r_callVP (pc2 := 50) (args := [.ref 44]) (st2 := []) rfl rfl rfl rfl rfl rfl (rc_of (sh_T hs rfl rfl)) (rf_md_byteAt hs (d + 3) g ) fun v8 => (
      r_ic (x := 40) (pc2 := 52) rfl ic_40 rfl (
      jr_g fun h9 => r_cne (pc2 := 55) (t := 78) rfl h9 (rgk rfl) rfl (fun _ =>
      r_aload (pc2 := 56) rfl rfl rfl (
      r_dup (pc2 := 57) rfl rfl rfl (
      r_getI (pc2 := 60) rfl rfl (sh_T hs rfl rfl) (
      r_ic (x := 1) (pc2 := 61) rfl ic_1 rfl (
      r_iadd (pc2 := 62) rfl rfl (
      r_putI (pc2 := 65) rfl rfl (sh_T hs rfl rfl) fun g10 => (
      r_aload (pc2 := 66) rfl rfl rfl (
      r_callVI (pc2 := 69) (args := [.ref 44]) (st2 := []) rfl rfl rfl rfl rfl rfl (rc_of (sh_T hs rfl rfl)) (hrec g10).1 fun v11 g12 => (
      r_istore (L2 := [some (.ref 44), some (gv v11)]) (pc2 := 70) rfl rfl rfl (
      r_aload (pc2 := 71) rfl rfl rfl (
      r_ic (x := 41) (pc2 := 73) rfl ic_41 rfl (
      r_callVV (pc2 := 76) (args := [.ref 44, gv 41]) (st2 := []) rfl rfl rfl rfl rfl rfl (rc_of (sh_T hs rfl rfl)) (rf_md_must hs (d + 2) g12 41 ) fun g13 => (
      r_iload (pc2 := 77) rfl rfl rfl (
      jr_g fun hz => r_zret rfl hz rfl)))))))))))))) (fun _ =>
      r_aload (pc2 := 79) rfl rfl rfl (
      r_callVI (pc2 := 82) (args := [.ref 44]) (st2 := []) rfl rfl rfl rfl rfl rfl (rc_of (sh_T hs rfl rfl)) (rf_md_test hs d g ) fun v14 g15 => (
      jr_g fun hz => r_zret rfl hz rfl))))))) (fun _ =>
      r_aload (pc2 := 79) rfl rfl rfl (
      r_callVI (pc2 := 82) (args := [.ref 44]) (st2 := []) rfl rfl rfl rfl rfl rfl (rc_of (sh_T hs rfl rfl)) (rf_md_test hs d g ) fun v16 g17 => (
      jr_g fun hz => r_zret rfl hz rfl)))))))))) (fun _ =>
      r_aload (pc2 := 40) rfl rfl rfl (
      r_getI (pc2 := 43) rfl rfl (sh_T hs rfl rfl) (
      r_ifne (pc2 := 46) (t := 78) rfl h1 rfl (fun _ =>
      r_aload (pc2 := 47) rfl rfl rfl (
      r_callVP (pc2 := 50) (args := [.ref 44]) (st2 := []) rfl rfl rfl rfl rfl rfl (rc_of (sh_T hs rfl rfl)) (rf_md_byteAt hs (d + 3) g ) fun v18 => (
      r_ic (x := 40) (pc2 := 52) rfl ic_40 rfl (
      jr_g fun h19 => r_cne (pc2 := 55) (t := 78) rfl h19 (rgk rfl) rfl (fun _ =>
      r_aload (pc2 := 56) rfl rfl rfl (
      r_dup (pc2 := 57) rfl rfl rfl (
      r_getI (pc2 := 60) rfl rfl (sh_T hs rfl rfl) (
      r_ic (x := 1) (pc2 := 61) rfl ic_1 rfl (
      r_iadd (pc2 := 62) rfl rfl (
      r_putI (pc2 := 65) rfl rfl (sh_T hs rfl rfl) fun g20 => (
      r_aload (pc2 := 66) rfl rfl rfl (
      r_callVI (pc2 := 69) (args := [.ref 44]) (st2 := []) rfl rfl rfl rfl rfl rfl (rc_of (sh_T hs rfl rfl)) (hrec g20).1 fun v21 g22 => (
      r_istore (L2 := [some (.ref 44), some (gv v21)]) (pc2 := 70) rfl rfl rfl (
      r_aload (pc2 := 71) rfl rfl rfl (
      r_ic (x := 41) (pc2 := 73) rfl ic_41 rfl (
      r_callVV (pc2 := 76) (args := [.ref 44, gv 41]) (st2 := []) rfl rfl rfl rfl rfl rfl (rc_of (sh_T hs rfl rfl)) (rf_md_must hs (d + 2) g22 41 ) fun g23 => (
      r_iload (pc2 := 77) rfl rfl rfl (
      jr_g fun hz => r_zret rfl hz rfl)))))))))))))) (fun _ =>
      r_aload (pc2 := 79) rfl rfl rfl (
      r_callVI (pc2 := 82) (args := [.ref 44]) (st2 := []) rfl rfl rfl rfl rfl rfl (rc_of (sh_T hs rfl rfl)) (rf_md_test hs d g ) fun v24 g25 => (
      jr_g fun hz => r_zret rfl hz rfl))))))) (fun _ =>
      r_aload (pc2 := 79) rfl rfl rfl (
      r_callVI (pc2 := 82) (args := [.ref 44]) (st2 := []) rfl rfl rfl rfl rfl rfl (rc_of (sh_T hs rfl rfl)) (rf_md_test hs d g ) fun v26 g27 => (
      jr_g fun hz => r_zret rfl hz rfl))))))))))
theorem rf_md_qtf {s : gm_S} {n m : Nat} (hs : gm_sh s n m) : ∀ (f d : Nat) (g : gm_T), jr (eI s) (md_qtf f 0 g) (jm_cl jm_CD km_n (d + f + 4) 293 [.ref 44] (gm_h s g)) ∧ jr (eI s) (md_qtf f 1 g) (jm_cl jm_CD km_n (d + f + 4) 292 [.ref 44] (gm_h s g)) ∧ jr (eI s) (md_qtf f 2 g) (jm_cl jm_CD km_n (d + f + 4) 291 [.ref 44] (gm_h s g)) := by
  intro f
  induction f with
  | zero => intro d g; exact ⟨jr_none, jr_none, jr_none⟩
  | succ f ih =>
    intro d g
    have h1 : d + (f + 1) + 4 = d + f + 5 := by omega
    rw [h1]
    exact ⟨rf_md_question_b hs (d + f) (md_qtf f) (ih d) g, rf_md_term_b hs (d + f) (md_qtf f) (ih d) g, rf_md_factor_b hs (d + f) (md_qtf f) (ih d) g⟩
theorem rf_md_asks {s : gm_S} {n m : Nat} (hs : gm_sh s n m) (d : Nat)  (g : gm_T) (a1 : Int)  : jr (eI s) (md_asks g a1) (jm_cl jm_CD km_n (d + 805) 294 [.ref 44, gv a1] (gm_h s g)) := by
  unfold md_asks
  exact (r_ent (cd := cd_294) (n := 2) (L0 := [some (.ref 44), some (gv a1)]) rfl rfl rfl rfl (
      r_aload (pc2 := 1) rfl rfl rfl (
      r_iload (pc2 := 2) rfl rfl rfl (
      r_putI (pc2 := 5) rfl rfl (sh_T hs rfl rfl) fun g1 => (
      r_aload (pc2 := 6) rfl rfl rfl (
      r_ic (x := 0) (pc2 := 7) rfl ic_0 rfl (
      r_putI (pc2 := 10) rfl rfl (sh_T hs rfl rfl) fun g2 => (
      r_aload (pc2 := 11) rfl rfl rfl (
      r_ic (x := 0) (pc2 := 12) rfl ic_0 rfl (
      r_putZ (pc2 := 15) rfl rfl (sh_T hs rfl rfl) (by decide) fun g3 => (
      r_aload (pc2 := 16) rfl rfl rfl (
      r_callVI (pc2 := 19) (args := [.ref 44]) (st2 := []) rfl rfl rfl rfl rfl rfl (rc_of (sh_T hs rfl rfl)) (rf_md_qtf hs 800 d g3).1 fun v4 g5 => (
      jr_g fun hz => r_zret rfl hz rfl)))))))))))))
theorem rl_md_ask_l63 {s : gm_S} {n m : Nat} (hs : gm_sh s n m) (d : Nat)    : ∀ (fuel : Nat) (v11 : Int) (g12 : gm_T) (j10 : Option Value) (hj10 : jm_lg j10 = false), jr (fun (q : gm_T) (c : Option jm_R) => ∃ (j13 : Option Value), jm_lg j13 = false ∧ c = jm_sup cd_295 (jm_cl jm_CD km_n (d + 805)) (108, [some (.ref 44), j10, j13], [], gm_h s q)) (md_ask_l63   fuel v11 g12) (jm_sup cd_295 (jm_cl jm_CD km_n (d + 805)) (63, [some (.ref 44), j10, some (gv v11)], [], gm_h s g12)) := by
  intro fuel
  induction fuel with
  | zero => intros; exact jr_none
  | succ fuel ih =>
    intro v11 g12 j10 hj10
    unfold md_ask_l63
    exact (
      r_iload (pc2 := 64) rfl rfl rfl (
      r_aload (pc2 := 65) rfl rfl rfl (
      r_getI (pc2 := 68) rfl rfl (sh_T hs rfl rfl) (
      jr_g fun h15 => r_cge (pc2 := 71) (t := 108) rfl h15.1 h15.2 rfl (fun _ =>
      r_aload (pc2 := 72) rfl rfl rfl (
      r_getA (pc2 := 75) rfl rfl (sh_T hs rfl rfl) (sh_A hs rfl rfl) (
      r_iload (pc2 := 76) rfl rfl rfl (
      r_aload (pc2 := 77) rfl rfl rfl (
      r_iload (pc2 := 78) rfl rfl rfl (
      r_callVI (pc2 := 81) (args := [.ref 44, gv v11]) (st2 := [gv v11, .ref 102]) rfl rfl rfl rfl rfl rfl (rc_of (sh_T hs rfl rfl)) (rf_md_onWall hs (d + 800) g12 v11 ) fun v16 g17 => (
      jr_g fun h19 => jr_g fun hz => r_zast (len := 30) (pc2 := 82) rfl rfl (sh_T hs rfl rfl) (sh_L hs rfl rfl) rfl h19 hz fun g18 => (
      r_aload (pc2 := 83) rfl rfl rfl (
      r_getA (pc2 := 86) rfl rfl (sh_T hs rfl rfl) (sh_A hs rfl rfl) (
      r_iload (pc2 := 87) rfl rfl rfl (
      r_aload (pc2 := 88) rfl rfl rfl (
      r_iload (pc2 := 89) rfl rfl rfl (
      r_callVI (pc2 := 92) (args := [.ref 44, gv v11]) (st2 := [gv v11, .ref 101]) rfl rfl rfl rfl rfl rfl (rc_of (sh_T hs rfl rfl)) (rf_md_provedFrom hs (d + 802) g18 v11 ) fun v20 g21 => (
      r_ic (x := -1) (pc2 := 93) rfl ic_m1 rfl (
      jr_g fun h22 => r_ceq (pc2 := 96) (t := 100) rfl h22 (rgk rfl) rfl (fun _ =>
      r_ic (x := 0) (pc2 := 101) rfl ic_0 rfl (
      r_zast (len := 30) (pc2 := 102) rfl rfl (sh_T hs rfl rfl) (sh_L hs rfl rfl) rfl h19 (by decide) fun g23 => (
      r_iinc (kk := 1) (L2 := [some (.ref 44), j10, some (gv (v11 + 1))]) (pc2 := 105) rfl ic_1 rfl rfl (jm_st1j hj10 rfl ⟨rfl, rfl⟩) (
      r_goto (t := 63) rfl (
      ih (v11 + 1) g23 _ hj10))))) (fun _ =>
      r_ic (x := 1) (pc2 := 97) rfl ic_1 rfl (
      r_goto (t := 101) rfl (
      r_zast (len := 30) (pc2 := 102) rfl rfl (sh_T hs rfl rfl) (sh_L hs rfl rfl) rfl h19 (by decide) fun g25 => (
      r_iinc (kk := 1) (L2 := [some (.ref 44), j10, some (gv (v11 + 1))]) (pc2 := 105) rfl ic_1 rfl rfl (jm_st1j hj10 rfl ⟨rfl, rfl⟩) (
      r_goto (t := 63) rfl (
      ih (v11 + 1) g25 _ hj10))))))))))))))))))))) (fun _ =>
      jr_leaf ⟨_, rfl, rfl⟩)))))
theorem rl_md_ask_l115 {s : gm_S} {n m : Nat} (hs : gm_sh s n m) (d : Nat)    : ∀ (fuel : Nat) (v32 : Int) (g33 : gm_T) (j31 : Option Value) (hj31 : jm_lg j31 = false), jr (fun (q : gm_T) (c : Option jm_R) => ∃ (j34 : Option Value), jm_lg j34 = false ∧ c = jm_sup cd_295 (jm_cl jm_CD km_n (d + 805)) (157, [some (.ref 44), j31, j34], [], gm_h s q)) (md_ask_l115   fuel v32 g33) (jm_sup cd_295 (jm_cl jm_CD km_n (d + 805)) (115, [some (.ref 44), j31, some (gv v32)], [], gm_h s g33)) := by
  intro fuel
  induction fuel with
  | zero => intros; exact jr_none
  | succ fuel ih =>
    intro v32 g33 j31 hj31
    unfold md_ask_l115
    exact (
      r_iload (pc2 := 116) rfl rfl rfl (
      r_aload (pc2 := 117) rfl rfl rfl (
      r_getI (pc2 := 120) rfl rfl (sh_T hs rfl rfl) (
      jr_g fun h36 => r_cge (pc2 := 123) (t := 157) rfl h36.1 h36.2 rfl (fun _ =>
      r_aload (pc2 := 124) rfl rfl rfl (
      r_iload (pc2 := 125) rfl rfl rfl (
      r_callVI (pc2 := 128) (args := [.ref 44, gv v32]) (st2 := []) rfl rfl rfl rfl rfl rfl (rc_of (sh_T hs rfl rfl)) (rf_md_asks hs d g33 v32 ) fun v37 g38 => (
      jr_g fun h39 => r_ifeq (pc2 := 131) (t := 151) rfl h39 rfl (fun _ =>
      r_iinc (kk := 1) (L2 := [some (.ref 44), j31, some (gv (v32 + 1))]) (pc2 := 154) rfl ic_1 rfl rfl (jm_st1j hj31 rfl ⟨rfl, rfl⟩) (
      r_goto (t := 115) rfl (
      ih (v32 + 1) g38 _ hj31))) (fun _ =>
      r_aload (pc2 := 132) rfl rfl rfl (
      r_getA (pc2 := 135) rfl rfl (sh_T hs rfl rfl) (sh_A hs rfl rfl) (
      r_aload (pc2 := 136) rfl rfl rfl (
      r_getI (pc2 := 139) rfl rfl (sh_T hs rfl rfl) (
      r_iload (pc2 := 140) rfl rfl rfl (
      jr_g fun h42 => r_iast (len := 30) (pc2 := 141) rfl rfl (sh_T hs rfl rfl) (sh_L hs rfl rfl) rfl h42 fun g41 => (
      r_aload (pc2 := 142) rfl rfl rfl (
      r_dup (pc2 := 143) rfl rfl rfl (
      r_getI (pc2 := 146) rfl rfl (sh_T hs rfl rfl) (
      r_ic (x := 1) (pc2 := 147) rfl ic_1 rfl (
      r_iadd (pc2 := 148) rfl rfl (
      r_putI (pc2 := 151) rfl rfl (sh_T hs rfl rfl) fun g43 => (
      r_iinc (kk := 1) (L2 := [some (.ref 44), j31, some (gv (v32 + 1))]) (pc2 := 154) rfl ic_1 rfl rfl (jm_st1j hj31 rfl ⟨rfl, rfl⟩) (
      r_goto (t := 115) rfl (
      ih (v32 + 1) g43 _ hj31))))))))))))))))))) (fun _ =>
      jr_leaf ⟨_, rfl, rfl⟩)))))
theorem rf_md_ask {s : gm_S} {n m : Nat} (hs : gm_sh s n m) (d : Nat)  (g : gm_T)   : jr (eI s) (md_ask g ) (jm_cl jm_CD km_n (d + 806) 295 [.ref 44] (gm_h s g)) := by
  unfold md_ask
  exact (r_ent (cd := cd_295) (n := 3) (L0 := [some (.ref 44), none, none]) rfl rfl rfl rfl (
      r_aload (pc2 := 1) rfl rfl rfl (
      r_ic (x := -1) (pc2 := 2) rfl ic_m1 rfl (
      r_callVI (pc2 := 5) (args := [.ref 44, gv (-1)]) (st2 := []) rfl rfl rfl rfl rfl rfl (rc_of (sh_T hs rfl rfl)) (rf_md_asks hs d g (-1) ) fun v1 g2 => (
      r_istore (L2 := [some (.ref 44), some (gv v1), none]) (pc2 := 6) rfl rfl rfl (
      r_aload (pc2 := 7) rfl rfl rfl (
      r_aload (pc2 := 8) rfl rfl rfl (
      r_getI (pc2 := 11) rfl rfl (sh_T hs rfl rfl) (
      r_b1 (R1 := (fun (q : Int) (c : Option jm_R) => c = jm_sup cd_295 (jm_cl jm_CD km_n (d + 805)) (30, [some (.ref 44), some (gv v1), none], [gv q, .ref 44], gm_h s g2))) (
      jr_g fun h4 => r_ifne (pc2 := 14) (t := 25) rfl h4 rfl (fun _ =>
      r_aload (pc2 := 15) rfl rfl rfl (
      r_getI (pc2 := 18) rfl rfl (sh_T hs rfl rfl) (
      r_aload (pc2 := 19) rfl rfl rfl (
      r_getI (pc2 := 22) rfl rfl (sh_T hs rfl rfl) (
      jr_g fun h5 => r_ceq (pc2 := 25) (t := 29) rfl h5.1 h5.2 rfl (fun _ =>
      r_ic (x := 0) (pc2 := 30) rfl ic_0 rfl (
      jr_leaf rfl)) (fun _ =>
      r_ic (x := 1) (pc2 := 26) rfl ic_1 rfl (
      r_goto (t := 30) rfl (
      jr_leaf rfl)))))))) (fun _ =>
      r_ic (x := 1) (pc2 := 26) rfl ic_1 rfl (
      r_goto (t := 30) rfl (
      jr_leaf rfl)))) (fun v3 c h => match c, h with | _, rfl => (
      jr_g fun hz => r_putZ (pc2 := 33) rfl rfl (sh_T hs rfl rfl) hz fun g6 => (
      r_aload (pc2 := 34) rfl rfl rfl (
      r_getI (pc2 := 37) rfl rfl (sh_T hs rfl rfl) (
      jr_g fun h7 => r_ifeq (pc2 := 40) (t := 53) rfl h7 rfl (fun _ =>
      r_aload (pc2 := 54) rfl rfl rfl (
      r_callVV (pc2 := 57) (args := [.ref 44]) (st2 := []) rfl rfl rfl rfl rfl rfl (rc_of (sh_T hs rfl rfl)) (rf_md_groups hs (d + 799) g6 ) fun g8 => (
      r_aload (pc2 := 58) rfl rfl rfl (
      r_callVV (pc2 := 61) (args := [.ref 44]) (st2 := []) rfl rfl rfl rfl rfl rfl (rc_of (sh_T hs rfl rfl)) (rf_md_judges hs (d + 798) g8 ) fun g9 => (
      r_ic (x := 0) (pc2 := 62) rfl ic_0 rfl (
      r_istore (L2 := [some (.ref 44), some (gv v1), some (gv 0)]) (pc2 := 63) rfl rfl rfl (
      r_b1 (rl_md_ask_l63 hs d     fz 0 g9 _ rfl) (fun g29 c h => match c, h with | _, ⟨j28, hj28, rfl⟩ => (
      r_aload (pc2 := 109) rfl rfl rfl (
      r_ic (x := 0) (pc2 := 110) rfl ic_0 rfl (
      r_putI (pc2 := 113) rfl rfl (sh_T hs rfl rfl) fun g30 => (
      r_ic (x := 0) (pc2 := 114) rfl ic_0 rfl (
      r_istore (L2 := [some (.ref 44), some (gv v1), some (gv 0)]) (pc2 := 115) rfl rfl rfl (
      r_b1 (rl_md_ask_l115 hs d     fz 0 g30 _ rfl) (fun g47 c h => match c, h with | _, ⟨j46, hj46, rfl⟩ => (
      r_aload (pc2 := 158) rfl rfl rfl (
      r_ic (x := 0) (pc2 := 159) rfl ic_0 rfl (
      r_putI (pc2 := 162) rfl rfl (sh_T hs rfl rfl) fun g48 => (
      r_aload (pc2 := 163) rfl rfl rfl (
      r_getI (pc2 := 166) rfl rfl (sh_T hs rfl rfl) (
      r_iret rfl rfl))))))))))))))))))))) (fun _ =>
      r_aload (pc2 := 41) rfl rfl rfl (
      r_ic (x := 0) (pc2 := 42) rfl ic_0 rfl (
      r_putI (pc2 := 45) rfl rfl (sh_T hs rfl rfl) fun g49 => (
      r_ic (x := -10) (pc2 := 47) rfl ic_m10 rfl (
      r_aload (pc2 := 48) rfl rfl rfl (
      r_getI (pc2 := 51) rfl rfl (sh_T hs rfl rfl) (
      r_isub (pc2 := 52) rfl rfl (
      r_iret rfl rfl))))))))))))))))))))))
theorem rf_md_asked {s : gm_S} {n m : Nat} (hs : gm_sh s n m) (d : Nat)  (g : gm_T) (a1 : Int)  : jr (pI s g) (md_asked g a1) (jm_cl jm_CD km_n (d + 2) 296 [.ref 44, gv a1] (gm_h s g)) := by
  unfold md_asked
  exact (r_ent (cd := cd_296) (n := 2) (L0 := [some (.ref 44), some (gv a1)]) rfl rfl rfl rfl (
      r_iload (pc2 := 1) rfl rfl rfl (
      r_ic (x := 0) (pc2 := 2) rfl ic_0 rfl (
      r_aload (pc2 := 3) rfl rfl rfl (
      r_getI (pc2 := 6) rfl rfl (sh_T hs rfl rfl) (
      r_ic (x := 1) (pc2 := 7) rfl ic_1 rfl (
      r_isub (pc2 := 8) rfl rfl (
      r_callSP (pc2 := 11) (args := [gv a1, gv 0, gv ((gm_I g 44 84) - 1)]) (st2 := []) rfl rfl rfl rfl rfl rfl (rf_md_in hs d g a1 0 ((gm_I g 44 84) - 1) ) fun v1 => (
      jr_g fun h2 => r_ifeq (pc2 := 14) (t := 23) rfl h2 rfl (fun _ =>
      r_ic (x := -1) (pc2 := 24) rfl ic_m1 rfl (
      r_iret rfl rfl)) (fun _ =>
      r_aload (pc2 := 15) rfl rfl rfl (
      r_getA (pc2 := 18) rfl rfl (sh_T hs rfl rfl) (sh_A hs rfl rfl) (
      r_iload (pc2 := 19) rfl rfl rfl (
      jr_g fun h3 => r_iald (len := 30) (pc2 := 20) rfl rfl (sh_T hs rfl rfl) (sh_L hs rfl rfl) rfl h3 (
      r_goto (t := 24) rfl (
      r_iret rfl rfl)))))))))))))))
theorem rf_md_enter {s : gm_S} {n m : Nat} (hs : gm_sh s n m) (d : Nat)  (g : gm_T) (a1 : Int) (a2 : Int) (a3 : Int)  : jr (eI s) (md_enter g a1 a2 a3) (jm_cl jm_CD km_n (d + 3) 297 [.ref 44, gv a1, gv a2, gv a3] (gm_h s g)) := by
  unfold md_enter
  exact (r_ent (cd := cd_297) (n := 4) (L0 := [some (.ref 44), some (gv a1), some (gv a2), some (gv a3)]) rfl rfl rfl rfl (
      r_aload (pc2 := 1) rfl rfl rfl (
      r_iload (pc2 := 2) rfl rfl rfl (
      r_callVP (pc2 := 5) (args := [.ref 44, gv a1]) (st2 := []) rfl rfl rfl rfl rfl rfl (rc_of (sh_T hs rfl rfl)) (rf_md_isBit hs d g a1 ) fun v1 => (
      jr_g fun h2 => r_ifeq (pc2 := 8) (t := 18) rfl h2 rfl (fun _ =>
      r_ic (x := -1) (pc2 := 19) rfl ic_m1 rfl (
      r_iret rfl rfl)) (fun _ =>
      r_iload (pc2 := 9) rfl rfl rfl (
      r_ic (x := -1) (pc2 := 10) rfl ic_m1 rfl (
      r_ic (x := 9) (pc2 := 12) rfl ic_9 rfl (
      r_callSP (pc2 := 15) (args := [gv a2, gv (-1), gv 9]) (st2 := []) rfl rfl rfl rfl rfl rfl (rf_md_in hs (d + 1) g a2 (-1) 9 ) fun v3 => (
      jr_g fun h4 => r_ifne (pc2 := 18) (t := 20) rfl h4 rfl (fun _ =>
      r_ic (x := -1) (pc2 := 19) rfl ic_m1 rfl (
      r_iret rfl rfl)) (fun _ =>
      r_iload (pc2 := 21) rfl rfl rfl (
      r_ic (x := 0) (pc2 := 22) rfl ic_0 rfl (
      r_ic (x := 999) (pc2 := 25) rfl ic_999 rfl (
      r_callSP (pc2 := 28) (args := [gv a3, gv 0, gv 999]) (st2 := []) rfl rfl rfl rfl rfl rfl (rf_md_in hs (d + 1) g a3 0 999 ) fun v5 => (
      jr_g fun h6 => r_ifne (pc2 := 31) (t := 34) rfl h6 rfl (fun _ =>
      r_ic (x := -2) (pc2 := 33) rfl ic_m2 rfl (
      r_iret rfl rfl)) (fun _ =>
      r_aload (pc2 := 35) rfl rfl rfl (
      r_getI (pc2 := 38) rfl rfl (sh_T hs rfl rfl) (
      r_ic (x := 100) (pc2 := 40) rfl ic_100 rfl (
      jr_g fun h7 => r_cne (pc2 := 43) (t := 46) rfl h7 (rgk rfl) rfl (fun _ =>
      r_ic (x := -4) (pc2 := 45) rfl ic_m4 rfl (
      r_iret rfl rfl)) (fun _ =>
      r_aload (pc2 := 47) rfl rfl rfl (
      r_getA (pc2 := 50) rfl rfl (sh_T hs rfl rfl) (sh_A hs rfl rfl) (
      r_aload (pc2 := 51) rfl rfl rfl (
      r_getI (pc2 := 54) rfl rfl (sh_T hs rfl rfl) (
      r_iload (pc2 := 55) rfl rfl rfl (
      jr_g fun h9 => r_iast (len := 100) (pc2 := 56) rfl rfl (sh_T hs rfl rfl) (sh_L hs rfl rfl) rfl h9 fun g8 => (
      r_aload (pc2 := 57) rfl rfl rfl (
      r_getA (pc2 := 60) rfl rfl (sh_T hs rfl rfl) (sh_A hs rfl rfl) (
      r_aload (pc2 := 61) rfl rfl rfl (
      r_getI (pc2 := 64) rfl rfl (sh_T hs rfl rfl) (
      r_iload (pc2 := 65) rfl rfl rfl (
      jr_g fun h11 => r_iast (len := 100) (pc2 := 66) rfl rfl (sh_T hs rfl rfl) (sh_L hs rfl rfl) rfl h11 fun g10 => (
      r_aload (pc2 := 67) rfl rfl rfl (
      r_getA (pc2 := 70) rfl rfl (sh_T hs rfl rfl) (sh_A hs rfl rfl) (
      r_aload (pc2 := 71) rfl rfl rfl (
      r_getI (pc2 := 74) rfl rfl (sh_T hs rfl rfl) (
      r_iload (pc2 := 75) rfl rfl rfl (
      jr_g fun h13 => r_iast (len := 100) (pc2 := 76) rfl rfl (sh_T hs rfl rfl) (sh_L hs rfl rfl) rfl h13 fun g12 => (
      r_aload (pc2 := 77) rfl rfl rfl (
      r_dup (pc2 := 78) rfl rfl rfl (
      r_getI (pc2 := 81) rfl rfl (sh_T hs rfl rfl) (
      r_ic (x := 1) (pc2 := 82) rfl ic_1 rfl (
      r_iadd (pc2 := 83) rfl rfl (
      r_putI (pc2 := 86) rfl rfl (sh_T hs rfl rfl) fun g14 => (
      r_aload (pc2 := 87) rfl rfl rfl (
      r_getI (pc2 := 90) rfl rfl (sh_T hs rfl rfl) (
      r_iret rfl rfl))))))))))))))))))))))))))))))))))))))))))))))
theorem rf_md_box {s : gm_S} {n m : Nat} (hs : gm_sh s n m) (d : Nat)  (g : gm_T) (a1 : Int) (a2 : Int) (a3 : Int)  : jr (pI s g) (md_box g a1 a2 a3) (jm_cl jm_CD km_n (d + 3) 299 [.ref 44, gv a1, gv a2, gv a3] (gm_h s g)) := by
  unfold md_box
  exact (r_ent (cd := cd_299) (n := 5) (L0 := [some (.ref 44), some (gv a1), some (gv a2), some (gv a3), none]) rfl rfl rfl rfl (
      r_aload (pc2 := 1) rfl rfl rfl (
      r_iload (pc2 := 2) rfl rfl rfl (
      r_callVP (pc2 := 5) (args := [.ref 44, gv a1]) (st2 := []) rfl rfl rfl rfl rfl rfl (rc_of (sh_T hs rfl rfl)) (rf_md_isBit hs d g a1 ) fun v1 => (
      jr_g fun h2 => r_ifeq (pc2 := 8) (t := 20) rfl h2 rfl (fun _ =>
      r_ic (x := -1) (pc2 := 21) rfl ic_m1 rfl (
      r_iret rfl rfl)) (fun _ =>
      r_iload (pc2 := 9) rfl rfl rfl (
      r_ic (x := 0) (pc2 := 10) rfl ic_0 rfl (
      r_aload (pc2 := 11) rfl rfl rfl (
      r_getI (pc2 := 14) rfl rfl (sh_T hs rfl rfl) (
      r_callSP (pc2 := 17) (args := [gv a3, gv 0, gv (gm_I g 44 87)]) (st2 := []) rfl rfl rfl rfl rfl rfl (rf_md_in hs (d + 1) g a3 0 (gm_I g 44 87) ) fun v3 => (
      jr_g fun h4 => r_ifne (pc2 := 20) (t := 22) rfl h4 rfl (fun _ =>
      r_ic (x := -1) (pc2 := 21) rfl ic_m1 rfl (
      r_iret rfl rfl)) (fun _ =>
      r_iload (pc2 := 23) rfl rfl rfl (
      r_ic (x := 0) (pc2 := 24) rfl ic_0 rfl (
      r_ic (x := 999) (pc2 := 27) rfl ic_999 rfl (
      r_callSP (pc2 := 30) (args := [gv a2, gv 0, gv 999]) (st2 := []) rfl rfl rfl rfl rfl rfl (rf_md_in hs (d + 1) g a2 0 999 ) fun v5 => (
      jr_g fun h6 => r_ifne (pc2 := 33) (t := 36) rfl h6 rfl (fun _ =>
      r_ic (x := -2) (pc2 := 35) rfl ic_m2 rfl (
      r_iret rfl rfl)) (fun _ =>
      r_aload (pc2 := 37) rfl rfl rfl (
      r_iload (pc2 := 38) rfl rfl rfl (
      r_iload (pc2 := 39) rfl rfl rfl (
      r_iload (pc2 := 40) rfl rfl rfl (
      r_callVP (pc2 := 43) (args := [.ref 44, gv a1, gv a2, gv a3]) (st2 := []) rfl rfl rfl rfl rfl rfl (rc_of (sh_T hs rfl rfl)) (rf_md_boxOf hs (d + 1) g a1 a2 a3 ) fun v7 => (
      r_istore (L2 := [some (.ref 44), some (gv a1), some (gv a2), some (gv a3), some (gv v7)]) (pc2 := 45) rfl rfl rfl (
      r_iload (pc2 := 47) rfl rfl rfl (
      r_ic (x := -1) (pc2 := 48) rfl ic_m1 rfl (
      jr_g fun h8 => r_cne (pc2 := 51) (t := 56) rfl h8 (rgk rfl) rfl (fun _ =>
      r_ic (x := -5) (pc2 := 53) rfl ic_m5 rfl (
      r_goto (t := 58) rfl (
      r_iret rfl rfl))) (fun _ =>
      r_iload (pc2 := 58) rfl rfl rfl (
      r_iret rfl rfl)))))))))))))))))))))))))))
theorem rf_md_skill {s : gm_S} {n m : Nat} (hs : gm_sh s n m) (d : Nat)  (g : gm_T) (a1 : Int) (a2 : Int) (a3 : Int)  : jr (eI s) (md_skill g a1 a2 a3) (jm_cl jm_CD km_n (d + 2) 300 [.ref 44, gv a1, gv a2, gv a3] (gm_h s g)) := by
  unfold md_skill
  exact (r_ent (cd := cd_300) (n := 5) (L0 := [some (.ref 44), some (gv a1), some (gv a2), some (gv a3), none]) rfl rfl rfl rfl (
      r_iload (pc2 := 1) rfl rfl rfl (
      r_ic (x := 0) (pc2 := 2) rfl ic_0 rfl (
      r_ic (x := 5) (pc2 := 3) rfl ic_5 rfl (
      r_callSP (pc2 := 6) (args := [gv a1, gv 0, gv 5]) (st2 := []) rfl rfl rfl rfl rfl rfl (rf_md_in hs d g a1 0 5 ) fun v1 => (
      jr_g fun h2 => r_ifeq (pc2 := 9) (t := 19) rfl h2 rfl (fun _ =>
      r_ic (x := -1) (pc2 := 20) rfl ic_m1 rfl (
      r_iret rfl rfl)) (fun _ =>
      r_iload (pc2 := 10) rfl rfl rfl (
      r_ic (x := 0) (pc2 := 11) rfl ic_0 rfl (
      r_ic (x := 9) (pc2 := 13) rfl ic_9 rfl (
      r_callSP (pc2 := 16) (args := [gv a2, gv 0, gv 9]) (st2 := []) rfl rfl rfl rfl rfl rfl (rf_md_in hs d g a2 0 9 ) fun v3 => (
      jr_g fun h4 => r_ifne (pc2 := 19) (t := 21) rfl h4 rfl (fun _ =>
      r_ic (x := -1) (pc2 := 20) rfl ic_m1 rfl (
      r_iret rfl rfl)) (fun _ =>
      r_iload (pc2 := 22) rfl rfl rfl (
      r_ic (x := 0) (pc2 := 23) rfl ic_0 rfl (
      r_ic (x := 9) (pc2 := 25) rfl ic_9 rfl (
      r_callSP (pc2 := 28) (args := [gv a3, gv 0, gv 9]) (st2 := []) rfl rfl rfl rfl rfl rfl (rf_md_in hs d g a3 0 9 ) fun v5 => (
      jr_g fun h6 => r_ifne (pc2 := 31) (t := 34) rfl h6 rfl (fun _ =>
      r_ic (x := -2) (pc2 := 33) rfl ic_m2 rfl (
      r_iret rfl rfl)) (fun _ =>
      r_aload (pc2 := 35) rfl rfl rfl (
      r_getA (pc2 := 38) rfl rfl (sh_T hs rfl rfl) (sh_A hs rfl rfl) (
      r_ic (x := 10) (pc2 := 40) rfl ic_10 rfl (
      r_iload (pc2 := 41) rfl rfl rfl (
      r_imul (pc2 := 42) rfl rfl (
      r_iload (pc2 := 43) rfl rfl rfl (
      r_iadd (pc2 := 44) rfl rfl (
      jr_g fun h7 => r_iald (len := 60) (pc2 := 45) rfl rfl (sh_T hs rfl rfl) (sh_L hs rfl rfl) rfl h7 (
      r_istoreL (L3 := fun v8 => [some (.ref 44), some (gv a1), some (gv a2), some (gv a3), some (gv v8)]) (pc2 := 47) rfl rfl (fun _ => rfl) fun v8 => (
      r_aload (pc2 := 48) rfl rfl rfl (
      r_getA (pc2 := 51) rfl rfl (sh_T hs rfl rfl) (sh_A hs rfl rfl) (
      r_ic (x := 10) (pc2 := 53) rfl ic_10 rfl (
      r_iload (pc2 := 54) rfl rfl rfl (
      r_imul (pc2 := 55) rfl rfl (
      r_iload (pc2 := 56) rfl rfl rfl (
      r_iadd (pc2 := 57) rfl rfl (
      r_iload (pc2 := 58) rfl rfl rfl (
      r_iast (len := 60) (pc2 := 59) rfl rfl (sh_T hs rfl rfl) (sh_L hs rfl rfl) rfl h7 fun g9 => (
      r_iload (pc2 := 61) rfl rfl rfl (
      r_iret rfl rfl))))))))))))))))))))))))))))))))))))
theorem rf_md_goesOn {s : gm_S} {n m : Nat} (hs : gm_sh s n m) (d : Nat)  (g : gm_T) (a1 : Int) (a2 : Int) (a3 : Int)  : jr (pI s g) (md_goesOn g a1 a2 a3) (jm_cl jm_CD km_n (d + 1) 301 [.ref 44, gv a1, gv a2, gv a3] (gm_h s g)) := by
  unfold md_goesOn
  exact (r_ent (cd := cd_301) (n := 4) (L0 := [some (.ref 44), some (gv a1), some (gv a2), some (gv a3)]) rfl rfl rfl rfl (
      r_iload (pc2 := 1) rfl rfl rfl (
      r_ic (x := 10) (pc2 := 3) rfl ic_10 rfl (
      jr_g fun h1 => r_cne (pc2 := 6) (t := 23) rfl h1 (rgk rfl) rfl (fun _ =>
      r_aload (pc2 := 7) rfl rfl rfl (
      r_getA (pc2 := 10) rfl rfl (sh_T hs rfl rfl) (sh_A hs rfl rfl) (
      r_ic (x := 1024) (pc2 := 13) rfl ic_1024 rfl (
      r_iload (pc2 := 14) rfl rfl rfl (
      r_imul (pc2 := 15) rfl rfl (
      r_ic (x := 1024) (pc2 := 18) rfl ic_1024 rfl (
      r_iadd (pc2 := 19) rfl rfl (
      r_iload (pc2 := 20) rfl rfl rfl (
      r_iadd (pc2 := 21) rfl rfl (
      jr_g fun h2 => r_iald (len := 7168) (pc2 := 22) rfl rfl (sh_T hs rfl rfl) (sh_L hs rfl rfl) rfl h2 (
      r_iret rfl rfl))))))))))) (fun _ =>
      r_iload (pc2 := 24) rfl rfl rfl (
      r_iload (pc2 := 25) rfl rfl rfl (
      r_ishr (pc2 := 26) rfl rfl (
      r_ic (x := 1) (pc2 := 27) rfl ic_1 rfl (
      r_iand (pc2 := 28) rfl rfl (
      r_ifne (pc2 := 31) (t := 35) rfl (rg_toInt _) rfl (fun _ =>
      r_ic (x := -1) (pc2 := 32) rfl ic_m1 rfl (
      r_goto (t := 69) rfl (
      r_iret rfl rfl))) (fun _ =>
      r_aload (pc2 := 36) rfl rfl rfl (
      r_getA (pc2 := 39) rfl rfl (sh_T hs rfl rfl) (sh_A hs rfl rfl) (
      r_ic (x := 10) (pc2 := 41) rfl ic_10 rfl (
      r_iload (pc2 := 42) rfl rfl rfl (
      r_imul (pc2 := 43) rfl rfl (
      r_iload (pc2 := 44) rfl rfl rfl (
      r_iadd (pc2 := 45) rfl rfl (
      jr_g fun h3 => r_iald (len := 60) (pc2 := 46) rfl rfl (sh_T hs rfl rfl) (sh_L hs rfl rfl) rfl h3 (
      r_aload (pc2 := 47) rfl rfl rfl (
      r_getA (pc2 := 50) rfl rfl (sh_T hs rfl rfl) (sh_A hs rfl rfl) (
      r_ic (x := 1024) (pc2 := 53) rfl ic_1024 rfl (
      r_iload (pc2 := 54) rfl rfl rfl (
      r_imul (pc2 := 55) rfl rfl (
      r_ic (x := 1024) (pc2 := 58) rfl ic_1024 rfl (
      r_iadd (pc2 := 59) rfl rfl (
      r_iload (pc2 := 60) rfl rfl rfl (
      r_ic (x := 1) (pc2 := 61) rfl ic_1 rfl (
      r_iload (pc2 := 62) rfl rfl rfl (
      r_ishl (pc2 := 63) rfl rfl (
      r_ic (x := -1) (pc2 := 64) rfl ic_m1 rfl (
      r_ixor (pc2 := 65) rfl rfl (
      r_iand (pc2 := 66) rfl rfl (
      r_iadd (pc2 := 67) rfl rfl (
      jr_g fun h4 => r_iald (len := 7168) (pc2 := 68) rfl rfl (sh_T hs rfl rfl) (sh_L hs rfl rfl) rfl h4 (
      r_iadd (pc2 := 69) rfl rfl (
      r_iret rfl rfl))))))))))))))))))))))))))))))))))))
theorem rl_md_shares_l2 {s : gm_S} {n m : Nat} (hs : gm_sh s n m) (d : Nat)    : ∀ (fuel : Nat) (v1 : Int) (g2 : gm_T), jr (fun (q : gm_T) (c : Option jm_R) => ∃ (j3 : Option Value), jm_lg j3 = false ∧ c = jm_sup cd_302 (jm_cl jm_CD km_n (d + 1)) (21, [some (.ref 44), j3, none, none, none, none], [], gm_h s q)) (md_shares_l2   fuel v1 g2) (jm_sup cd_302 (jm_cl jm_CD km_n (d + 1)) (2, [some (.ref 44), some (gv v1), none, none, none, none], [], gm_h s g2)) := by
  intro fuel
  induction fuel with
  | zero => intros; exact jr_none
  | succ fuel ih =>
    intro v1 g2  
    unfold md_shares_l2
    exact (
      r_iload (pc2 := 3) rfl rfl rfl (
      r_ic (x := 60) (pc2 := 5) rfl ic_60 rfl (
      jr_g fun h5 => r_cge (pc2 := 8) (t := 21) rfl h5 (rgk rfl) rfl (fun _ =>
      r_aload (pc2 := 9) rfl rfl rfl (
      r_getA (pc2 := 12) rfl rfl (sh_T hs rfl rfl) (sh_A hs rfl rfl) (
      r_iload (pc2 := 13) rfl rfl rfl (
      r_ic (x := 0) (pc2 := 14) rfl ic_0 rfl (
      jr_g fun h7 => r_iast (len := 60) (pc2 := 15) rfl rfl (sh_T hs rfl rfl) (sh_L hs rfl rfl) rfl h7 fun g6 => (
      r_iinc (kk := 1) (L2 := [some (.ref 44), some (gv (v1 + 1)), none, none, none, none]) (pc2 := 18) rfl ic_1 rfl rfl rfl (
      r_goto (t := 2) rfl (
      ih (v1 + 1) g6)))))))) (fun _ =>
      jr_leaf ⟨_, rfl, rfl⟩))))
theorem rl_md_shares_l46 {s : gm_S} {n m : Nat} (hs : gm_sh s n m) (d : Nat)  (c21 : Int) (c22 : Int)  : ∀ (fuel : Nat) (v23 : Int) (g24 : gm_T), jr (fun (q : gm_T) (c : Option jm_R) => ∃ (j25 : Option Value), jm_lg j25 = false ∧ c = jm_sup cd_302 (jm_cl jm_CD km_n (d + 1)) (93, [some (.ref 44), some (gv c21), some (gv c22), j25, none, none], [], gm_h s q)) (md_shares_l46  c21 c22 fuel v23 g24) (jm_sup cd_302 (jm_cl jm_CD km_n (d + 1)) (46, [some (.ref 44), some (gv c21), some (gv c22), some (gv v23), none, none], [], gm_h s g24)) := by
  intro fuel
  induction fuel with
  | zero => intros; exact jr_none
  | succ fuel ih =>
    intro v23 g24  
    unfold md_shares_l46
    exact (
      r_iload (pc2 := 47) rfl rfl rfl (
      r_ic (x := 6) (pc2 := 49) rfl ic_6 rfl (
      jr_g fun h27 => r_cge (pc2 := 52) (t := 93) rfl h27 (rgk rfl) rfl (fun _ =>
      r_iload (pc2 := 53) rfl rfl rfl (
      r_ic (x := -1) (pc2 := 54) rfl ic_m1 rfl (
      jr_g fun h28 => r_ceq (pc2 := 57) (t := 93) rfl h28 (rgk rfl) rfl (fun _ =>
      jr_leaf ⟨_, rfl, rfl⟩) (fun _ =>
      r_aload (pc2 := 58) rfl rfl rfl (
      r_getA (pc2 := 61) rfl rfl (sh_T hs rfl rfl) (sh_A hs rfl rfl) (
      r_ic (x := 10) (pc2 := 63) rfl ic_10 rfl (
      r_iload (pc2 := 64) rfl rfl rfl (
      r_imul (pc2 := 65) rfl rfl (
      r_iload (pc2 := 66) rfl rfl rfl (
      r_iadd (pc2 := 67) rfl rfl (
      r_dup2 (pc2 := 68) rfl rfl ⟨rfl, rfl⟩ (
      jr_g fun h29 => r_iald (len := 60) (pc2 := 69) rfl rfl (sh_T hs rfl rfl) (sh_L hs rfl rfl) rfl h29 (
      r_aload (pc2 := 70) rfl rfl rfl (
      r_getA (pc2 := 73) rfl rfl (sh_T hs rfl rfl) (sh_A hs rfl rfl) (
      r_ic (x := 10) (pc2 := 75) rfl ic_10 rfl (
      r_iload (pc2 := 76) rfl rfl rfl (
      r_imul (pc2 := 77) rfl rfl (
      r_aload (pc2 := 78) rfl rfl rfl (
      r_getA (pc2 := 81) rfl rfl (sh_T hs rfl rfl) (sh_A hs rfl rfl) (
      r_iload (pc2 := 82) rfl rfl rfl (
      jr_g fun h30 => r_iald (len := 30) (pc2 := 83) rfl rfl (sh_T hs rfl rfl) (sh_L hs rfl rfl) rfl h30 (
      r_iadd (pc2 := 84) rfl rfl (
      jr_g fun h31 => r_iald (len := 60) (pc2 := 85) rfl rfl (sh_T hs rfl rfl) (sh_L hs rfl rfl) rfl h31 (
      r_iadd (pc2 := 86) rfl rfl (
      r_iast (len := 60) (pc2 := 87) rfl rfl (sh_T hs rfl rfl) (sh_L hs rfl rfl) rfl h29 fun g32 => (
      r_iinc (kk := 1) (L2 := [some (.ref 44), some (gv c21), some (gv c22), some (gv (v23 + 1)), none, none]) (pc2 := 90) rfl ic_1 rfl rfl rfl (
      r_goto (t := 46) rfl (
      ih (v23 + 1) g32)))))))))))))))))))))))))))) (fun _ =>
      jr_leaf ⟨_, rfl, rfl⟩))))
theorem rl_md_shares_l23 {s : gm_S} {n m : Nat} (hs : gm_sh s n m) (d : Nat)    : ∀ (fuel : Nat) (v11 : Int) (g14 : gm_T) (j12 : Option Value) (j13 : Option Value) (hj12 : jm_lg j12 = false) (hj13 : jm_lg j13 = false), jr (fun (q : gm_T) (c : Option jm_R) => ∃ (j15 : Option Value) (j16 : Option Value) (j17 : Option Value), jm_lg j15 = false ∧ jm_lg j16 = false ∧ jm_lg j17 = false ∧ c = jm_sup cd_302 (jm_cl jm_CD km_n (d + 1)) (99, [some (.ref 44), j15, j16, j17, none, none], [], gm_h s q)) (md_shares_l23   fuel v11 g14) (jm_sup cd_302 (jm_cl jm_CD km_n (d + 1)) (23, [some (.ref 44), some (gv v11), j12, j13, none, none], [], gm_h s g14)) := by
  intro fuel
  induction fuel with
  | zero => intros; exact jr_none
  | succ fuel ih =>
    intro v11 g14 j12 j13 hj12 hj13
    unfold md_shares_l23
    exact (
      r_iload (pc2 := 24) rfl rfl rfl (
      r_aload (pc2 := 25) rfl rfl rfl (
      r_getI (pc2 := 28) rfl rfl (sh_T hs rfl rfl) (
      jr_g fun h19 => r_cge (pc2 := 31) (t := 99) rfl h19.1 h19.2 rfl (fun _ =>
      r_aload (pc2 := 32) rfl rfl rfl (
      r_iload (pc2 := 33) rfl rfl rfl (
      r_ic (x := 999) (pc2 := 36) rfl ic_999 rfl (
      r_aload (pc2 := 37) rfl rfl rfl (
      r_getI (pc2 := 40) rfl rfl (sh_T hs rfl rfl) (
      r_callVP (pc2 := 43) (args := [.ref 44, gv v11, gv 999, gv (gm_I g14 44 87)]) (st2 := []) rfl rfl rfl rfl rfl rfl (rc_of (sh_T hs rfl rfl)) (rf_md_boxOf hs d g14 v11 999 (gm_I g14 44 87) ) fun v20 => (
      r_istore (L2 := [some (.ref 44), some (gv v11), some (gv v20), j13, none, none]) (pc2 := 44) rfl rfl rfl (
      r_ic (x := 0) (pc2 := 45) rfl ic_0 rfl (
      r_istore (L2 := [some (.ref 44), some (gv v11), some (gv v20), some (gv 0), none, none]) (pc2 := 46) rfl rfl rfl (
      r_b1 (rl_md_shares_l46 hs d   v11 v20  fz 0 g14  ) (fun g35 c h => match c, h with | _, ⟨j34, hj34, rfl⟩ => (
      r_iinc (kk := 1) (L2 := [some (.ref 44), some (gv (v11 + 1)), some (gv v20), j34, none, none]) (pc2 := 96) rfl ic_1 rfl rfl rfl (
      r_goto (t := 23) rfl (
      ih (v11 + 1) g35 _ _ rfl hj34)))))))))))))) (fun _ =>
      jr_leaf ⟨_, _, _, rfl, hj12, hj13, rfl⟩)))))
theorem rl_md_shares_l101 {s : gm_S} {n m : Nat} (hs : gm_sh s n m) (d : Nat)    : ∀ (fuel : Nat) (v41 : Int) (g44 : gm_T) (j42 : Option Value) (j43 : Option Value) (hj42 : jm_lg j42 = false) (hj43 : jm_lg j43 = false), jr (fun (q : gm_T) (c : Option jm_R) => ∃ (j45 : Option Value), jm_lg j45 = false ∧ c = jm_sup cd_302 (jm_cl jm_CD km_n (d + 1)) (125, [some (.ref 44), j45, j42, j43, none, none], [], gm_h s q)) (md_shares_l101   fuel v41 g44) (jm_sup cd_302 (jm_cl jm_CD km_n (d + 1)) (101, [some (.ref 44), some (gv v41), j42, j43, none, none], [], gm_h s g44)) := by
  intro fuel
  induction fuel with
  | zero => intros; exact jr_none
  | succ fuel ih =>
    intro v41 g44 j42 j43 hj42 hj43
    unfold md_shares_l101
    exact (
      r_iload (pc2 := 102) rfl rfl rfl (
      r_ic (x := 1024) (pc2 := 105) rfl ic_1024 rfl (
      jr_g fun h47 => r_cge (pc2 := 108) (t := 125) rfl h47 (rgk rfl) rfl (fun _ =>
      r_aload (pc2 := 109) rfl rfl rfl (
      r_getA (pc2 := 112) rfl rfl (sh_T hs rfl rfl) (sh_A hs rfl rfl) (
      r_ic (x := 6144) (pc2 := 115) rfl ic_6144 rfl (
      r_iload (pc2 := 116) rfl rfl rfl (
      r_iadd (pc2 := 117) rfl rfl (
      r_ic (x := 0) (pc2 := 118) rfl ic_0 rfl (
      jr_g fun h49 => r_iast (len := 7168) (pc2 := 119) rfl rfl (sh_T hs rfl rfl) (sh_L hs rfl rfl) rfl h49 fun g48 => (
      r_iinc (kk := 1) (L2 := [some (.ref 44), some (gv (v41 + 1)), j42, j43, none, none]) (pc2 := 122) rfl ic_1 rfl rfl rfl (
      r_goto (t := 101) rfl (
      ih (v41 + 1) g48 _ _ hj42 hj43)))))))))) (fun _ =>
      jr_leaf ⟨_, rfl, rfl⟩))))
theorem rl_md_shares_l145 {s : gm_S} {n m : Nat} (hs : gm_sh s n m) (d : Nat)  (g : gm_T) (c80 : Int) (c81 : Int)  : ∀ (fuel : Nat) (v82 : Int) (v83 : Int) (j84 : Option Value) (hj84 : jm_lg j84 = false), jr (fun (q : Int) (c : Option jm_R) => ∃ (j86 : Option Value) (j87 : Option Value), jm_lg j86 = false ∧ jm_lg j87 = false ∧ c = jm_sup cd_302 (jm_cl jm_CD km_n (d + 1)) (181, [some (.ref 44), some (gv c80), some (gv c81), some (gv q), j86, j87], [], gm_h s g)) (md_shares_l145 g c80 c81 fuel v82 v83) (jm_sup cd_302 (jm_cl jm_CD km_n (d + 1)) (145, [some (.ref 44), some (gv c80), some (gv c81), some (gv v82), some (gv v83), j84], [], gm_h s g)) := by
  intro fuel
  induction fuel with
  | zero => intros; exact jr_none
  | succ fuel ih =>
    intro v82 v83 j84 hj84
    unfold md_shares_l145
    exact (
      r_iload (pc2 := 147) rfl rfl rfl (
      r_ic (x := 10) (pc2 := 149) rfl ic_10 rfl (
      jr_g fun h88 => r_cgt (pc2 := 152) (t := 181) rfl h88 (rgk rfl) rfl (fun _ =>
      r_aload (pc2 := 153) rfl rfl rfl (
      r_iload (pc2 := 154) rfl rfl rfl (
      r_iload (pc2 := 155) rfl rfl rfl (
      r_iload (pc2 := 157) rfl rfl rfl (
      r_callVP (pc2 := 160) (args := [.ref 44, gv c80, gv c81, gv v83]) (st2 := []) rfl rfl rfl rfl rfl rfl (rc_of (sh_T hs rfl rfl)) (rf_md_goesOn hs d g c80 c81 v83 ) fun v89 => (
      r_istore (L2 := [some (.ref 44), some (gv c80), some (gv c81), some (gv v82), some (gv v83), some (gv v89)]) (pc2 := 162) rfl rfl rfl (
      r_iload (pc2 := 164) rfl rfl rfl (
      r_iload (pc2 := 165) rfl rfl rfl (
      jr_g fun h90 => r_cle (pc2 := 168) (t := 173) rfl h90.1 h90.2 rfl (fun _ =>
      r_iload (pc2 := 174) rfl rfl rfl (
      r_istore (L2 := [some (.ref 44), some (gv c80), some (gv c81), some (gv v82), some (gv v83), some (gv v89)]) (pc2 := 175) rfl rfl rfl (
      r_iinc (kk := 1) (L2 := [some (.ref 44), some (gv c80), some (gv c81), some (gv v82), some (gv (v83 + 1)), some (gv v89)]) (pc2 := 178) rfl ic_1 rfl rfl rfl (
      r_goto (t := 145) rfl (
      ih v82 (v83 + 1) _ rfl))))) (fun _ =>
      r_iload (pc2 := 170) rfl rfl rfl (
      r_goto (t := 174) rfl (
      r_istore (L2 := [some (.ref 44), some (gv c80), some (gv c81), some (gv v89), some (gv v83), some (gv v89)]) (pc2 := 175) rfl rfl rfl (
      r_iinc (kk := 1) (L2 := [some (.ref 44), some (gv c80), some (gv c81), some (gv v89), some (gv (v83 + 1)), some (gv v89)]) (pc2 := 178) rfl ic_1 rfl rfl rfl (
      r_goto (t := 145) rfl (
      ih v89 (v83 + 1) _ rfl))))))))))))))) (fun _ =>
      jr_leaf ⟨_, _, rfl, hj84, rfl⟩))))
theorem rl_md_shares_l133 {s : gm_S} {n m : Nat} (hs : gm_sh s n m) (d : Nat)  (c68 : Int)  : ∀ (fuel : Nat) (v69 : Int) (g73 : gm_T) (j70 : Option Value) (j71 : Option Value) (j72 : Option Value) (hj70 : jm_lg j70 = false) (hj71 : jm_lg j71 = false) (hj72 : jm_lg j72 = false), jr (fun (q : gm_T) (c : Option jm_R) => ∃ (j74 : Option Value) (j75 : Option Value) (j76 : Option Value) (j77 : Option Value), jm_lg j74 = false ∧ jm_lg j75 = false ∧ jm_lg j76 = false ∧ jm_lg j77 = false ∧ c = jm_sup cd_302 (jm_cl jm_CD km_n (d + 1)) (200, [some (.ref 44), some (gv c68), j74, j75, j76, j77], [], gm_h s q)) (md_shares_l133  c68 fuel v69 g73) (jm_sup cd_302 (jm_cl jm_CD km_n (d + 1)) (133, [some (.ref 44), some (gv c68), some (gv v69), j70, j71, j72], [], gm_h s g73)) := by
  intro fuel
  induction fuel with
  | zero => intros; exact jr_none
  | succ fuel ih =>
    intro v69 g73 j70 j71 j72 hj70 hj71 hj72
    unfold md_shares_l133
    exact (
      r_iload (pc2 := 134) rfl rfl rfl (
      r_ic (x := 1024) (pc2 := 137) rfl ic_1024 rfl (
      jr_g fun h79 => r_cge (pc2 := 140) (t := 200) rfl h79 (rgk rfl) rfl (fun _ =>
      r_ic (x := -1) (pc2 := 141) rfl ic_m1 rfl (
      r_istore (L2 := [some (.ref 44), some (gv c68), some (gv v69), some (gv (-1)), j71, j72]) (pc2 := 142) rfl rfl rfl (
      r_ic (x := 0) (pc2 := 143) rfl ic_0 rfl (
      r_istore (L2 := [some (.ref 44), some (gv c68), some (gv v69), some (gv (-1)), some (gv 0), j72]) (pc2 := 145) rfl rfl rfl (
      r_b1 (rl_md_shares_l145 hs d  g73 c68 v69  fz (-1) 0 _ hj72) (fun v93 c h => match c, h with | _, ⟨j94, j95, hj94, hj95, rfl⟩ => (
      r_aload (pc2 := 182) rfl rfl rfl (
      r_getA (pc2 := 185) rfl rfl (sh_T hs rfl rfl) (sh_A hs rfl rfl) (
      r_ic (x := 1024) (pc2 := 188) rfl ic_1024 rfl (
      r_iload (pc2 := 189) rfl rfl rfl (
      r_imul (pc2 := 190) rfl rfl (
      r_iload (pc2 := 191) rfl rfl rfl (
      r_iadd (pc2 := 192) rfl rfl (
      r_iload (pc2 := 193) rfl rfl rfl (
      jr_g fun h97 => r_iast (len := 7168) (pc2 := 194) rfl rfl (sh_T hs rfl rfl) (sh_L hs rfl rfl) rfl h97 fun g96 => (
      r_iinc (kk := 1) (L2 := [some (.ref 44), some (gv c68), some (gv (v69 + 1)), some (gv v93), j94, j95]) (pc2 := 197) rfl ic_1 rfl rfl rfl (
      r_goto (t := 133) rfl (
      ih (v69 + 1) g96 _ _ _ rfl hj94 hj95)))))))))))))))))) (fun _ =>
      jr_leaf ⟨_, _, _, _, rfl, hj70, hj71, hj72, rfl⟩))))
theorem rl_md_shares_l127 {s : gm_S} {n m : Nat} (hs : gm_sh s n m) (d : Nat)    : ∀ (fuel : Nat) (v55 : Int) (g60 : gm_T) (j56 : Option Value) (j57 : Option Value) (j58 : Option Value) (j59 : Option Value) (hj56 : jm_lg j56 = false) (hj57 : jm_lg j57 = false) (hj58 : jm_lg j58 = false) (hj59 : jm_lg j59 = false), jr (fun (q : gm_T) (c : Option jm_R) => ∃ (j61 : Option Value) (j62 : Option Value) (j63 : Option Value) (j64 : Option Value) (j65 : Option Value), jm_lg j61 = false ∧ jm_lg j62 = false ∧ jm_lg j63 = false ∧ jm_lg j64 = false ∧ jm_lg j65 = false ∧ c = jm_sup cd_302 (jm_cl jm_CD km_n (d + 1)) (206, [some (.ref 44), j61, j62, j63, j64, j65], [], gm_h s q)) (md_shares_l127   fuel v55 g60) (jm_sup cd_302 (jm_cl jm_CD km_n (d + 1)) (127, [some (.ref 44), some (gv v55), j56, j57, j58, j59], [], gm_h s g60)) := by
  intro fuel
  induction fuel with
  | zero => intros; exact jr_none
  | succ fuel ih =>
    intro v55 g60 j56 j57 j58 j59 hj56 hj57 hj58 hj59
    unfold md_shares_l127
    exact (
      r_iload (pc2 := 128) rfl rfl rfl (
      jr_g fun h67 => r_iflt (pc2 := 131) (t := 206) rfl h67 rfl (fun _ =>
      jr_leaf ⟨_, _, _, _, _, rfl, hj56, hj57, hj58, hj59, rfl⟩) (fun _ =>
      r_ic (x := 0) (pc2 := 132) rfl ic_0 rfl (
      r_istore (L2 := [some (.ref 44), some (gv v55), some (gv 0), j57, j58, j59]) (pc2 := 133) rfl rfl rfl (
      r_b1 (rl_md_shares_l133 hs d   v55  fz 0 g60 _ _ _ hj57 hj58 hj59) (fun g103 c h => match c, h with | _, ⟨j99, j100, j101, j102, hj99, hj100, hj101, hj102, rfl⟩ => (
      r_iinc (kk := -1) (L2 := [some (.ref 44), some (gv (v55 + (-1))), j99, j100, j101, j102]) (pc2 := 203) rfl ic_m1 rfl rfl rfl (
      r_goto (t := 127) rfl (
      ih (v55 + (-1)) g103 _ _ _ _ hj99 hj100 hj101 hj102)))))))))
theorem rl_md_shares_l220 {s : gm_S} {n m : Nat} (hs : gm_sh s n m) (d : Nat)  (g : gm_T) (c122 : Int) (c123 : Int)  : ∀ (fuel : Nat) (v124 : Int) (j125 : Option Value) (j126 : Option Value) (hj125 : jm_lg j125 = false) (hj126 : jm_lg j126 = false), jr (fun (q : Int) (c : Option jm_R) => c = jm_sup cd_302 (jm_cl jm_CD km_n (d + 1)) (248, [some (.ref 44), some (gv c122), some (gv c123), some (gv q), j125, j126], [], gm_h s g)) (md_shares_l220 g c122 c123 fuel v124) (jm_sup cd_302 (jm_cl jm_CD km_n (d + 1)) (220, [some (.ref 44), some (gv c122), some (gv c123), some (gv v124), j125, j126], [], gm_h s g)) := by
  intro fuel
  induction fuel with
  | zero => intros; exact jr_none
  | succ fuel ih =>
    intro v124 j125 j126 hj125 hj126
    unfold md_shares_l220
    exact (
      r_aload (pc2 := 221) rfl rfl rfl (
      r_iload (pc2 := 222) rfl rfl rfl (
      r_iload (pc2 := 223) rfl rfl rfl (
      r_iload (pc2 := 224) rfl rfl rfl (
      r_callVP (pc2 := 227) (args := [.ref 44, gv c123, gv c122, gv v124]) (st2 := []) rfl rfl rfl rfl rfl rfl (rc_of (sh_T hs rfl rfl)) (rf_md_goesOn hs d g c123 c122 v124 ) fun v128 => (
      r_aload (pc2 := 228) rfl rfl rfl (
      r_getA (pc2 := 231) rfl rfl (sh_T hs rfl rfl) (sh_A hs rfl rfl) (
      r_ic (x := 1024) (pc2 := 234) rfl ic_1024 rfl (
      r_iload (pc2 := 235) rfl rfl rfl (
      r_imul (pc2 := 236) rfl rfl (
      r_iload (pc2 := 237) rfl rfl rfl (
      r_iadd (pc2 := 238) rfl rfl (
      jr_g fun h129 => r_iald (len := 7168) (pc2 := 239) rfl rfl (sh_T hs rfl rfl) (sh_L hs rfl rfl) rfl h129 (
      jr_g fun h130 => r_ceq (pc2 := 242) (t := 248) rfl h130.1 h130.2 rfl (fun _ =>
      jr_leaf rfl) (fun _ =>
      r_iinc (kk := 1) (L2 := [some (.ref 44), some (gv c122), some (gv c123), some (gv (v124 + 1)), j125, j126]) (pc2 := 245) rfl ic_1 rfl rfl rfl (
      r_goto (t := 220) rfl (
      ih (v124 + 1) _ _ hj125 hj126)))))))))))))))))
theorem rl_md_shares_l212 {s : gm_S} {n m : Nat} (hs : gm_sh s n m) (d : Nat)    : ∀ (fuel : Nat) (v111 : Int) (v112 : Int) (g116 : gm_T) (j113 : Option Value) (j114 : Option Value) (j115 : Option Value) (hj113 : jm_lg j113 = false) (hj114 : jm_lg j114 = false) (hj115 : jm_lg j115 = false), jr (fun (q : gm_T) (c : Option jm_R) => ∃ (j117 : Option Value) (j118 : Option Value) (j119 : Option Value), jm_lg j117 = false ∧ jm_lg j118 = false ∧ jm_lg j119 = false ∧ c = jm_sup cd_302 (jm_cl jm_CD km_n (d + 1)) (290, [some (.ref 44), j117, j118, j119, j114, j115], [], gm_h s q)) (md_shares_l212   fuel v111 v112 g116) (jm_sup cd_302 (jm_cl jm_CD km_n (d + 1)) (212, [some (.ref 44), some (gv v111), some (gv v112), j113, j114, j115], [], gm_h s g116)) := by
  intro fuel
  induction fuel with
  | zero => intros; exact jr_none
  | succ fuel ih =>
    intro v111 v112 g116 j113 j114 j115 hj113 hj114 hj115
    unfold md_shares_l212
    exact (
      r_iload (pc2 := 213) rfl rfl rfl (
      r_ic (x := 6) (pc2 := 215) rfl ic_6 rfl (
      jr_g fun h121 => r_cge (pc2 := 218) (t := 290) rfl h121 (rgk rfl) rfl (fun _ =>
      r_ic (x := 0) (pc2 := 219) rfl ic_0 rfl (
      r_istore (L2 := [some (.ref 44), some (gv v111), some (gv v112), some (gv 0), j114, j115]) (pc2 := 220) rfl rfl rfl (
      r_b1 (rl_md_shares_l220 hs d  g116 v111 v112  fz 0 _ _ hj114 hj115) (fun v132 c h => match c, h with | _, rfl => (
      r_aload (pc2 := 249) rfl rfl rfl (
      r_getA (pc2 := 252) rfl rfl (sh_T hs rfl rfl) (sh_A hs rfl rfl) (
      r_iload (pc2 := 253) rfl rfl rfl (
      r_iload (pc2 := 254) rfl rfl rfl (
      r_ic (x := 10) (pc2 := 256) rfl ic_10 rfl (
      r_b1 (R1 := (fun (q : Int) (c : Option jm_R) => c = jm_sup cd_302 (jm_cl jm_CD km_n (d + 1)) (265, [some (.ref 44), some (gv v111), some (gv v112), some (gv v132), j114, j115], [gv q, gv v112, .ref 110], gm_h s g116))) (
      jr_g fun h136 => r_cne (pc2 := 259) (t := 264) rfl h136 (rgk rfl) rfl (fun _ =>
      r_ic (x := -5) (pc2 := 261) rfl ic_m5 rfl (
      r_goto (t := 265) rfl (
      jr_leaf rfl))) (fun _ =>
      r_iload (pc2 := 265) rfl rfl rfl (
      jr_leaf rfl))) (fun v135 c h => match c, h with | _, rfl => (
      jr_g fun h138 => r_iast (len := 6) (pc2 := 266) rfl rfl (sh_T hs rfl rfl) (sh_L hs rfl rfl) rfl h138 fun g137 => (
      r_iload (pc2 := 267) rfl rfl rfl (
      r_ic (x := 10) (pc2 := 269) rfl ic_10 rfl (
      jr_g fun h139 => r_cne (pc2 := 272) (t := 276) rfl h139 (rgk rfl) rfl (fun _ =>
      r_iload (pc2 := 273) rfl rfl rfl (
      r_goto (t := 283) rfl (
      r_istore (L2 := [some (.ref 44), some (gv v111), some (gv v112), some (gv v132), j114, j115]) (pc2 := 284) rfl rfl rfl (
      r_iinc (kk := 1) (L2 := [some (.ref 44), some (gv v111), some (gv (v112 + 1)), some (gv v132), j114, j115]) (pc2 := 287) rfl ic_1 rfl rfl rfl (
      r_goto (t := 212) rfl (
      ih v111 (v112 + 1) g137 _ _ _ rfl hj114 hj115)))))) (fun _ =>
      r_iload (pc2 := 277) rfl rfl rfl (
      r_ic (x := 1) (pc2 := 278) rfl ic_1 rfl (
      r_iload (pc2 := 279) rfl rfl rfl (
      r_ishl (pc2 := 280) rfl rfl (
      r_ic (x := -1) (pc2 := 281) rfl ic_m1 rfl (
      r_ixor (pc2 := 282) rfl rfl (
      r_iand (pc2 := 283) rfl rfl (
      r_istoreL (L3 := fun v141 => [some (.ref 44), some (gv v141), some (gv v112), some (gv v132), j114, j115]) (pc2 := 284) rfl rfl (fun _ => rfl) fun v141 => (
      r_iinc (kk := 1) (L2 := [some (.ref 44), some (gv v141), some (gv (v112 + 1)), some (gv v132), j114, j115]) (pc2 := 287) rfl ic_1 rfl rfl rfl (
      r_goto (t := 212) rfl (
      ih v141 (v112 + 1) g137 _ _ _ rfl hj114 hj115)))))))))))))))))))))))))) (fun _ =>
      jr_leaf ⟨_, _, _, rfl, rfl, hj113, rfl⟩))))
theorem rf_md_shares {s : gm_S} {n m : Nat} (hs : gm_sh s n m) (d : Nat)  (g : gm_T)   : jr (eI s) (md_shares g ) (jm_cl jm_CD km_n (d + 2) 302 [.ref 44] (gm_h s g)) := by
  unfold md_shares
  exact (r_ent (cd := cd_302) (n := 6) (L0 := [some (.ref 44), none, none, none, none, none]) rfl rfl rfl rfl (
      r_ic (x := 0) (pc2 := 1) rfl ic_0 rfl (
      r_istore (L2 := [some (.ref 44), some (gv 0), none, none, none, none]) (pc2 := 2) rfl rfl rfl (
      r_b1 (rl_md_shares_l2 hs d     fz 0 g  ) (fun g10 c h => match c, h with | _, ⟨j9, hj9, rfl⟩ => (
      r_ic (x := 0) (pc2 := 22) rfl ic_0 rfl (
      r_istore (L2 := [some (.ref 44), some (gv 0), none, none, none, none]) (pc2 := 23) rfl rfl rfl (
      r_b1 (rl_md_shares_l23 hs d     fz 0 g10 _ _ rfl rfl) (fun g40 c h => match c, h with | _, ⟨j37, j38, j39, hj37, hj38, hj39, rfl⟩ => (
      r_ic (x := 0) (pc2 := 100) rfl ic_0 rfl (
      r_istore (L2 := [some (.ref 44), some (gv 0), j38, j39, none, none]) (pc2 := 101) rfl rfl rfl (
      r_b1 (rl_md_shares_l101 hs d     fz 0 g40 _ _ hj38 hj39) (fun g54 c h => match c, h with | _, ⟨j51, hj51, rfl⟩ => (
      r_ic (x := 5) (pc2 := 126) rfl ic_5 rfl (
      r_istore (L2 := [some (.ref 44), some (gv 5), j38, j39, none, none]) (pc2 := 127) rfl rfl rfl (
      r_b1 (rl_md_shares_l127 hs d     fz 5 g54 _ _ _ _ hj38 hj39 rfl rfl) (fun g110 c h => match c, h with | _, ⟨j105, j106, j107, j108, j109, hj105, hj106, hj107, hj108, hj109, rfl⟩ => (
      r_ic (x := 1023) (pc2 := 209) rfl ic_1023 rfl (
      r_istore (L2 := [some (.ref 44), some (gv 1023), j106, j107, j108, j109]) (pc2 := 210) rfl rfl rfl (
      r_ic (x := 0) (pc2 := 211) rfl ic_0 rfl (
      r_istore (L2 := [some (.ref 44), some (gv 1023), some (gv 0), j107, j108, j109]) (pc2 := 212) rfl rfl rfl (
      r_b1 (rl_md_shares_l212 hs d     fz 1023 0 g110 _ _ _ hj107 hj108 hj109) (fun g148 c h => match c, h with | _, ⟨j143, j144, j145, hj143, hj144, hj145, rfl⟩ => (
      r_aload (pc2 := 291) rfl rfl rfl (
      r_getA (pc2 := 294) rfl rfl (sh_T hs rfl rfl) (sh_A hs rfl rfl) (
      r_ic (x := 1023) (pc2 := 297) rfl ic_1023 rfl (
      r_iald (i := 1023) (len := 7168) (pc2 := 298) rfl rfl (sh_T hs rfl rfl) (sh_L hs rfl rfl) rfl ⟨by decide, by decide⟩ (
      r_iret rfl rfl))))))))))))))))))))))))))))
theorem rf_md_share {s : gm_S} {n m : Nat} (hs : gm_sh s n m) (d : Nat)  (g : gm_T) (a1 : Int)  : jr (eI s) (md_share g a1) (jm_cl jm_CD km_n (d + 3) 303 [.ref 44, gv a1] (gm_h s g)) := by
  unfold md_share
  exact (r_ent (cd := cd_303) (n := 3) (L0 := [some (.ref 44), some (gv a1), none]) rfl rfl rfl rfl (
      r_iload (pc2 := 1) rfl rfl rfl (
      r_ic (x := -1) (pc2 := 2) rfl ic_m1 rfl (
      r_ic (x := 5) (pc2 := 3) rfl ic_5 rfl (
      r_callSP (pc2 := 6) (args := [gv a1, gv (-1), gv 5]) (st2 := []) rfl rfl rfl rfl rfl rfl (rf_md_in hs (d + 1) g a1 (-1) 5 ) fun v1 => (
      jr_g fun h2 => r_ifne (pc2 := 9) (t := 13) rfl h2 rfl (fun _ =>
      r_ic (x := -100000) (pc2 := 12) rfl ic_m100000 rfl (
      r_iret rfl rfl)) (fun _ =>
      r_aload (pc2 := 14) rfl rfl rfl (
      r_callVI (pc2 := 17) (args := [.ref 44]) (st2 := []) rfl rfl rfl rfl rfl rfl (rc_of (sh_T hs rfl rfl)) (rf_md_shares hs d g ) fun v3 g4 => (
      r_istore (L2 := [some (.ref 44), some (gv a1), some (gv v3)]) (pc2 := 18) rfl rfl rfl (
      r_iload (pc2 := 19) rfl rfl rfl (
      r_ic (x := -1) (pc2 := 20) rfl ic_m1 rfl (
      jr_g fun h5 => r_cne (pc2 := 23) (t := 27) rfl h5 (rgk rfl) rfl (fun _ =>
      r_iload (pc2 := 24) rfl rfl rfl (
      r_goto (t := 33) rfl (
      r_iret rfl rfl))) (fun _ =>
      r_aload (pc2 := 28) rfl rfl rfl (
      r_getA (pc2 := 31) rfl rfl (sh_T hs rfl rfl) (sh_A hs rfl rfl) (
      r_iload (pc2 := 32) rfl rfl rfl (
      jr_g fun h6 => r_iald (len := 6) (pc2 := 33) rfl rfl (sh_T hs rfl rfl) (sh_L hs rfl rfl) rfl h6 (
      r_iret rfl rfl)))))))))))))))))
theorem rl_md_count_l213 {s : gm_S} {n m : Nat} (hs : gm_sh s n m) (d : Nat)    : ∀ (fuel : Nat) (v14 : Int) (v15 : Int) (g16 : gm_T) (j13 : Option Value) (hj13 : jm_lg j13 = false), jr (fun (q : Int × gm_T) (c : Option jm_R) => ∃ (j18 : Option Value), jm_lg j18 = false ∧ c = jm_sup cd_304 (jm_cl jm_CD km_n (d + 7)) (244, [some (.ref 44), j13, some (gv q.1), j18], [], gm_h s q.2)) (md_count_l213   fuel v14 v15 g16) (jm_sup cd_304 (jm_cl jm_CD km_n (d + 7)) (213, [some (.ref 44), j13, some (gv v14), some (gv v15)], [], gm_h s g16)) := by
  intro fuel
  induction fuel with
  | zero => intros; exact jr_none
  | succ fuel ih =>
    intro v14 v15 g16 j13 hj13
    unfold md_count_l213
    exact (
      r_iload (pc2 := 214) rfl rfl rfl (
      r_aload (pc2 := 215) rfl rfl rfl (
      r_getI (pc2 := 218) rfl rfl (sh_T hs rfl rfl) (
      jr_g fun h20 => r_cge (pc2 := 221) (t := 244) rfl h20.1 h20.2 rfl (fun _ =>
      r_iload (pc2 := 222) rfl rfl rfl (
      r_aload (pc2 := 223) rfl rfl rfl (
      r_iload (pc2 := 224) rfl rfl rfl (
      r_callVI (pc2 := 227) (args := [.ref 44, gv v15]) (st2 := [gv v14]) rfl rfl rfl rfl rfl rfl (rc_of (sh_T hs rfl rfl)) (rf_md_provedFrom hs (d + 4) g16 v15 ) fun v21 g22 => (
      r_ic (x := -1) (pc2 := 228) rfl ic_m1 rfl (
      jr_g fun h23 => r_ceq (pc2 := 231) (t := 235) rfl h23 (rgk rfl) rfl (fun _ =>
      r_ic (x := 0) (pc2 := 236) rfl ic_0 rfl (
      r_iadd (pc2 := 237) rfl rfl (
      r_istoreL (L3 := fun v24 => [some (.ref 44), j13, some (gv v24), some (gv v15)]) (pc2 := 238) rfl rfl (fun _ => jm_st1j hj13 rfl ⟨rfl, rfl⟩) fun v24 => (
      r_iinc (kk := 1) (L2 := [some (.ref 44), j13, some (gv v24), some (gv (v15 + 1))]) (pc2 := 241) rfl ic_1 rfl rfl rfl (
      r_goto (t := 213) rfl (
      ih v24 (v15 + 1) g22 _ hj13)))))) (fun _ =>
      r_ic (x := 1) (pc2 := 232) rfl ic_1 rfl (
      r_goto (t := 236) rfl (
      r_iadd (pc2 := 237) rfl rfl (
      r_istoreL (L3 := fun v26 => [some (.ref 44), j13, some (gv v26), some (gv v15)]) (pc2 := 238) rfl rfl (fun _ => jm_st1j hj13 rfl ⟨rfl, rfl⟩) fun v26 => (
      r_iinc (kk := 1) (L2 := [some (.ref 44), j13, some (gv v26), some (gv (v15 + 1))]) (pc2 := 241) rfl ic_1 rfl rfl rfl (
      r_goto (t := 213) rfl (
      ih v26 (v15 + 1) g22 _ hj13))))))))))))) (fun _ =>
      jr_leaf ⟨_, rfl, rfl⟩)))))
theorem rl_md_count_l174 {s : gm_S} {n m : Nat} (hs : gm_sh s n m) (d : Nat)  (g : gm_T)   : ∀ (fuel : Nat) (v33 : Int) (v34 : Int) (j32 : Option Value) (hj32 : jm_lg j32 = false), jr (fun (q : Int) (c : Option jm_R) => ∃ (j36 : Option Value), jm_lg j36 = false ∧ c = jm_sup cd_304 (jm_cl jm_CD km_n (d + 7)) (205, [some (.ref 44), j32, some (gv q), j36], [], gm_h s g)) (md_count_l174 g  fuel v33 v34) (jm_sup cd_304 (jm_cl jm_CD km_n (d + 7)) (174, [some (.ref 44), j32, some (gv v33), some (gv v34)], [], gm_h s g)) := by
  intro fuel
  induction fuel with
  | zero => intros; exact jr_none
  | succ fuel ih =>
    intro v33 v34 j32 hj32
    unfold md_count_l174
    exact (
      r_iload (pc2 := 175) rfl rfl rfl (
      r_aload (pc2 := 176) rfl rfl rfl (
      r_getI (pc2 := 179) rfl rfl (sh_T hs rfl rfl) (
      jr_g fun h37 => r_cge (pc2 := 182) (t := 205) rfl h37.1 h37.2 rfl (fun _ =>
      r_iload (pc2 := 183) rfl rfl rfl (
      r_aload (pc2 := 184) rfl rfl rfl (
      r_getA (pc2 := 187) rfl rfl (sh_T hs rfl rfl) (sh_A hs rfl rfl) (
      r_iload (pc2 := 188) rfl rfl rfl (
      jr_g fun h38 => r_iald (len := 30) (pc2 := 189) rfl rfl (sh_T hs rfl rfl) (sh_L hs rfl rfl) rfl h38 (
      jr_g fun h39 => r_ifeq (pc2 := 192) (t := 196) rfl h39 rfl (fun _ =>
      r_ic (x := 0) (pc2 := 197) rfl ic_0 rfl (
      r_iadd (pc2 := 198) rfl rfl (
      r_istoreL (L3 := fun v40 => [some (.ref 44), j32, some (gv v40), some (gv v34)]) (pc2 := 199) rfl rfl (fun _ => jm_st1j hj32 rfl ⟨rfl, rfl⟩) fun v40 => (
      r_iinc (kk := 1) (L2 := [some (.ref 44), j32, some (gv v40), some (gv (v34 + 1))]) (pc2 := 202) rfl ic_1 rfl rfl rfl (
      r_goto (t := 174) rfl (
      ih v40 (v34 + 1) _ hj32)))))) (fun _ =>
      r_ic (x := 1) (pc2 := 193) rfl ic_1 rfl (
      r_goto (t := 197) rfl (
      r_iadd (pc2 := 198) rfl rfl (
      r_istoreL (L3 := fun v42 => [some (.ref 44), j32, some (gv v42), some (gv v34)]) (pc2 := 199) rfl rfl (fun _ => jm_st1j hj32 rfl ⟨rfl, rfl⟩) fun v42 => (
      r_iinc (kk := 1) (L2 := [some (.ref 44), j32, some (gv v42), some (gv (v34 + 1))]) (pc2 := 202) rfl ic_1 rfl rfl rfl (
      r_goto (t := 174) rfl (
      ih v42 (v34 + 1) _ hj32))))))))))))) (fun _ =>
      jr_leaf ⟨_, rfl, rfl⟩)))))
theorem rl_md_count_l134 {s : gm_S} {n m : Nat} (hs : gm_sh s n m) (d : Nat)  (g : gm_T)   : ∀ (fuel : Nat) (v48 : Int) (v49 : Int) (j47 : Option Value) (hj47 : jm_lg j47 = false), jr (fun (q : Int) (c : Option jm_R) => ∃ (j51 : Option Value), jm_lg j51 = false ∧ c = jm_sup cd_304 (jm_cl jm_CD km_n (d + 7)) (170, [some (.ref 44), j47, some (gv q), j51], [], gm_h s g)) (md_count_l134 g  fuel v48 v49) (jm_sup cd_304 (jm_cl jm_CD km_n (d + 7)) (134, [some (.ref 44), j47, some (gv v48), some (gv v49)], [], gm_h s g)) := by
  intro fuel
  induction fuel with
  | zero => intros; exact jr_none
  | succ fuel ih =>
    intro v48 v49 j47 hj47
    unfold md_count_l134
    exact (
      r_iload (pc2 := 135) rfl rfl rfl (
      r_aload (pc2 := 136) rfl rfl rfl (
      r_getI (pc2 := 139) rfl rfl (sh_T hs rfl rfl) (
      jr_g fun h52 => r_cge (pc2 := 142) (t := 170) rfl h52.1 h52.2 rfl (fun _ =>
      r_iload (pc2 := 143) rfl rfl rfl (
      r_aload (pc2 := 144) rfl rfl rfl (
      r_aload (pc2 := 145) rfl rfl rfl (
      r_getA (pc2 := 148) rfl rfl (sh_T hs rfl rfl) (sh_A hs rfl rfl) (
      r_iload (pc2 := 149) rfl rfl rfl (
      jr_g fun h53 => r_iald (len := 30) (pc2 := 150) rfl rfl (sh_T hs rfl rfl) (sh_L hs rfl rfl) rfl h53 (
      r_callVP (pc2 := 153) (args := [.ref 44, gv (gm_I g 78 v49.toNat)]) (st2 := [gv v48]) rfl rfl rfl rfl rfl rfl (rc_of (sh_T hs rfl rfl)) (rf_md_holder hs (d + 6) g (gm_I g 78 v49.toNat) ) fun v54 => (
      r_ic (x := -1) (pc2 := 154) rfl ic_m1 rfl (
      jr_g fun h55 => r_ceq (pc2 := 157) (t := 161) rfl h55 (rgk rfl) rfl (fun _ =>
      r_ic (x := 0) (pc2 := 162) rfl ic_0 rfl (
      r_iadd (pc2 := 163) rfl rfl (
      r_istoreL (L3 := fun v56 => [some (.ref 44), j47, some (gv v56), some (gv v49)]) (pc2 := 164) rfl rfl (fun _ => jm_st1j hj47 rfl ⟨rfl, rfl⟩) fun v56 => (
      r_iinc (kk := 1) (L2 := [some (.ref 44), j47, some (gv v56), some (gv (v49 + 1))]) (pc2 := 167) rfl ic_1 rfl rfl rfl (
      r_goto (t := 134) rfl (
      ih v56 (v49 + 1) _ hj47)))))) (fun _ =>
      r_ic (x := 1) (pc2 := 158) rfl ic_1 rfl (
      r_goto (t := 162) rfl (
      r_iadd (pc2 := 163) rfl rfl (
      r_istoreL (L3 := fun v58 => [some (.ref 44), j47, some (gv v58), some (gv v49)]) (pc2 := 164) rfl rfl (fun _ => jm_st1j hj47 rfl ⟨rfl, rfl⟩) fun v58 => (
      r_iinc (kk := 1) (L2 := [some (.ref 44), j47, some (gv v58), some (gv (v49 + 1))]) (pc2 := 167) rfl ic_1 rfl rfl rfl (
      r_goto (t := 134) rfl (
      ih v58 (v49 + 1) _ hj47)))))))))))))))) (fun _ =>
      jr_leaf ⟨_, rfl, rfl⟩)))))
theorem rl_md_count_l98 {s : gm_S} {n m : Nat} (hs : gm_sh s n m) (d : Nat)  (g : gm_T)   : ∀ (fuel : Nat) (v64 : Int) (v65 : Int) (j63 : Option Value) (hj63 : jm_lg j63 = false), jr (fun (q : Int) (c : Option jm_R) => ∃ (j67 : Option Value), jm_lg j67 = false ∧ c = jm_sup cd_304 (jm_cl jm_CD km_n (d + 7)) (130, [some (.ref 44), j63, some (gv q), j67], [], gm_h s g)) (md_count_l98 g  fuel v64 v65) (jm_sup cd_304 (jm_cl jm_CD km_n (d + 7)) (98, [some (.ref 44), j63, some (gv v64), some (gv v65)], [], gm_h s g)) := by
  intro fuel
  induction fuel with
  | zero => intros; exact jr_none
  | succ fuel ih =>
    intro v64 v65 j63 hj63
    unfold md_count_l98
    exact (
      r_iload (pc2 := 99) rfl rfl rfl (
      r_aload (pc2 := 100) rfl rfl rfl (
      r_getI (pc2 := 103) rfl rfl (sh_T hs rfl rfl) (
      jr_g fun h68 => r_cge (pc2 := 106) (t := 130) rfl h68.1 h68.2 rfl (fun _ =>
      r_iload (pc2 := 107) rfl rfl rfl (
      r_aload (pc2 := 108) rfl rfl rfl (
      r_getA (pc2 := 111) rfl rfl (sh_T hs rfl rfl) (sh_A hs rfl rfl) (
      r_iload (pc2 := 112) rfl rfl rfl (
      jr_g fun h69 => r_iald (len := 30) (pc2 := 113) rfl rfl (sh_T hs rfl rfl) (sh_L hs rfl rfl) rfl h69 (
      r_iload (pc2 := 114) rfl rfl rfl (
      jr_g fun h70 => r_cne (pc2 := 117) (t := 121) rfl h70 (rg_ix h69 rfl) rfl (fun _ =>
      r_ic (x := 1) (pc2 := 118) rfl ic_1 rfl (
      r_goto (t := 122) rfl (
      r_iadd (pc2 := 123) rfl rfl (
      r_istoreL (L3 := fun v71 => [some (.ref 44), j63, some (gv v71), some (gv v65)]) (pc2 := 124) rfl rfl (fun _ => jm_st1j hj63 rfl ⟨rfl, rfl⟩) fun v71 => (
      r_iinc (kk := 1) (L2 := [some (.ref 44), j63, some (gv v71), some (gv (v65 + 1))]) (pc2 := 127) rfl ic_1 rfl rfl rfl (
      r_goto (t := 98) rfl (
      ih v71 (v65 + 1) _ hj63))))))) (fun _ =>
      r_ic (x := 0) (pc2 := 122) rfl ic_0 rfl (
      r_iadd (pc2 := 123) rfl rfl (
      r_istoreL (L3 := fun v73 => [some (.ref 44), j63, some (gv v73), some (gv v65)]) (pc2 := 124) rfl rfl (fun _ => jm_st1j hj63 rfl ⟨rfl, rfl⟩) fun v73 => (
      r_iinc (kk := 1) (L2 := [some (.ref 44), j63, some (gv v73), some (gv (v65 + 1))]) (pc2 := 127) rfl ic_1 rfl rfl rfl (
      r_goto (t := 98) rfl (
      ih v73 (v65 + 1) _ hj63))))))))))))) (fun _ =>
      jr_leaf ⟨_, rfl, rfl⟩)))))
theorem rl_md_count_l63 {s : gm_S} {n m : Nat} (hs : gm_sh s n m) (d : Nat)  (g : gm_T)   : ∀ (fuel : Nat) (v79 : Int) (v80 : Int) (j78 : Option Value) (hj78 : jm_lg j78 = false), jr (fun (q : Int) (c : Option jm_R) => ∃ (j82 : Option Value), jm_lg j82 = false ∧ c = jm_sup cd_304 (jm_cl jm_CD km_n (d + 7)) (94, [some (.ref 44), j78, some (gv q), j82], [], gm_h s g)) (md_count_l63 g  fuel v79 v80) (jm_sup cd_304 (jm_cl jm_CD km_n (d + 7)) (63, [some (.ref 44), j78, some (gv v79), some (gv v80)], [], gm_h s g)) := by
  intro fuel
  induction fuel with
  | zero => intros; exact jr_none
  | succ fuel ih =>
    intro v79 v80 j78 hj78
    unfold md_count_l63
    exact (
      r_iload (pc2 := 64) rfl rfl rfl (
      r_aload (pc2 := 65) rfl rfl rfl (
      r_getI (pc2 := 68) rfl rfl (sh_T hs rfl rfl) (
      jr_g fun h83 => r_cge (pc2 := 71) (t := 94) rfl h83.1 h83.2 rfl (fun _ =>
      r_iload (pc2 := 72) rfl rfl rfl (
      r_aload (pc2 := 73) rfl rfl rfl (
      r_getA (pc2 := 76) rfl rfl (sh_T hs rfl rfl) (sh_A hs rfl rfl) (
      r_iload (pc2 := 77) rfl rfl rfl (
      jr_g fun h84 => r_iald (len := 60) (pc2 := 78) rfl rfl (sh_T hs rfl rfl) (sh_L hs rfl rfl) rfl h84 (
      jr_g fun h85 => r_ifeq (pc2 := 81) (t := 85) rfl h85 rfl (fun _ =>
      r_ic (x := 0) (pc2 := 86) rfl ic_0 rfl (
      r_iadd (pc2 := 87) rfl rfl (
      r_istoreL (L3 := fun v86 => [some (.ref 44), j78, some (gv v86), some (gv v80)]) (pc2 := 88) rfl rfl (fun _ => jm_st1j hj78 rfl ⟨rfl, rfl⟩) fun v86 => (
      r_iinc (kk := 1) (L2 := [some (.ref 44), j78, some (gv v86), some (gv (v80 + 1))]) (pc2 := 91) rfl ic_1 rfl rfl rfl (
      r_goto (t := 63) rfl (
      ih v86 (v80 + 1) _ hj78)))))) (fun _ =>
      r_ic (x := 1) (pc2 := 82) rfl ic_1 rfl (
      r_goto (t := 86) rfl (
      r_iadd (pc2 := 87) rfl rfl (
      r_istoreL (L3 := fun v88 => [some (.ref 44), j78, some (gv v88), some (gv v80)]) (pc2 := 88) rfl rfl (fun _ => jm_st1j hj78 rfl ⟨rfl, rfl⟩) fun v88 => (
      r_iinc (kk := 1) (L2 := [some (.ref 44), j78, some (gv v88), some (gv (v80 + 1))]) (pc2 := 91) rfl ic_1 rfl rfl rfl (
      r_goto (t := 63) rfl (
      ih v88 (v80 + 1) _ hj78))))))))))))) (fun _ =>
      jr_leaf ⟨_, rfl, rfl⟩)))))
theorem rf_md_count {s : gm_S} {n m : Nat} (hs : gm_sh s n m) (d : Nat)  (g : gm_T) (a1 : Int)  : jr (eI s) (md_count g a1) (jm_cl jm_CD km_n (d + 8) 304 [.ref 44, gv a1] (gm_h s g)) := by
  unfold md_count
  exact (r_ent (cd := cd_304) (n := 4) (L0 := [some (.ref 44), some (gv a1), none, none]) rfl rfl rfl rfl (
      r_ic (x := 0) (pc2 := 1) rfl ic_0 rfl (
      r_istore (L2 := [some (.ref 44), some (gv a1), some (gv 0), none]) (pc2 := 2) rfl rfl rfl (
      r_aload (pc2 := 3) rfl rfl rfl (
      r_callVV (pc2 := 6) (args := [.ref 44]) (st2 := []) rfl rfl rfl rfl rfl rfl (rc_of (sh_T hs rfl rfl)) (rf_md_groups hs (d + 1) g ) fun g1 => (
      r_iload (pc2 := 7) rfl rfl rfl (
      jr_g fun h2 => (jr_ite (fun h3 => r_sw (pc2 := 56) rfl (sw_yes ic_0 h3) (
      r_aload (pc2 := 57) rfl rfl rfl (
      r_getI (pc2 := 60) rfl rfl (sh_T hs rfl rfl) (
      r_iret rfl rfl)))) (fun h3 =>
      jr_ite (fun h4 => r_sw (pc2 := 61) rfl (sw_no ic_0 h2 (rgk rfl) h3 (sw_yes ic_1 h4)) (
      r_ic (x := 0) (pc2 := 62) rfl ic_0 rfl (
      r_istore (L2 := [some (.ref 44), some (gv a1), some (gv 0), some (gv 0)]) (pc2 := 63) rfl rfl rfl (
      r_b1 (rl_md_count_l63 hs d  g1   fz 0 0 _ rfl) (fun v91 c h => match c, h with | _, ⟨j92, hj92, rfl⟩ => (
      r_iload (pc2 := 95) rfl rfl rfl (
      r_iret rfl rfl))))))) (fun h4 =>
      jr_ite (fun h5 => r_sw (pc2 := 96) rfl (sw_no ic_0 h2 (rgk rfl) h3 (sw_no ic_1 h2 (rgk rfl) h4 (sw_yes ic_2 h5))) (
      r_ic (x := 0) (pc2 := 97) rfl ic_0 rfl (
      r_istore (L2 := [some (.ref 44), some (gv a1), some (gv 0), some (gv 0)]) (pc2 := 98) rfl rfl rfl (
      r_b1 (rl_md_count_l98 hs d  g1   fz 0 0 _ rfl) (fun v76 c h => match c, h with | _, ⟨j77, hj77, rfl⟩ => (
      r_iload (pc2 := 131) rfl rfl rfl (
      r_iret rfl rfl))))))) (fun h5 =>
      jr_ite (fun h6 => r_sw (pc2 := 132) rfl (sw_no ic_0 h2 (rgk rfl) h3 (sw_no ic_1 h2 (rgk rfl) h4 (sw_no ic_2 h2 (rgk rfl) h5 (sw_yes ic_3 h6)))) (
      r_ic (x := 0) (pc2 := 133) rfl ic_0 rfl (
      r_istore (L2 := [some (.ref 44), some (gv a1), some (gv 0), some (gv 0)]) (pc2 := 134) rfl rfl rfl (
      r_b1 (rl_md_count_l134 hs d  g1   fz 0 0 _ rfl) (fun v61 c h => match c, h with | _, ⟨j62, hj62, rfl⟩ => (
      r_iload (pc2 := 171) rfl rfl rfl (
      r_iret rfl rfl))))))) (fun h6 =>
      jr_ite (fun h7 => r_sw (pc2 := 172) rfl (sw_no ic_0 h2 (rgk rfl) h3 (sw_no ic_1 h2 (rgk rfl) h4 (sw_no ic_2 h2 (rgk rfl) h5 (sw_no ic_3 h2 (rgk rfl) h6 (sw_yes ic_4 h7))))) (
      r_ic (x := 0) (pc2 := 173) rfl ic_0 rfl (
      r_istore (L2 := [some (.ref 44), some (gv a1), some (gv 0), some (gv 0)]) (pc2 := 174) rfl rfl rfl (
      r_b1 (rl_md_count_l174 hs d  g1   fz 0 0 _ rfl) (fun v45 c h => match c, h with | _, ⟨j46, hj46, rfl⟩ => (
      r_iload (pc2 := 206) rfl rfl rfl (
      r_iret rfl rfl))))))) (fun h7 =>
      jr_ite (fun h8 => r_sw (pc2 := 207) rfl (sw_no ic_0 h2 (rgk rfl) h3 (sw_no ic_1 h2 (rgk rfl) h4 (sw_no ic_2 h2 (rgk rfl) h5 (sw_no ic_3 h2 (rgk rfl) h6 (sw_no ic_4 h2 (rgk rfl) h7 (sw_yes ic_5 h8)))))) (
      r_aload (pc2 := 208) rfl rfl rfl (
      r_callVV (pc2 := 211) (args := [.ref 44]) (st2 := []) rfl rfl rfl rfl rfl rfl (rc_of (sh_T hs rfl rfl)) (rf_md_judges hs d g1 ) fun g12 => (
      r_ic (x := 0) (pc2 := 212) rfl ic_0 rfl (
      r_istore (L2 := [some (.ref 44), some (gv a1), some (gv 0), some (gv 0)]) (pc2 := 213) rfl rfl rfl (
      r_b2 (rl_md_count_l213 hs d     fz 0 0 g12 _ rfl) (fun v29 g31 c h => match c, h with | _, ⟨j30, hj30, rfl⟩ => (
      r_iload (pc2 := 245) rfl rfl rfl (
      r_iret rfl rfl))))))))) (fun h8 =>
      jr_ite (fun h9 => r_sw (pc2 := 246) rfl (sw_no ic_0 h2 (rgk rfl) h3 (sw_no ic_1 h2 (rgk rfl) h4 (sw_no ic_2 h2 (rgk rfl) h5 (sw_no ic_3 h2 (rgk rfl) h6 (sw_no ic_4 h2 (rgk rfl) h7 (sw_no ic_5 h2 (rgk rfl) h8 (sw_yes ic_6 h9))))))) (
      r_aload (pc2 := 247) rfl rfl rfl (
      r_getI (pc2 := 250) rfl rfl (sh_T hs rfl rfl) (
      r_iret rfl rfl)))) (fun h9 =>
      jr_ite (fun h10 => r_sw (pc2 := 251) rfl (sw_no ic_0 h2 (rgk rfl) h3 (sw_no ic_1 h2 (rgk rfl) h4 (sw_no ic_2 h2 (rgk rfl) h5 (sw_no ic_3 h2 (rgk rfl) h6 (sw_no ic_4 h2 (rgk rfl) h7 (sw_no ic_5 h2 (rgk rfl) h8 (sw_no ic_6 h2 (rgk rfl) h9 (sw_yes ic_7 h10)))))))) (
      r_aload (pc2 := 252) rfl rfl rfl (
      r_getI (pc2 := 255) rfl rfl (sh_T hs rfl rfl) (
      r_iret rfl rfl)))) (fun h10 =>
      jr_ite (fun h11 => r_sw (pc2 := 256) rfl (sw_no ic_0 h2 (rgk rfl) h3 (sw_no ic_1 h2 (rgk rfl) h4 (sw_no ic_2 h2 (rgk rfl) h5 (sw_no ic_3 h2 (rgk rfl) h6 (sw_no ic_4 h2 (rgk rfl) h7 (sw_no ic_5 h2 (rgk rfl) h8 (sw_no ic_6 h2 (rgk rfl) h9 (sw_no ic_7 h2 (rgk rfl) h10 (sw_yes ic_8 h11))))))))) (
      r_aload (pc2 := 257) rfl rfl rfl (
      r_getI (pc2 := 260) rfl rfl (sh_T hs rfl rfl) (
      r_iret rfl rfl)))) (fun h11 =>
      r_sw (pc2 := 261) rfl (sw_no ic_0 h2 (rgk rfl) h3 (sw_no ic_1 h2 (rgk rfl) h4 (sw_no ic_2 h2 (rgk rfl) h5 (sw_no ic_3 h2 (rgk rfl) h6 (sw_no ic_4 h2 (rgk rfl) h7 (sw_no ic_5 h2 (rgk rfl) h8 (sw_no ic_6 h2 (rgk rfl) h9 (sw_no ic_7 h2 (rgk rfl) h10 (sw_no ic_8 h2 (rgk rfl) h11 rfl))))))))) (
      r_ic (x := -1) (pc2 := 262) rfl ic_m1 rfl (
      r_iret rfl rfl)))))))))))))))))))
