/-! The ring: the reference's steps. -/
theorem mdn_eq {g : gm_T} {n c : Nat} {X Y : Nat → Int} (hn : n < 30) (hG : rG c X Y) (h : isR g n c X Y) {k : Nat} (hk : k < c) : md_next g (n : Int) (k : Int) = some ((8 * n + rnx c k : Nat) : Int) := by
  have c8 := hG.1.2
  have hd : ((k : Int) + 1) % (c : Int) = ((rnx c k : Nat) : Int) := by
    unfold rnx
    by_cases e : k + 1 < c
    · rw [if_pos e, Int.emod_eq_of_lt (by omega) (by omega)]; rfl
    · rw [if_neg e, show (k : Int) + 1 = (c : Int) from by omega, Int.emod_self]; rfl
  unfold md_next
  rw [jg_pos (by omega), Int.toNat_natCast, h.1, jg_pos ⟨⟨by omega, by omega⟩, by omega, by omega⟩, hd]
  rfl
theorem i8_eq (n k : Nat) : 8 * (n : Int) + (k : Int) = ((8 * n + k : Nat) : Int) := by omega
theorem mwx_eq {g : gm_T} {n c : Nat} {X Y : Nat → Int} (hn : n < 30) (hG : rG c X Y) (h : isR g n c X Y) {k : Nat} (hk : k < c) : md_wayX g (n : Int) (k : Int) = some (rdx c X k) := by
  have c8 := hG.1.2
  have hx : rnx c k < c := rnx_lt (by omega)
  unfold md_wayX
  rw [mdn_eq hn hG h hk, jb1_some, i8_eq, jg_pos (by omega), jg_pos (by omega), Int.toNat_natCast, Int.toNat_natCast, (h.2 k hk).1, (h.2 _ hx).1]
  rfl
theorem mwy_eq {g : gm_T} {n c : Nat} {X Y : Nat → Int} (hn : n < 30) (hG : rG c X Y) (h : isR g n c X Y) {k : Nat} (hk : k < c) : md_wayY g (n : Int) (k : Int) = some (rdx c Y k) := by
  have c8 := hG.1.2
  have hx : rnx c k < c := rnx_lt (by omega)
  unfold md_wayY
  rw [mdn_eq hn hG h hk, jb1_some, i8_eq, jg_pos (by omega), jg_pos (by omega), Int.toNat_natCast, Int.toNat_natCast, (h.2 k hk).2, (h.2 _ hx).2]
  rfl
theorem md_folds_eq {g : gm_T} {n c : Nat} {X Y : Nat → Int} (hn : n < 30) (hG : rG c X Y) (h : isR g n c X Y) {k m : Nat} (hk : k < c) (hm : m < c) : md_folds g (n : Int) (k : Int) (m : Int) = some (if rfo c X Y k m = true then 1 else 0) := by
  have dk := rdx_b hG hk
  have dm := rdx_b hG hm
  have p1 := pb40 dk.1 dm.2
  have p2 := pb40 dk.2 dm.1
  have p3 := pb40 dk.1 dm.1
  have p4 := pb40 dk.2 dm.2
  unfold md_folds md_cross rfo
  rw [mwx_eq hn hG h hk, jb1_some, mwx_eq hn hG h hm, jb1_some, mwy_eq hn hG h hk, jb1_some, mwy_eq hn hG h hm, jb1_some, jl_eq, jb1_some, jb1_some, jb1_some, jb1_some, jb1_some, jg_pos ⟨by omega, by omega⟩]
  by_cases e1 : rdx c X k * rdx c Y m - rdx c Y k * rdx c X m = 0
  · rw [if_pos e1, jg_pos ⟨by omega, by omega⟩]
    by_cases e2 : rdx c X k * rdx c X m + rdx c Y k * rdx c Y m < 0
    · rw [if_pos e2, if_pos (decide_eq_true ⟨e1, e2⟩)]
    · rw [if_neg e2, if_neg (fun q => e2 (of_decide_eq_true q).2)]
  · rw [if_neg e1, if_neg (fun q => e1 (of_decide_eq_true q).1)]
theorem md_side_eq {g : gm_T} {n c : Nat} {X Y : Nat → Int} (hn : n < 30) (hG : rG c X Y) (h : isR g n c X Y) {k m : Nat} (hk : k < c) (hm : m < c) : md_side g (n : Int) (k : Int) (X m) (Y m) = some (rsg (rtu c X Y k m)) := by
  have c8 := hG.1.2
  have b := rtu_b hG hk hm
  unfold md_side md_cross
  rw [mwx_eq hn hG h hk, jb1_some, mwy_eq hn hG h hk, jb1_some, i8_eq, jg_pos (by omega), Int.toNat_natCast, (h.2 k hk).1, (h.2 k hk).2, jb1_some]
  show jb1 (md_sign g (rtu c X Y k m)) (fun v5 => some v5) = _
  unfold md_sign rsg
  rw [jg_pos ⟨by omega, by omega⟩]
  by_cases e : rtu c X Y k m < 0
  · rw [if_pos (by omega), if_pos e, if_pos e]; rfl
  · by_cases e2 : rtu c X Y k m = 0
    · rw [if_pos (by omega), if_neg e, if_neg e, if_pos e2]; rfl
    · rw [if_neg (by omega), if_neg e, if_neg e2]; rfl
theorem md_isOn_eq {g : gm_T} {n c : Nat} {X Y : Nat → Int} (hn : n < 30) (hG : rG c X Y) (h : isR g n c X Y) {k m : Nat} (hk : k < c) (hm : m < c) : md_isOn g (n : Int) (k : Int) (X m) (Y m) = some (if (decide (rsg (rtu c X Y k m) = 0) && rsp c X Y k m) = true then 1 else 0) := by
  have c8 := hG.1.2
  have hx : rnx c k < c := rnx_lt (by omega)
  have bk := hG.2 k hk
  have bm := hG.2 m hm
  have bn := hG.2 _ hx
  unfold md_isOn
  rw [jl_eq, mdn_eq hn hG h hk, jb1_some, i8_eq, jg_pos (by omega), jg_pos (by omega), Int.toNat_natCast, Int.toNat_natCast, (h.2 k hk).1, (h.2 _ hx).1, jg_pos ⟨rg20 bk.1, rg20 bn.1⟩, md_in_eq (rg20 bm.1) (rg20 (zmin_b bk.1 bn.1)) (rg20 (zmax_b bk.1 bn.1)), jb1_some, md_side_eq hn hG h hk hm, jb1_some, jg_pos (rsg_r _), jg_pos rg01, (h.2 k hk).2, (h.2 _ hx).2, jg_pos ⟨rg20 bk.2, rg20 bn.2⟩, md_in_eq (rg20 bm.2) (rg20 (zmin_b bk.2 bn.2)) (rg20 (zmax_b bk.2 bn.2)), jb_tst]
  by_cases e0 : rsg (rtu c X Y k m) = 0
  · rw [if_pos e0, show decide (rsg (rtu c X Y k m) = 0) = true from decide_eq_true e0, Bool.true_and]
    unfold rsp
    by_cases e1 : zmin (X k) (X (rnx c k)) ≤ X m ∧ X m ≤ zmax (X k) (X (rnx c k))
    · rw [if_pos e1, if_neg n10]
      by_cases e2 : zmin (Y k) (Y (rnx c k)) ≤ Y m ∧ Y m ≤ zmax (Y k) (Y (rnx c k))
      · rw [if_pos e2, if_pos (decide_eq_true ⟨⟨e1, e2.1⟩, e2.2⟩)]
      · rw [if_neg e2, if_neg (fun q => e2 ⟨(of_decide_eq_true q).1.2, (of_decide_eq_true q).2⟩)]
    · rw [if_neg e1, if_pos rfl, if_neg (fun q => e1 (of_decide_eq_true q).1.1)]
  · rw [if_neg e0, show decide (rsg (rtu c X Y k m) = 0) = false from decide_eq_false e0, Bool.false_and]
    rfl
theorem md_meet_eq {g : gm_T} {n c : Nat} {X Y : Nat → Int} (hn : n < 30) (hG : rG c X Y) (h : isR g n c X Y) {k m : Nat} (hk : k < c) (hm : m < c) : md_meet g (n : Int) (k : Int) (m : Int) = some (if rcx c X Y k m = true then 1 else 0) := by
  have c8 := hG.1.2
  have hx : rnx c k < c := rnx_lt (by omega)
  have hy : rnx c m < c := rnx_lt (by omega)
  unfold md_meet
  rw [jl_eq, mdn_eq hn hG h hk, jb1_some, jl_eq, mdn_eq hn hG h hm, jb1_some, i8_eq, i8_eq, jg_pos (by omega), Int.toNat_natCast, (h.2 m hm).1, (h.2 m hm).2, md_isOn_eq hn hG h hk hm, jb_tst, jg_pos (by omega), Int.toNat_natCast, (h.2 _ hy).1, (h.2 _ hy).2, md_isOn_eq hn hG h hk hy, jb_tst, jg_pos (by omega), Int.toNat_natCast, (h.2 k hk).1, (h.2 k hk).2, md_isOn_eq hn hG h hm hk, jb_tst, jg_pos (by omega), Int.toNat_natCast, (h.2 _ hx).1, (h.2 _ hx).2, md_isOn_eq hn hG h hm hx, jb_tst, md_side_eq hn hG h hk hm, jb1_some, md_side_eq hn hG h hk hy, jb1_some, jg_pos (rsg_m _ _), md_side_eq hn hG h hm hk, jb1_some, md_side_eq hn hG h hm hx, jb1_some, jg_pos (rsg_m _ _)]
  unfold rcx
  generalize rsg (rtu c X Y k m) = a1
  generalize rsg (rtu c X Y k (rnx c m)) = a2
  generalize rsg (rtu c X Y m k) = a3
  generalize rsg (rtu c X Y m (rnx c k)) = a4
  generalize (decide (a1 = 0) && rsp c X Y k m) = b1
  generalize (decide (a2 = 0) && rsp c X Y k (rnx c m)) = b2
  generalize (decide (a3 = 0) && rsp c X Y m k) = b3
  generalize (decide (a4 = 0) && rsp c X Y m (rnx c k)) = b4
  generalize hP : decide (a1 * a2 < 0) = P1
  generalize hQ : decide (a3 * a4 < 0) = P2
  have e0 : (a1 * a2 < 0) = (P1 = true) := by rw [← hP]; simp
  have e5 : (a3 * a4 < 0) = (P2 = true) := by rw [← hQ]; simp
  simp only [e0, e5]
  clear e0 e5 hP hQ
  cases b1 <;> cases b2 <;> cases b3 <;> cases b4 <;> cases P1 <;> cases P2 <;> rfl
