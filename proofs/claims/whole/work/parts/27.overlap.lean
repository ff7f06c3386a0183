/-! Cells in common: Bit.common, and the reference's overlaps. -/
/-- whether bit b has the cell (x, y), by the reference's grid -/
def Kc (g : gm_T) (b : Nat) (x y : Int) : Bool := decide ((-20 ≤ x ∧ x ≤ 19) ∧ -20 ≤ y ∧ y ≤ 19) && decide (gm_I g 61 (1600 * b + 40 * (y + 20).toNat + (x + 20).toNat) ≠ 0)
/-- its cells, turned by t -/
def Kt (g : gm_T) (b : Nat) (t x y : Int) : Bool := Kc g b (cX (ti t) x y) (cY (ti t) x y)
theorem Kc_in (g : gm_T) (b : Nat) : ing (Kc g b) := fun x y h => by
  unfold Kc at h
  rw [Bool.and_eq_true] at h
  exact of_decide_eq_true h.1
theorem ti_in {t : Int} (h : 0 ≤ t ∧ t ≤ 3) : 0 ≤ ti t ∧ ti t ≤ 3 := by
  unfold ti
  split <;> omega
theorem Kt_in (g : gm_T) (b : Nat) {t : Int} (h : 0 ≤ t ∧ t ≤ 3) : ing (Kt g b t) := fun x y hq => c_out (ti_in h) (Kc_in g b _ _ hq)
theorem Kt_0 (g : gm_T) (b : Nat) (x y : Int) : Kt g b 0 x y = Kc g b x y := rfl
theorem Kt_c (g : gm_T) (b : Nat) {t : Int} (h : 0 ≤ t ∧ t ≤ 3) (x y : Int) : Kt g b t (cX t x y) (cY t x y) = Kc g b x y := by
  obtain ⟨h1, h2, -⟩ := c_inv (x := x) (y := y) h
  unfold Kt
  rw [h1, h2]
/-- the cells: the reference's grid and its list, the class's rows -/
def V_cell (n : Nat) (g : gm_T) : Prop := ∀ b, b < n → (∀ k, k < 1600 → gm_I g 61 (1600 * b + k) = 0 ∨ gm_I g 61 (1600 * b + k) = 1) ∧ (∀ i : Nat, (i : Int) < gm_I g 57 b → (-20 ≤ gm_I g 59 (1600 * b + i) ∧ gm_I g 59 (1600 * b + i) ≤ 19) ∧ -20 ≤ gm_I g 60 (1600 * b + i) ∧ gm_I g 60 (1600 * b + i) ≤ 19) ∧ (∀ f : Int → Int → Nat, sm (fun i => f (gm_I g 59 (1600 * b + i)) (gm_I g 60 (1600 * b + i))) (gm_I g 57 b).toNat = s2 (fun x y => if Kc g b x y = true then f x y else 0)) ∧ ∀ t v : Nat, t < 4 → v < 40 → ∃ r : Nat, gm_J g (bA b + 1) (40 * t + v) = lN r ∧ r < 2 ^ 40 ∧ ∀ u, u < 40 → r.testBit u = Kt g b (t : Int) (gq u) (gq v)
-- the reference
theorem md_turnedX_eq {g : gm_T} {t x y : Int} (ht : 0 ≤ t ∧ t ≤ 3) (hx : rg (-x)) (hy : rg (-y)) : md_turnedX g t x y = some (tX t x y) := by
  unfold md_turnedX tX
  rw [jg_pos ⟨by omega, by omega⟩, nm_eq hx, nm_eq hy]
  simp only [ite_some2]
theorem md_turnedY_eq {g : gm_T} {t x y : Int} (ht : 0 ≤ t ∧ t ≤ 3) (hx : rg (-x)) (hy : rg (-y)) : md_turnedY g t x y = some (tY t x y) := by
  unfold md_turnedY tY
  rw [jg_pos ⟨by omega, by omega⟩, nm_eq hx, nm_eq hy]
  simp only [ite_some2]
theorem md_cellX_eq {g : gm_T} {t x y : Int} (ht : 0 ≤ t ∧ t ≤ 3) (hx : -1000000 ≤ x ∧ x ≤ 1000000) (hy : -1000000 ≤ y ∧ y ≤ 1000000) : md_cellTurnedX g t x y = some (cX t x y) := by
  unfold md_cellTurnedX
  rw [md_turnedX_eq ht ⟨by omega, by omega⟩ ⟨by omega, by omega⟩, jb1_some, jg_pos ⟨by omega, by omega⟩]
  rcases t4 ht with rfl | rfl | rfl | rfl
  · show some (nm (x - 0)) = some x
    rw [nm_eq ⟨by omega, by omega⟩, Int.sub_zero]
  · show some (nm (-y - 1)) = some (-y - 1)
    rw [nm_eq ⟨by omega, by omega⟩]
  · show some (nm (-x - 1)) = some (-x - 1)
    rw [nm_eq ⟨by omega, by omega⟩]
  · show some (nm (y - 0)) = some y
    rw [nm_eq ⟨by omega, by omega⟩, Int.sub_zero]
theorem md_cellY_eq {g : gm_T} {t x y : Int} (ht : 0 ≤ t ∧ t ≤ 3) (hx : -1000000 ≤ x ∧ x ≤ 1000000) (hy : -1000000 ≤ y ∧ y ≤ 1000000) : md_cellTurnedY g t x y = some (cY t x y) := by
  unfold md_cellTurnedY
  rw [md_turnedY_eq ht ⟨by omega, by omega⟩ ⟨by omega, by omega⟩, jb1_some, jg_pos ⟨by omega, by omega⟩]
  rcases t4 ht with rfl | rfl | rfl | rfl
  · show some (nm (y - 0)) = some y
    rw [nm_eq ⟨by omega, by omega⟩, Int.sub_zero]
  · show some (nm (x - 0)) = some x
    rw [nm_eq ⟨by omega, by omega⟩, Int.sub_zero]
  · show some (nm (-y - 1)) = some (-y - 1)
    rw [nm_eq ⟨by omega, by omega⟩]
  · show some (nm (-x - 1)) = some (-x - 1)
    rw [nm_eq ⟨by omega, by omega⟩]
theorem md_hasCell_eq {n : Nat} {g : gm_T} (hc : V_cell n g) (hn : n ≤ 30) {b : Nat} (hb : b < n) {x y : Int} (hx : rg x) (hy : rg y) : md_hasCell g (b : Int) x y = some (if Kc g b x y then 1 else 0) := by
  unfold md_hasCell md_isGrid md_gridOf
  rw [md_in_eq hx (rgk rfl) (rgk rfl), jb_tst, md_in_eq hy (rgk rfl) (rgk rfl), jb_tst]
  by_cases h1 : -20 ≤ x ∧ x ≤ 19
  · by_cases h2 : -20 ≤ y ∧ y ≤ 19
    · rw [if_pos h1, if_pos h2, jb1_some, jg_pos (rgk rfl), if_neg (by decide), jb1_some, jg_pos (by omega)]
      have hk : (1600 * (b : Int) + 40 * (y + 20) + x + 20).toNat = 1600 * b + (40 * (y + 20).toNat + (x + 20).toNat) := by omega
      have hv := (hc b hb).1 (40 * (y + 20).toNat + (x + 20).toNat) (by omega)
      rw [hk]
      have hd : Kc g b x y = decide (gm_I g 61 (1600 * b + (40 * (y + 20).toNat + (x + 20).toNat)) ≠ 0) := by
        unfold Kc
        rw [decide_eq_true (⟨h1, h2⟩ : (-20 ≤ x ∧ x ≤ 19) ∧ -20 ≤ y ∧ y ≤ 19), Bool.true_and, Nat.add_assoc]
      rw [hd]
      rcases hv with hv | hv
      · rw [hv, jg_pos (rgk rfl)]; rfl
      · rw [hv, jg_pos (rgk rfl)]; rfl
    · rw [if_pos h1, if_neg h2, jb1_some, jg_pos (rgk rfl), if_pos rfl, show Kc g b x y = false from ing_no (Kc_in g b) (fun q => h2 q.2)]
      rfl
  · rw [if_neg h1, jb1_some, jg_pos (rgk rfl), if_pos rfl, show Kc g b x y = false from ing_no (Kc_in g b) (fun q => h1 q.1)]
    rfl
/-- the cells in common, b placed by (t, x, y) against a -/
def ov (g : gm_T) (a b : Nat) (t x y : Int) : Nat := s2 (fun p q => if Kc g b p q = true then (if Kc g a (cX t p q + x) (cY t p q + y) = true then 1 else 0) else 0)
theorem md_overlaps_lp {n : Nat} {g : gm_T} (hc : V_cell n g) (hn : n ≤ 30) {a b : Nat} (ha : a < n) (hb : b < n) (hcb : 0 ≤ gm_I g 57 b ∧ gm_I g 57 b ≤ 1600) {t x y : Int} (ht : 0 ≤ t ∧ t ≤ 3) (hx : -1000000 ≤ x ∧ x ≤ 1000000) (hy : -1000000 ≤ y ∧ y ≤ 1000000) : ∀ (fuel i : Nat), i ≤ (gm_I g 57 b).toNat → (gm_I g 57 b).toNat < fuel + i → md_overlaps_l10 g (a : Int) (b : Int) t x y fuel ((sm (fun i => if Kc g a (cX t (gm_I g 59 (1600 * b + i)) (gm_I g 60 (1600 * b + i)) + x) (cY t (gm_I g 59 (1600 * b + i)) (gm_I g 60 (1600 * b + i)) + y) = true then 1 else 0) i : Nat) : Int) ((1600 * b + i : Nat) : Int) = some ((sm (fun i => if Kc g a (cX t (gm_I g 59 (1600 * b + i)) (gm_I g 60 (1600 * b + i)) + x) (cY t (gm_I g 59 (1600 * b + i)) (gm_I g 60 (1600 * b + i)) + y) = true then 1 else 0) (gm_I g 57 b).toNat : Nat) : Int) := by
  intro fuel
  induction fuel with
  | zero => intro i h1 h2; omega
  | succ fuel ih =>
    intro i h1 h2
    unfold md_overlaps_l10
    rw [jg_pos (by omega), Int.toNat_natCast, jg_pos (show rg ((1600 * b + i : Nat) : Int) ∧ rg (1600 * (b : Int) + gm_I g 57 b) from ⟨⟨by omega, by omega⟩, by omega, by omega⟩)]
    by_cases hi : i < (gm_I g 57 b).toNat
    · obtain ⟨c1, c2⟩ := (hc b hb).2.1 i (by omega)
      have i1 := ih (i + 1) (by omega) (by omega)
      rw [if_pos (by omega), jg_pos (by omega), Int.toNat_natCast, md_cellX_eq ht ⟨by omega, by omega⟩ ⟨by omega, by omega⟩, jb1_some, md_cellY_eq ht ⟨by omega, by omega⟩ ⟨by omega, by omega⟩, jb1_some]
      obtain ⟨d1, d2⟩ := c_in ht c1 c2
      rw [md_hasCell_eq hc hn ha ⟨by omega, by omega⟩ ⟨by omega, by omega⟩, jb_tst]
      rw [sm_succ, show ((1600 * b + (i + 1) : Nat) : Int) = ((1600 * b + i : Nat) : Int) + 1 by omega] at i1
      rw [← i1]
      simp only [jl_eq]
      split
      · rfl
      · rfl
    · rw [if_neg (by omega), show (gm_I g 57 b).toNat = i by omega]
theorem md_overlaps_eq {n : Nat} {g : gm_T} (hc : V_cell n g) (hn : n ≤ 30) {a b : Nat} (ha : a < n) (hb : b < n) (hcb : 0 ≤ gm_I g 57 b ∧ gm_I g 57 b ≤ 1600) {t x y : Int} (ht : 0 ≤ t ∧ t ≤ 3) (hx : -1000000 ≤ x ∧ x ≤ 1000000) (hy : -1000000 ≤ y ∧ y ≤ 1000000) : md_overlaps g (a : Int) (b : Int) t x y = some ((ov g a b t x y : Nat) : Int) := by
  unfold md_overlaps
  have h1 := md_overlaps_lp hc hn ha hb hcb ht hx hy fz 0 (by omega) (by have : 2000 < fz := fz_gt rfl; omega)
  simp only [jl_eq]
  rw [show 1600 * (b : Int) = ((1600 * b + 0 : Nat) : Int) by omega]
  rw [show sm (fun i => if Kc g a (cX t (gm_I g 59 (1600 * b + i)) (gm_I g 60 (1600 * b + i)) + x) (cY t (gm_I g 59 (1600 * b + i)) (gm_I g 60 (1600 * b + i)) + y) = true then 1 else 0) 0 = 0 from rfl] at h1
  rw [show (0 : Int) = ((0 : Nat) : Int) from rfl, h1, jb1_some]
  have h2 := (hc b hb).2.2.1 (fun p q => if Kc g a (cX t p q + x) (cY t p q + y) = true then 1 else 0)
  rw [h2]
  rfl
-- the class
theorem sh_row {r : Nat} (hr : r < 2 ^ 40) {x : Int} (hx : -40 < x ∧ x < 40) : ∃ m, (if x < 0 then some (lSu (lN r) (-x)) else some (lSl (lN r) x)) = some (lN m) ∧ m < 2 ^ 64 ∧ ∀ i : Nat, i < 40 → m.testBit i = (decide (x ≤ (i : Int)) && r.testBit ((i : Int) - x).toNat) := by
  have hr64 : r < 2 ^ 64 := Nat.lt_of_lt_of_le hr (by decide)
  by_cases h : x < 0
  · obtain ⟨k, hk⟩ : ∃ k : Nat, -x = (k : Int) := ⟨_, (Int.toNat_of_nonneg (by omega)).symm⟩
    refine ⟨r >>> k, ?_, Nat.lt_of_le_of_lt (by rw [Nat.shiftRight_eq_div_pow]; exact Nat.div_le_self _ _) hr64, fun i hi => ?_⟩
    · rw [if_pos h, hk, lSu_n hr64 (by omega)]
    · rw [Nat.testBit_shiftRight, decide_eq_true (show x ≤ (i : Int) by omega), Bool.true_and, show ((i : Int) - x).toNat = k + i by omega]
  · obtain ⟨k, hk⟩ : ∃ k : Nat, x = (k : Int) := ⟨_, (Int.toNat_of_nonneg (by omega)).symm⟩
    subst hk
    refine ⟨r * 2 ^ k % 2 ^ 64, ?_, Nat.mod_lt _ (by decide), fun i hi => ?_⟩
    · rw [if_neg h]
      unfold lSl
      rw [im_ofN, show lN r <<< ((Int32.ofNat k).toInt64 &&& 63) = lN (r * 2 ^ k) from wb_shl r (by omega), wb_mod]
    · rw [Nat.testBit_mod_two_pow, decide_eq_true (show i < 64 by omega), Bool.true_and]
      by_cases hki : k ≤ i
      · rw [decide_eq_true (show (k : Int) ≤ (i : Int) by omega), Bool.true_and, show ((i : Int) - (k : Int)).toNat = i - k by omega]
        have := Nat.testBit_mul_two_pow r i k
        rw [this, decide_eq_true hki, Bool.true_and]
      · rw [decide_eq_false (show ¬ (k : Int) ≤ (i : Int) by omega), Bool.false_and]
        have := Nat.testBit_mul_two_pow r i k
        rw [this, decide_eq_false hki, Bool.false_and]
theorem bc_and (g : gm_T) {a m : Nat} (ha : a < 2 ^ 40) (hm : m < 2 ^ 64) : je_bitCount g (lN a &&& lN m) = some ((sm (fun i => if (a.testBit i && m.testBit i) = true then 1 else 0) 40 : Nat) : Int) := by
  have ha64 : a < 2 ^ 64 := Nat.lt_of_lt_of_le ha (by decide)
  rw [wb_and ha64 hm, je_bitCount_n g (Nat.lt_of_le_of_lt Nat.and_le_left ha64)]
  have h1 : ct (a &&& m).testBit 64 = ct (a &&& m).testBit 40 := ct_more (fun i hi => by
    rw [Nat.testBit_and, Nat.testBit_lt_two_pow (Nat.lt_of_lt_of_le ha (Nat.pow_le_pow_right (n := 2) (by decide) hi)), Bool.false_and]) 64 (by decide)
  rw [h1, ct_sm]
  congr 2
  exact sm_cong fun i _ => by rw [Nat.testBit_and]
/-- the cells in common of one row -/
def rowc (g : gm_T) (a b : Nat) (t u x y : Int) (v : Nat) : Nat := sm (fun i => if (Kt g a t (gq i) (gq v) && Kt g b u (gq i - x) (gq v - y)) = true then 1 else 0) 40
theorem cb_common_lp {n : Nat} {g : gm_T} (hc : V_cell n g) {a b : Nat} (ha : a < n) (hb : b < n) {t u x y e : Int} (ht : 0 ≤ t ∧ t ≤ 3) (hu : 0 ≤ u ∧ u ≤ 3) (hx : -40 < x ∧ x < 40) (hy : -40 < y ∧ y < 40) (he : e ≤ 40 ∧ e ≤ 40 + y ∧ 0 ≤ e) : ∀ (fuel v : Nat) (acc : Nat), y ≤ (v : Int) → (v : Int) ≤ e → e.toNat < fuel + v → cb_common_l53 g a t b u x y e fuel (acc : Int) (v : Int) = some ((acc + sm (fun i => rowc g a b t u x y (v + i)) (e.toNat - v) : Nat) : Int) := by
  intro fuel
  induction fuel with
  | zero => intro v acc h0 h1 h2; omega
  | succ fuel ih =>
    intro v acc h0 h1 h2
    unfold cb_common_l53
    rw [jg_pos (show rg (v : Int) ∧ rg e from ⟨⟨by omega, by omega⟩, by omega, by omega⟩)]
    by_cases hv : (v : Int) < e
    · obtain ⟨w, hw⟩ : ∃ w : Nat, (v : Int) - y = (w : Int) := ⟨_, (Int.toNat_of_nonneg (by omega)).symm⟩
      obtain ⟨tn, rfl⟩ : ∃ tn : Nat, t = (tn : Int) := ⟨_, (Int.toNat_of_nonneg ht.1).symm⟩
      obtain ⟨un, rfl⟩ : ∃ un : Nat, u = (un : Int) := ⟨_, (Int.toNat_of_nonneg hu.1).symm⟩
      obtain ⟨ra, r1, r2, r3⟩ := (hc a ha).2.2.2 tn v (by omega) (by omega)
      obtain ⟨rb, s1, s2_, s3⟩ := (hc b hb).2.2.2 un w (by omega) (by omega)
      obtain ⟨m, m1, m2, m3⟩ := sh_row s2_ hx
      rw [if_pos hv, jg_pos (by omega), show ((un : Int) * 40 + (v : Int) - y).toNat = 40 * un + w by omega, s1]
      simp only [jl_eq]
      rw [jg_pos ⟨by omega, by omega⟩, m1, jb1_some, jg_pos (by omega), show ((tn : Int) * 40 + (v : Int)).toNat = 40 * tn + v by omega, r1, bc_and g r2 m2, jb1_some]
      have hrow : sm (fun i => if (ra.testBit i && m.testBit i) = true then 1 else 0) 40 = rowc g a b (tn : Int) (un : Int) x y v := by
        unfold rowc
        refine sm_cong fun i hi => ?_
        rw [r3 i hi, m3 i hi]
        have e2 : (decide (x ≤ (i : Int)) && rb.testBit ((i : Int) - x).toNat) = Kt g b (un : Int) (gq i - x) (gq v - y) := by
          by_cases q1 : x ≤ (i : Int)
          · by_cases q2 : (i : Int) - x < 40
            · rw [decide_eq_true q1, Bool.true_and, s3 _ (by omega)]
              congr 1
              · unfold gq; omega
              · unfold gq; omega
            · rw [decide_eq_true q1, Bool.true_and, Nat.testBit_lt_two_pow (Nat.lt_of_lt_of_le s2_ (Nat.pow_le_pow_right (n := 2) (by decide) (show 40 ≤ ((i : Int) - x).toNat by omega)))]
              exact (ing_no (Kt_in g b hu) (by unfold gq; omega)).symm
          · rw [decide_eq_false q1, Bool.false_and]
            exact (ing_no (Kt_in g b hu) (by unfold gq; omega)).symm
        rw [e2]
      rw [hrow, show (acc : Int) + ((rowc g a b (tn : Int) (un : Int) x y v : Nat) : Int) = ((acc + rowc g a b (tn : Int) (un : Int) x y v : Nat) : Int) by omega]
      have i1 := ih (v + 1) (acc + rowc g a b (tn : Int) (un : Int) x y v) (by omega) (by omega) (by omega)
      rw [show ((v + 1 : Nat) : Int) = (v : Int) + 1 by omega] at i1
      rw [i1]
      congr 2
      have h5 := sm_split (fun i => rowc g a b (tn : Int) (un : Int) x y (v + i)) 1 (e.toNat - (v + 1))
      rw [show 1 + (e.toNat - (v + 1)) = e.toNat - v by omega] at h5
      rw [h5]
      have h6 : sm (fun i => rowc g a b (tn : Int) (un : Int) x y (v + (1 + i))) (e.toNat - (v + 1)) = sm (fun i => rowc g a b (tn : Int) (un : Int) x y (v + 1 + i)) (e.toNat - (v + 1)) := sm_cong fun i _ => by rw [Nat.add_assoc]
      have h7 : sm (fun i => rowc g a b (tn : Int) (un : Int) x y (v + i)) 1 = rowc g a b (tn : Int) (un : Int) x y v := by
        show 0 + rowc g a b (tn : Int) (un : Int) x y (v + 0) = _
        rw [Nat.add_zero, Nat.zero_add]
      rw [h6, h7]
      omega
    · rw [if_neg hv, show e.toNat - v = 0 by omega]
      rfl
theorem cb_common_eq {n : Nat} {g : gm_T} (hc : V_cell n g) {a b : Nat} (ha : a < n) (hb : b < n) {t u x y : Int} (ht : 0 ≤ t ∧ t ≤ 3) (hu : 0 ≤ u ∧ u ≤ 3) (hx : rg x) (hy : rg y) : cb_common g a t b u x y = some ((s2 (fun p q => if (Kt g a t p q && Kt g b u (p - x) (q - y)) = true then 1 else 0) : Nat) : Int) := by
  have none : (¬ (-40 < x ∧ x < 40) ∨ ¬ (-40 < y ∧ y < 40)) → s2 (fun p q => if (Kt g a t p q && Kt g b u (p - x) (q - y)) = true then 1 else 0) = 0 := fun hq => by
    rw [s2_cong (h := fun _ _ => 0)]
    · unfold s2
      exact sm_none fun _ _ => sm_zero _
    · intro p q h1 h2 h3 h4
      rw [show Kt g b u (p - x) (q - y) = false from ing_no (Kt_in g b hu) (by omega), Bool.and_false]
      rfl
  unfold cb_common
  rw [jg_pos hx, jg_pos hy]
  by_cases h1 : x ≤ -40
  · rw [if_pos h1, none (Or.inl (by omega))]
    rfl
  · rw [if_neg h1]
    by_cases h2 : x < 40
    · rw [if_pos h2]
      by_cases h3 : y ≤ -40
      · rw [if_pos h3, none (Or.inr (by omega))]
        rfl
      · rw [if_neg h3]
        by_cases h4 : y < 40
        · rw [if_pos h4, jg_pos ⟨by omega, by omega⟩]
          simp only [jl_eq]
          have hmin : zmin 40 (40 + y) ≤ 40 ∧ zmin 40 (40 + y) ≤ 40 + y ∧ 0 ≤ zmin 40 (40 + y) ∧ (zmin 40 (40 + y) = 40 ∨ zmin 40 (40 + y) = 40 + y) := by
            unfold zmin
            split <;> omega
          have hmax : 0 ≤ zmax 0 y ∧ y ≤ zmax 0 y ∧ zmax 0 y ≤ zmin 40 (40 + y) ∧ (zmax 0 y = 0 ∨ zmax 0 y = y) := by
            unfold zmax zmin
            split <;> split <;> omega
          obtain ⟨v, hv⟩ : ∃ v : Nat, zmax 0 y = (v : Int) := ⟨_, (Int.toNat_of_nonneg hmax.1).symm⟩
          have h5 := cb_common_lp hc ha hb ht hu ⟨by omega, h2⟩ ⟨by omega, h4⟩ ⟨hmin.1, hmin.2.1, hmin.2.2.1⟩ fz v 0 (by omega) (by omega) (by have : 2000 < fz := fz_gt rfl; omega)
          rw [hv, show (0 : Int) = ((0 : Nat) : Int) from rfl, h5, jb1_some]
          congr 2
          have zero : ∀ w : Nat, w < 40 → ((w : Int) < zmax 0 y ∨ zmin 40 (40 + y) ≤ (w : Int)) → rowc g a b t u x y w = 0 := by
            intro w hw hq
            unfold rowc
            refine sm_none fun i hi => ?_
            rw [show Kt g b u (gq i - x) (gq w - y) = false from ing_no (Kt_in g b hu) (by unfold gq; omega), Bool.and_false]
            rfl
          show 0 + sm (fun i => rowc g a b t u x y (v + i)) ((zmin 40 (40 + y)).toNat - v) = sm (fun w => rowc g a b t u x y w) 40
          have e1 := sm_split (fun w => rowc g a b t u x y w) v (40 - v)
          have e2 := sm_split (fun i => rowc g a b t u x y (v + i)) ((zmin 40 (40 + y)).toNat - v) (40 - (zmin 40 (40 + y)).toNat)
          rw [show v + (40 - v) = 40 by omega] at e1
          rw [show (zmin 40 (40 + y)).toNat - v + (40 - (zmin 40 (40 + y)).toNat) = 40 - v by omega] at e2
          rw [e1, e2, sm_none (f := fun w => rowc g a b t u x y w) (n := v) (fun w hw => zero w (by omega) (by omega)), sm_none (f := fun i => rowc g a b t u x y (v + ((zmin 40 (40 + y)).toNat - v + i))) (fun w hw => zero _ (by omega) (by omega))]
          omega
        · rw [if_neg h4, none (Or.inr (by omega))]
          rfl
    · rw [if_neg h2, none (Or.inl (by omega))]
      rfl
/-- both ways give the same number: the second one turned by t against the first one as it lies -/
theorem ov_common (g : gm_T) (a b : Nat) {t x y : Int} (ht : 0 ≤ t ∧ t ≤ 3) : s2 (fun p q => if (Kt g a 0 p q && Kt g b t (p - x) (q - y)) = true then 1 else 0) = ov g a b t x y := by
  have h1 := ovl_eq (Kt_in g b ht) (Kc_in g a) x y
  have h2 : s2 (fun p q => if (Kt g a 0 p q && Kt g b t (p - x) (q - y)) = true then 1 else 0) = ovl (Kt g b t) (Kc g a) x y := by
    rw [h1]
    exact s2_cong fun p q _ _ _ _ => by rw [Kt_0, Bool.and_comm]
  rw [h2]
  unfold ovl
  rw [← s2_turn _ ht]
  unfold ov
  refine s2_cong fun p q _ _ _ _ => ?_
  rw [Kt_c g b ht]
  cases Kc g b p q <;> rfl
theorem cw_isNear_eq {g : gm_T} {a : Int} (ha : rg a) : cw_isNear g a = some (if -500 ≤ a ∧ a ≤ 500 then 1 else 0) := by
  unfold cw_isNear
  rw [jg_pos ha]
  by_cases h1 : a < -500
  · rw [if_pos h1, if_neg (by omega)]
  · rw [if_neg h1]
    by_cases h2 : a ≤ 500
    · rw [if_pos h2, if_pos (by omega)]
    · rw [if_neg h2, if_neg (by omega)]
/-- a placing that may be told -/
def isPl (t x y : Int) : Prop := (0 ≤ t ∧ t ≤ 3) ∧ (-500 ≤ x ∧ x ≤ 500) ∧ -500 ≤ y ∧ y ≤ 500
theorem cw_isPlacing_eq {g : gm_T} {t x y : Int} (ht : rg t) (hx : rg x) (hy : rg y) : cw_isPlacing g t x y = some (@ite _ (isPl t x y) (gd _) 1 0) := by
  unfold cw_isPlacing
  rw [jg_pos ht, cw_isNear_eq hx, jb_tst, cw_isNear_eq hy, jb_tst]
  by_cases h : isPl t x y
  · obtain ⟨h1, h2, h3⟩ := id h
    rw [if_neg (by omega), if_pos h1.2, if_pos h2, if_pos h3, @if_pos _ (gd _) h]
  · rw [@if_neg _ (gd _) h]
    unfold isPl at h
    by_cases h1 : t < 0
    · rw [if_pos h1]
    · rw [if_neg h1]
      by_cases h2 : t ≤ 3
      · rw [if_pos h2]
        by_cases h3 : -500 ≤ x ∧ x ≤ 500
        · rw [if_pos h3, if_neg (by omega)]
        · rw [if_neg h3]
      · rw [if_neg h2]
theorem op_overlap {n : Nat} {g : gm_T} (hn : V_num n g) (hv : V_bit n g) (hc : V_cell n g) {a b t x y : Int} (ha : rg a) (hb : rg b) (ht : rg t) (hx : rg x) (hy : rg y) : ∃ r, cw_overlap n g a b t x y = some r ∧ md_overlap g a b t x y = some r := by
  have h30 := hn.2.2
  unfold cw_overlap md_overlap
  simp only [cw_isBit_eq hn ha, cw_isBit_eq hn hb, md_isBit_eq hn ha, md_isBit_eq hn hb, jb_tst, cw_isPlacing_eq ht hx hy, md_in_eq ht (rgk rfl : rg 0) (rgk rfl : rg 3), md_in_eq hx (rgk rfl : rg (-500)) (rgk rfl : rg 500), md_in_eq hy (rgk rfl : rg (-500)) (rgk rfl : rg 500), jg_pos (⟨ha, hb⟩ : rg a ∧ rg b)]
  by_cases h1 : 0 ≤ a ∧ a < (n : Int)
  · by_cases h2 : 0 ≤ b ∧ b < (n : Int)
    · simp only [if_pos h1, if_pos h2]
      by_cases h3 : a = b
      · simp only [if_pos h3]
        exact ⟨_, rfl, rfl⟩
      · simp only [if_neg h3]
        by_cases h4 : isPl t x y
        · obtain ⟨p1, p2, p3⟩ := id h4
          obtain ⟨i, rfl⟩ : ∃ i : Nat, a = (i : Int) := ⟨_, (Int.toNat_of_nonneg h1.1).symm⟩
          obtain ⟨j, rfl⟩ : ∃ j : Nat, b = (j : Int) := ⟨_, (Int.toNat_of_nonneg h2.1).symm⟩
          obtain ⟨-, -, -, -, -, -, -, ⟨-, c1, c2⟩, -⟩ := hv j (by omega)
          simp only [@if_pos _ (gd _) h4, if_pos p1, if_pos p2, if_pos p3, jg_pos h1, jg_pos h2, Int.toNat_natCast]
          rw [cb_common_eq hc (by omega) (by omega) ⟨by omega, by omega⟩ p1 hx hy, ov_common g i j p1, md_overlaps_eq hc h30 (by omega) (by omega) ⟨c1, c2⟩ p1 ⟨by omega, by omega⟩ ⟨by omega, by omega⟩]
          exact ⟨_, rfl, rfl⟩
        · simp only [@if_neg _ (gd _) h4]
          refine ⟨-2, rfl, ?_⟩
          unfold isPl at h4
          by_cases q1 : 0 ≤ t ∧ t ≤ 3
          · rw [if_pos q1]
            by_cases q2 : -500 ≤ x ∧ x ≤ 500
            · rw [if_pos q2, if_neg (fun q => h4 ⟨q1, q2, q⟩)]
            · rw [if_neg q2]
          · rw [if_neg q1]
    · simp only [if_pos h1, if_neg h2]
      exact ⟨_, rfl, rfl⟩
  · simp only [if_neg h1]
    exact ⟨_, rfl, rfl⟩
