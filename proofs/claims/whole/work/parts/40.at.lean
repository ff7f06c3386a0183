/-! at: which bit lies on a cell of the wall. -/
theorem nm_hi {x : Int} (h1 : 2147483647 < x) (h2 : x ≤ 6442450943) : nm x = x - 4294967296 := by
  have h3 : nm x = nm (x - 4294967296) := by
    unfold nm
    rw [Int32.ofInt_sub, show Int32.ofInt 4294967296 = 0 from by decide, Int32.sub_zero]
  rw [h3, nm_eq ⟨by omega, by omega⟩]
theorem nm_rg (x : Int) : rg (nm x) := rg_toInt _
theorem md_tX_any {g : gm_T} {t x y : Int} (ht : 0 ≤ t ∧ t ≤ 3) : md_turnedX g t x y = some (if t = 0 then x else if t = 1 then nm (-y) else if t = 2 then nm (-x) else y) ∧ md_turnedY g t x y = some (if t = 0 then y else if t = 1 then x else if t = 2 then nm (-y) else nm (-x)) := by
  unfold md_turnedX md_turnedY
  rw [jg_pos ⟨by omega, by omega⟩, jg_pos ⟨by omega, by omega⟩]
  simp only [ite_some2]
  exact ⟨trivial, trivial⟩
theorem far1 {x : Int} (hx : rg x) (h : ¬ (-1000000 ≤ x ∧ x ≤ 1000000)) : ¬ (-20 ≤ nm (nm (-x) - 1) ∧ nm (nm (-x) - 1) ≤ 19) := by
  obtain ⟨h1, h2⟩ := hx
  by_cases c : x = -2147483648
  · subst c
    rw [show nm (- -2147483648) = -2147483648 from by rw [nm_hi (by omega) (by omega)]; rfl, nm_low (by omega) (by omega)]
    omega
  · rw [nm_eq (x := -x) ⟨by omega, by omega⟩, nm_eq ⟨by omega, by omega⟩]
    omega
theorem md_cell_any {g : gm_T} {t x y : Int} (ht : 0 ≤ t ∧ t ≤ 3) (hx : rg x) (hy : rg y) : ∃ u v, md_cellTurnedX g t x y = some u ∧ md_cellTurnedY g t x y = some v ∧ rg u ∧ rg v ∧ (((-1000000 ≤ x ∧ x ≤ 1000000) ∧ -1000000 ≤ y ∧ y ≤ 1000000) → u = cX t x y ∧ v = cY t x y) ∧ (¬ ((-1000000 ≤ x ∧ x ≤ 1000000) ∧ -1000000 ≤ y ∧ y ≤ 1000000) → ¬ ((-20 ≤ u ∧ u ≤ 19) ∧ -20 ≤ v ∧ v ≤ 19)) := by
  by_cases hs : (-1000000 ≤ x ∧ x ≤ 1000000) ∧ -1000000 ≤ y ∧ y ≤ 1000000
  · refine ⟨_, _, md_cellX_eq ht hs.1 hs.2, md_cellY_eq ht hs.1 hs.2, ?_, ?_, fun _ => ⟨rfl, rfl⟩, fun q => absurd hs q⟩
    · unfold cX rg
      split
      · omega
      · split
        · omega
        · split <;> omega
    · unfold cY rg
      split
      · omega
      · split
        · omega
        · split <;> omega
  · unfold md_cellTurnedX md_cellTurnedY
    rw [(md_tX_any ht).1, (md_tX_any ht).2, jb1_some, jb1_some, jg_pos ⟨by omega, by omega⟩, jg_pos ⟨by omega, by omega⟩]
    have x0 : nm (x - 0) = x := by rw [Int.sub_zero]; exact nm_eq hx
    have y0 : nm (y - 0) = y := by rw [Int.sub_zero]; exact nm_eq hy
    have fx := far1 hx
    have fy := far1 hy
    rcases t4 ht with rfl | rfl | rfl | rfl
    · refine ⟨nm (x - 0), nm (y - 0), rfl, rfl, nm_rg _, nm_rg _, fun q => absurd q hs, fun _ => ?_⟩
      rw [x0, y0]
      omega
    · refine ⟨nm (nm (-y) - 1), nm (x - 0), rfl, rfl, nm_rg _, nm_rg _, fun q => absurd q hs, fun _ => ?_⟩
      rw [x0]
      rintro ⟨q1, q2⟩
      by_cases c : -1000000 ≤ y ∧ y ≤ 1000000
      · omega
      · exact fy c q1
    · refine ⟨nm (nm (-x) - 1), nm (nm (-y) - 1), rfl, rfl, nm_rg _, nm_rg _, fun q => absurd q hs, fun _ => ?_⟩
      rintro ⟨q1, q2⟩
      by_cases c : -1000000 ≤ y ∧ y ≤ 1000000
      · exact fx (fun z => hs ⟨z, c⟩) q1
      · exact fy c q2
    · refine ⟨nm (y - 0), nm (nm (-x) - 1), rfl, rfl, nm_rg _, nm_rg _, fun q => absurd q hs, fun _ => ?_⟩
      rw [y0]
      rintro ⟨q1, q2⟩
      by_cases c : -1000000 ≤ x ∧ x ≤ 1000000
      · omega
      · exact fx c q2
-- the class's cells, asked with longs
theorem iL_toInt {x : Int} (h : rg x) : (iL x).toInt = x := by
  unfold iL
  rw [Int32.toInt_toInt64, rg_of h]
theorem iL_sub {x y : Int} (hx : rg x) (hy : rg y) : (iL x - iL y).toInt = x - y := by
  obtain ⟨h1, h2⟩ := id hx
  obtain ⟨h3, h4⟩ := id hy
  rw [Int64.toInt_sub, iL_toInt hx, iL_toInt hy]
  exact Int.bmod_eq_of_le (by omega) (by omega)
theorem lC_lt {A B : Int64} : lC A B < 0 ↔ A.toInt < B.toInt := by
  unfold lC
  rw [show ((lg_cmp A B).toInt < 0) ↔ lg_cmp A B < 0 from by rw [Int32.lt_iff_toInt_lt]; rfl, lg_cmp_lt A B, Int64.lt_iff_toInt_lt]
theorem lI_toInt {A : Int64} (h : rg A.toInt) : lI A = A.toInt := by
  unfold lI
  rw [Int64.toInt_toInt32]
  obtain ⟨h1, h2⟩ := h
  exact Int.bmod_eq_of_le (by omega) (by omega)
theorem cb_hasCell_eq {n : Nat} {g : gm_T} (hc : V_cell n g) {b : Nat} (hb : b < n) {t : Int} (ht : 0 ≤ t ∧ t ≤ 3) {A B : Int64} {x y : Int} (hA : A.toInt = x) (hB : B.toInt = y) : cb_hasCell g b t A B = some (if Kt g b t x y = true then 1 else 0) := by
  have hin := Kt_in g b ht
  have m20 : (-20 : Int64).toInt = -20 := by decide
  have p20 : (20 : Int64).toInt = 20 := by decide
  have no : ¬ ((-20 ≤ x ∧ x ≤ 19) ∧ -20 ≤ y ∧ y ≤ 19) → Kt g b t x y = false := fun q => ing_no hin q
  unfold cb_hasCell
  by_cases c1 : x < -20
  · rw [if_pos (by rw [lC_lt, hA, m20]; exact c1), no (by omega)]
    rfl
  · rw [if_neg (by rw [lC_lt, hA, m20]; exact c1)]
    by_cases c2 : x < 20
    · rw [if_pos (by rw [lC_lt, hA, p20]; exact c2)]
      by_cases c3 : y < -20
      · rw [if_pos (by rw [lC_lt, hB, m20]; exact c3), no (by omega)]
        rfl
      · rw [if_neg (by rw [lC_lt, hB, m20]; exact c3)]
        by_cases c4 : y < 20
        · rw [if_pos (by rw [lC_lt, hB, p20]; exact c4)]
          have hlA : lI A = x := by rw [lI_toInt (by rw [hA]; exact ⟨by omega, by omega⟩), hA]
          have hlB : lI B = y := by rw [lI_toInt (by rw [hB]; exact ⟨by omega, by omega⟩), hB]
          rw [hlA, hlB, jg_pos (by omega)]
          obtain ⟨r, r1, r2, r3⟩ := (hc b hb).2.2.2 t.toNat (y + 20).toNat (by omega) (by omega)
          rw [show (t * 40 + 20 + y).toNat = 40 * t.toNat + (y + 20).toNat by omega, r1]
          obtain ⟨u, hu⟩ : ∃ u : Nat, 20 + x = (u : Int) := ⟨_, (Int.toNat_of_nonneg (by omega)).symm⟩
          have hb2 := r3 u (by omega)
          rw [show gq u = x by unfold gq; omega, show gq (y + 20).toNat = y by unfold gq; omega, show ((t.toNat : Nat) : Int) = t by omega] at hb2
          rw [hu, lSr_n (Nat.lt_trans r2 (by decide)) (by omega), wb_a1 (Nat.lt_of_le_of_lt (Nat.div_le_self _ _) (Nat.lt_trans r2 (by decide))), ← hb2, Nat.testBit_eq_decide_div_mod_eq]
          rcases Nat.mod_two_eq_zero_or_one (r / 2 ^ u) with q | q
          · rw [q, if_pos (show lC (lN 0) 0 = 0 from lC_0.mpr rfl)]
            rfl
          · rw [q, if_neg (show ¬ lC (lN 1) 0 = 0 by rw [lC_0]; decide)]
            rfl
        · rw [if_neg (by rw [lC_lt, hB, p20]; exact c4), no (by omega)]
          rfl
    · rw [if_neg (by rw [lC_lt, hA, p20]; exact c2), no (by omega)]
      rfl
/-- bit b lies on the cell (x, y) of the wall -/
noncomputable def onC (n : Nat) (g : gm_T) (P : Nat → plc) (x y : Int) (b : Nat) : Bool := @decide (onW n g b) (gd _) && Kt g b (P b).1 (x - (P b).2.1) (y - (P b).2.2)
theorem cv_bitAt_lp {n : Nat} {g : gm_T} {P : Nat → plc} (h : IW n g P) {x y : Int} (hx : rg x) (hy : rg y) : ∀ (d b fuel : Nat), b + d = n → d < fuel → cv_bitAt_l2 n g x y fuel (b : Int) = some (fb (onC n g P x y) d b) := by
  have hn := h.1.1
  have h30 := hn.2.2
  have hK : Kb g ≤ 147000 := by
    have := (jm_60 h.2.1).1
    unfold Kb
    omega
  intro d
  induction d with
  | zero =>
    intro b fuel hd hf
    obtain ⟨f, rfl⟩ : ∃ f, fuel = f + 1 := ⟨fuel - 1, by omega⟩
    unfold cv_bitAt_l2
    rw [hn.1, jg_pos ⟨rgn (by omega), rgn (by omega)⟩, if_neg (by omega)]
    rfl
  | succ d ih =>
    intro b fuel hd hf
    obtain ⟨f, rfl⟩ : ∃ f, fuel = f + 1 := ⟨fuel - 1, by omega⟩
    have hb : b < n := by omega
    have next := ih (b + 1) f (by omega) (by omega)
    have hP := h.2.2.2.2.2.1 b
    have hok := bpl_ok hP (by omega)
    have hx2 : rg (P b).2.1 := by
      have := hP.2.1
      exact ⟨by omega, by omega⟩
    have hy2 : rg (P b).2.2 := by
      have := hP.2.2
      exact ⟨by omega, by omega⟩
    have e1 : fb (onC n g P x y) (d + 1) b = if onC n g P x y b = true then (b : Int) else fb (onC n g P x y) d (b + 1) := rfl
    rw [e1]
    unfold cv_bitAt_l2
    rw [hn.1, jg_pos ⟨rgn (by omega), rgn (by omega)⟩, if_pos (by omega), jg_pos (by omega), jl_eq, Int.toNat_natCast, h.2.2.2.1 b (by omega), cv_stands_eq h hb, jb_gd]
    by_cases c : onW n g b
    · have e2 : onC n g P x y b = Kt g b (P b).1 (x - (P b).2.1) (y - (P b).2.2) := by
        unfold onC
        rw [@decide_eq_true _ (gd _) c, Bool.true_and]
      rw [@if_pos _ (gd _) c, jg_pos (by omega)]
      unfold pp
      rw [cc_turn_eq hok, cc_x_eq hok, cc_y_eq hok]
      simp only [jb1_some]
      rw [cb_hasCell_eq h.1.2.2.1 hb hP.1 (iL_sub hx hx2) (iL_sub hy hy2), jb_tst, e2]
      by_cases c2 : Kt g b (P b).1 (x - (P b).2.1) (y - (P b).2.2) = true
      · rw [if_pos c2, if_pos c2]
      · rw [if_neg c2, if_neg c2]
        exact next
    · have e2 : onC n g P x y b = false := by
        unfold onC
        rw [@decide_eq_false _ (gd _) c, Bool.false_and]
      rw [@if_neg _ (gd _) c, e2]
      exact next
theorem md_at_lp {n : Nat} {g : gm_T} {P : Nat → plc} (h : IWm n g P) {x y : Int} (hx : rg x) (hy : rg y) : ∀ (d b fuel : Nat) (g1 : gm_T), b + d = n → d < fuel → keepC g1 = keepC g → isGr n g P g1 → ∃ g2, md_at_l6 x y fuel (b : Int) g1 = some (fb (onC n g P x y) d b, g2) ∧ exc W_p nob g1 g2 := by
  have hn := h.1.1
  have h30 := hn.2.2
  have hK : Kb g ≤ 147000 := by
    have := (jm_60m h.2.1).1
    unfold Kb
    omega
  intro d
  induction d with
  | zero =>
    intro b fuel g1 hd hf eh H
    obtain ⟨f, rfl⟩ : ∃ f, fuel = f + 1 := ⟨fuel - 1, by omega⟩
    have h3 : gm_I g1 44 3 = (n : Int) := (I_fit_tr (keepF_C eh) h.1).1.2.1
    unfold md_at_l6
    rw [h3, jg_pos ⟨rgn (by omega), rgn (by omega)⟩, if_neg (by omega)]
    exact ⟨g1, rfl, exc_rf⟩
  | succ d ih =>
    intro b fuel g1 hd hf eh H
    obtain ⟨f, rfl⟩ : ∃ f, fuel = f + 1 := ⟨fuel - 1, by omega⟩
    have h3 : gm_I g1 44 3 = (n : Int) := (I_fit_tr (keepF_C eh) h.1).1.2.1
    have hb : b < n := by omega
    have hP := h.2.2.2.2.2.1 b
    have e1 : fb (onC n g P x y) (d + 1) b = if onC n g P x y b = true then (b : Int) else fb (onC n g P x y) d (b + 1) := rfl
    rw [e1]
    unfold md_at_l6
    rw [h3, jg_pos ⟨rgn (by omega), rgn (by omega)⟩, if_pos (by omega)]
    rcases md_onWall_eq h eh H hb with ⟨q1, q2⟩ | ⟨q1, g2, q2, q3, q4⟩
    · have e2 : onC n g P x y b = false := by
        unfold onC
        rw [@decide_eq_false _ (gd _) q1, Bool.false_and]
      rw [q2, jb2_some, jg_pos (rgk rfl), if_pos rfl, e2]
      exact ih (b + 1) f g1 (by omega) (by omega) eh H
    · have e2 : onC n g P x y b = Kt g b (P b).1 (x - (P b).2.1) (y - (P b).2.2) := by
        unfold onC
        rw [@decide_eq_true _ (gd _) q1, Bool.true_and]
      have eh2 := (keepC_scr (scr_p q4)).trans eh
      obtain ⟨g3, r1, r2⟩ := ih (b + 1) f g2 (by omega) (by omega) eh2 (isGr_p H q4)
      have p1 : gm_I g2 44 49 = (P b).1 := congrArg (fun p : plc => p.1) q3
      have p2 : gm_I g2 44 50 = (P b).2.1 := congrArg (fun p : plc => p.2.1) q3
      have p3 : gm_I g2 44 51 = (P b).2.2 := congrArg (fun p : plc => p.2.2) q3
      obtain ⟨⟨t0, t3⟩, ⟨x1, x2⟩, y1, y2⟩ := hP
      have hn4 : nm (4 - (P b).1) = 4 - (P b).1 := nm_eq ⟨by omega, by omega⟩
      rw [q2, jb2_some, jg_pos (rgk rfl), if_neg n10, p1, p2, p3, hn4, jg_pos (by omega), jl_eq, show (4 - (P b).1) % 4 = ti (P b).1 by unfold ti; split <;> omega]
      obtain ⟨u, v, k1, k2, k3, k4, k5, k6⟩ := md_cell_any (g := g2) (ti_in (t := (P b).1) ⟨t0, t3⟩) (nm_rg (x - (P b).2.1)) (nm_rg (y - (P b).2.2))
      have hc2 := (I_fit_tr (keepF_C eh2) h.1).2.2.1
      rw [k1, jb1_some, k2, jb1_some, md_hasCell_eq hc2 h30 hb k3 k4, jb_tst]
      have hKc : Kc g2 b u v = Kc g b u v := by
        show Kc (keepF g2) b u v = Kc (keepF g) b u v
        rw [keepF_C eh2]
      have hval : Kc g b u v = Kt g b (P b).1 (x - (P b).2.1) (y - (P b).2.2) := by
        obtain ⟨hx1, hx2⟩ := hx
        obtain ⟨hy1, hy2⟩ := hy
        by_cases hs : (-1000000 ≤ x - (P b).2.1 ∧ x - (P b).2.1 ≤ 1000000) ∧ -1000000 ≤ y - (P b).2.2 ∧ y - (P b).2.2 ≤ 1000000
        · have nx1 : nm (x - (P b).2.1) = x - (P b).2.1 := nm_eq ⟨by omega, by omega⟩
          have ny1 : nm (y - (P b).2.2) = y - (P b).2.2 := nm_eq ⟨by omega, by omega⟩
          rw [nx1, ny1] at k5
          obtain ⟨z1, z2⟩ := k5 hs
          rw [z1, z2]
          rfl
        · have hKt : Kt g b (P b).1 (x - (P b).2.1) (y - (P b).2.2) = false := ing_no (Kt_in g b ⟨t0, t3⟩) (by omega)
          rw [hKt]
          refine ing_no (Kc_in g b) (k6 ?_)
          have far : ∀ z : Int, -2148000000 ≤ z → z ≤ 2148000000 → ¬ (-1000000 ≤ z ∧ z ≤ 1000000) → ¬ (-1000000 ≤ nm z ∧ nm z ≤ 1000000) := by
            intro z z1 z2 z3
            rcases Int.lt_or_le z (-2147483648) with q | q
            · rw [nm_low (by omega) (by omega)]
              omega
            · rcases Int.lt_or_le 2147483647 z with q2 | q2
              · rw [nm_hi (by omega) (by omega)]
                omega
              · rw [nm_eq ⟨by omega, by omega⟩]
                exact z3
          rintro ⟨w1, w2⟩
          by_cases c : -1000000 ≤ x - (P b).2.1 ∧ x - (P b).2.1 ≤ 1000000
          · exact far (y - (P b).2.2) (by omega) (by omega) (fun z => hs ⟨c, z⟩) w2
          · exact far (x - (P b).2.1) (by omega) (by omega) c w1
      rw [hKc, hval, e2]
      by_cases c2 : Kt g b (P b).1 (x - (P b).2.1) (y - (P b).2.2) = true
      · rw [if_pos c2, if_pos c2]
        exact ⟨g2, rfl, q4⟩
      · rw [if_neg c2, if_neg c2]
        exact ⟨g3, r1, exc_tr q4 r2⟩
theorem op_at {n : Nat} {g : gm_T} {P : Nat → plc} (h : IW n g P) {x y : Int} (hx : rg x) (hy : rg y) : ∃ r g2, cw_at n g x y = some r ∧ md_at g x y = some (r, g2) ∧ exc scr scrJ g g2 := by
  have h30 := h.1.1.2.2
  obtain ⟨g1, e1, e2, e3⟩ := md_groups_eq h.1 (vm h.2.1) (wm h.2.2.2)
  have k1 := cv_bitAt_lp h hx hy n 0 fz (by omega) (Nat.lt_of_le_of_lt h30 (fz_gt rfl))
  obtain ⟨g2, f1, f2⟩ := md_at_lp (im h) hx hy n 0 fz g1 (by omega) (Nat.lt_of_le_of_lt h30 (fz_gt rfl)) (keepC_scr (scr_gr e2)) e3
  unfold cw_at cv_bitAt md_at
  rw [show cv_bitAt_l2 n g x y fz 0 = _ from k1, jb1_some, e1, jb1_some]
  exact ⟨_, g2, rfl, f1, exc_tr (scr_gr e2) (scr_p f2)⟩
