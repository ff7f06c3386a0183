/-! The reference compares two bits: one pair of edges. -/
def frt (g h : gm_T) (P : Nat → Prop) : Prop := exc W_tb nob g h ∧ ∀ j, ¬ P j → gm_I h 63 j = gm_I g 63 j ∧ gm_I h 64 j = gm_I g 64 j
theorem frt_rf {g : gm_T} {P : Nat → Prop} : frt g g P := ⟨exc_rf, fun _ _ => ⟨rfl, rfl⟩⟩
theorem frt_tr {g h i : gm_T} {P : Nat → Prop} (h1 : frt g h P) (h2 : frt h i P) : frt g i P := ⟨exc_tr h1.1 h2.1, fun j hj => ⟨((h2.2 j hj).1).trans (h1.2 j hj).1, ((h2.2 j hj).2).trans (h1.2 j hj).2⟩⟩
theorem frt_mono {g h : gm_T} {P Q : Nat → Prop} (h1 : frt g h P) (h2 : ∀ j, P j → Q j) : frt g h Q := ⟨h1.1, fun j hj => h1.2 j (fun z => hj (h2 j z))⟩
theorem frt_i {g h : gm_T} {i : Nat} (x : exc (W_tbi i) nob g h) : frt g h (fun j => j = i) := ⟨W_tbi_w x, fun j hj => by
  have e : (j == i) = false := beq_eq_false_iff_ne.mpr hj
  exact ⟨x.1 63 j (by unfold W_tbi; rw [e, Bool.and_false]), x.1 64 j (by unfold W_tbi; rw [e, Bool.and_false])⟩⟩
def tbE (g0 g : gm_T) (a k b l : Nat) : Prop := gm_I g 63 (at4 a k b l) = tn g0 a k b l ∧ (tn g0 a k b l ≠ -1 → gm_I g 64 (at4 a k b l) = ((ov g0 a b (tn g0 a k b l) (fX g0 a k b l) (fY g0 a k b l) : Nat) : Int))
/-- no edge has length 0 -/
def V_way (n : Nat) (g : gm_T) : Prop := ∀ b l : Nat, b < n → (l : Int) < mE g b → ¬ (wX g b l = 0 ∧ wY g b l = 0)
theorem md_cmp_one {N : Nat} {g0 g : gm_T} (h30 : N ≤ 30) (V : V_bit N g0) (C : V_cell N g0) (W : V_way N g0) (x : exc W_tb nob g0 g) {a b k l : Nat} (ha : a < N) (hb : b < N) (hk : (k : Int) < mE g0 a) (hl : (l : Int) < mE g0 b) (K : gm_T → Option gm_T) : ∃ g', (jl ((((240 * ((8 * (a : Int)) + (k : Int))) + (8 * (b : Int))) + (l : Int))) fun (v32 : Int) => jg (0 ≤ v32 ∧ v32 < 57600) (jl (gm_wI g 63 v32.toNat (-1)) fun (g33 : gm_T) => jb1 (md_compares_l57 (a : Int) (b : Int) (k : Int) (l : Int) v32 fz 0 g33) fun (g70 : gm_T) => jg (rg (gm_I g70 63 v32.toNat)) (if (gm_I g70 63 v32.toNat) = (-1) then (K g70) else (jb1 (md_fitX g70 (a : Int) (k : Int) (b : Int) (l : Int)) fun (v73 : Int) => jb1 (md_fitY g70 (a : Int) (k : Int) (b : Int) (l : Int)) fun (v74 : Int) => jb1 (md_overlaps g70 (a : Int) (b : Int) (gm_I g70 63 v32.toNat) v73 v74) fun (v75 : Int) => jl (gm_wI g70 64 v32.toNat v75) fun (g76 : gm_T) => K g76)))) = K g' ∧ frt g g' (fun j => j = at4 a k b l) ∧ tbE g0 g' a k b l := by
  have va := V a ha
  have vb := V b hb
  have k8 : k < 8 := by have := va.1.2.2; unfold mE at hk; omega
  have l8 : l < 8 := by have := vb.1.2.2; unfold mE at hl; omega
  have hi : ((240 * ((8 * (a : Int)) + (k : Int))) + (8 * (b : Int))) + (l : Int) = ((at4 a k b l : Nat) : Int) := by unfold at4; omega
  have i5 : at4 a k b l < 57600 := by unfold at4; omega
  have t1 := tn_in g0 a k b l
  rw [jl_eq, hi, jg_pos (by omega), Int.toNat_natCast, jl_eq]
  have x33 : exc (W_tbi (at4 a k b l)) nob g (gm_wI g 63 (at4 a k b l) (-1)) := exc_wI exc_rf (by unfold W_tbi; simp)
  have fin : ∀ g70, exc (W_tbi (at4 a k b l)) nob g g70 → gm_I g70 63 (at4 a k b l) = tn g0 a k b l → ∃ g', (jg (rg (gm_I g70 63 (at4 a k b l))) (if (gm_I g70 63 (at4 a k b l)) = (-1) then (K g70) else (jb1 (md_fitX g70 (a : Int) (k : Int) (b : Int) (l : Int)) fun (v73 : Int) => jb1 (md_fitY g70 (a : Int) (k : Int) (b : Int) (l : Int)) fun (v74 : Int) => jb1 (md_overlaps g70 (a : Int) (b : Int) (gm_I g70 63 (at4 a k b l)) v73 v74) fun (v75 : Int) => jl (gm_wI g70 64 (at4 a k b l) v75) fun (g76 : gm_T) => K g76))) = K g' ∧ frt g g' (fun j => j = at4 a k b l) ∧ tbE g0 g' a k b l := fun g70 x70 h63 => by
    have X : exc W_tb nob g0 g70 := exc_tr x (W_tbi_w x70)
    rw [h63, jg_pos ⟨by omega, by omega⟩]
    by_cases e : tn g0 a k b l = -1
    · rw [if_pos e]
      exact ⟨g70, rfl, frt_i x70, h63, fun z => absurd e z⟩
    · have V7 := V_bit_tb X V
      have hk7 : (k : Int) < mE g70 a := by unfold mE at *; rw [X.1 46 _ rfl]; exact hk
      have hl7 : (l : Int) < mE g70 b := by unfold mE at *; rw [X.1 46 _ rfl]; exact hl
      have ft := md_fit_ab h30 V7 ha hb hk7 hl7 (by rw [tn_tb X]; exact h63) (by rw [tn_tb X]; exact e)
      have c7 := (V7 b hb)
      have n1 := nx_lt V ha hk
      have q1 := xy_in V ha n1.1
      have q2 := xy_in V hb hl
      have tb : (-20 ≤ tX (tn g0 a k b l) (mX g0 b l) (mY g0 b l) ∧ tX (tn g0 a k b l) (mX g0 b l) (mY g0 b l) ≤ 20) ∧ -20 ≤ tY (tn g0 a k b l) (mX g0 b l) (mY g0 b l) ∧ tY (tn g0 a k b l) (mX g0 b l) (mY g0 b l) ≤ 20 := by
        unfold tX tY
        (repeat' split) <;> omega
      have h57 : 0 ≤ gm_I g70 57 b ∧ gm_I g70 57 b ≤ 1600 := by
        obtain ⟨-, -, -, -, -, -, -, q, -⟩ := c7
        exact q.2
      rw [if_neg e, ft.1, jb1_some, ft.2, jb1_some, (fX_tb X a k b l).1, (fX_tb X a k b l).2, md_overlaps_eq (V_cell_tb X C) h30 ha hb h57 (by omega) (by unfold fX; omega) (by unfold fY; omega), jb1_some, jl_eq, ov_tb X]
      refine ⟨_, rfl, frt_i (exc_wI x70 (by unfold W_tbi; simp)), ?_, fun _ => gI_eq⟩
      rw [gI_oth (by decide)]
      exact h63
  by_cases pl : gm_I g0 56 a = gm_I g0 56 b
  · have X33 : exc W_tb nob g0 (gm_wI g 63 (at4 a k b l) (-1)) := exc_tr x (W_tbi_w x33)
    have na := nx_lt V ha hk
    have nb := nx_lt V hb hl
    have qa := xy_in V ha hk
    have qa2 := xy_in V ha na.1
    have qb := xy_in V hb hl
    have qb2 := xy_in V hb nb.1
    have r56 : rg (gm_I g0 56 a) := by
      obtain ⟨-, -, -, -, -, -, q, -, -⟩ := va
      exact ⟨by omega, by omega⟩
    obtain ⟨g70, e70, x70, v70⟩ := md_cmp_l57 (a := a) (b := b) (k := k) (l := l) (i := at4 a k b l) (p := wX g0 b l) (q := wY g0 b l) (r := wX g0 a k) (s := wY g0 a k) (by omega) (by omega) i5 (by unfold wX; omega) (by unfold wY; omega) (by unfold wX; omega) (by unfold wY; omega) 4 0 fz (gm_wI g 63 (at4 a k b l) (-1)) (fz_gt rfl) rfl (fun h xh => by
      have X := exc_tr X33 xh
      have V7 := V_bit_tb X V
      have hk7 : (k : Int) < mE h a := by unfold mE at *; rw [X.1 46 _ rfl]; exact hk
      have hl7 : (l : Int) < mE h b := by unfold mE at *; rw [X.1 46 _ rfl]; exact hl
      have w1 := md_way_n h30 V7 hb hl7
      have w2 := md_way_n h30 V7 ha hk7
      rw [(way_tb X b l).1, (way_tb X b l).2] at w1
      rw [(way_tb X a k).1, (way_tb X a k).2] at w2
      exact ⟨w1, w2⟩) (by rw [X33.1 56 a rfl, X33.1 56 b rfl]; exact ⟨pl, r56⟩) gI_eq
    rw [show md_compares_l57 (a : Int) (b : Int) (k : Int) (l : Int) ((at4 a k b l : Nat) : Int) fz 0 (gm_wI g 63 (at4 a k b l) (-1)) = some g70 from e70, jb1_some]
    refine fin g70 (exc_tr x33 x70) ?_
    rw [v70, ltn_tf (W b l hb hl)]
    exact (if_pos pl).symm
  · have X33 : exc W_tb nob g0 (gm_wI g 63 (at4 a k b l) (-1)) := exc_tr x (W_tbi_w x33)
    have r56 : rg (gm_I g0 56 a) ∧ rg (gm_I g0 56 b) := by
      obtain ⟨-, -, -, -, -, -, q, -, -⟩ := va
      obtain ⟨-, -, -, -, -, -, q', -, -⟩ := vb
      exact ⟨⟨by omega, by omega⟩, by omega, by omega⟩
    have e57 : md_compares_l57 (a : Int) (b : Int) (k : Int) (l : Int) ((at4 a k b l : Nat) : Int) fz 0 (gm_wI g 63 (at4 a k b l) (-1)) = some (gm_wI g 63 (at4 a k b l) (-1)) := by
      rw [show fz = 99999 + 1 from rfl, md_compares_l57, jg_pos (rgk rfl), if_pos (by decide), jg_pos (by omega), jg_pos (by omega), Int.toNat_natCast, Int.toNat_natCast, X33.1 56 a rfl, X33.1 56 b rfl, jg_pos r56, if_neg pl]
    rw [e57, jb1_some]
    exact fin _ x33 (by rw [gI_eq]; exact (if_neg pl).symm)
