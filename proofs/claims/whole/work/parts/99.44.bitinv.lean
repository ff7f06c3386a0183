/-! The call of bit: all that holds between the two sides holds after it. -/
def W_b2 (n a k : Nat) : Bool := W_bt n a k || W_tb a k
theorem dj_b2_cl {n : Nat} : ∀ a k, kl a k = true → W_b2 n a k = false := fun a k q => by
  simp only [kl, Bool.or_eq_true, Bool.and_eq_true, beq_iff_eq, Nat.ble_eq] at q
  have h1 : W_bt n a k = false := bt_no (by unfold P_bt bA; omega)
  have h2 : W_tb a k = false := by
    unfold W_tb
    rw [beq_eq_false_iff_ne.mpr (show a ≠ 63 by omega), beq_eq_false_iff_ne.mpr (show a ≠ 64 by omega)]
    rfl
  unfold W_b2
  rw [h1, h2]
  rfl
theorem dj_b2_bx {n : Nat} : ∀ a k, W_box a k = true → W_b2 n a k = false := fun a k q => by
  simp only [W_box, Bool.or_eq_true, Bool.and_eq_true, beq_iff_eq, Nat.ble_eq] at q
  have h1 : W_bt n a k = false := bt_no (by unfold P_bt bA; omega)
  have h2 : W_tb a k = false := by
    unfold W_tb
    rw [beq_eq_false_iff_ne.mpr (show a ≠ 63 by omega), beq_eq_false_iff_ne.mpr (show a ≠ 64 by omega)]
    rfl
  unfold W_b2
  rw [h1, h2]
  rfl
theorem dj_b2_sk {n : Nat} : ∀ a k, W_skill a k = true → W_b2 n a k = false := fun a k q => by
  simp only [W_skill, Bool.or_eq_true, Bool.and_eq_true, beq_iff_eq, Nat.ble_eq] at q
  have h1 : W_bt n a k = false := bt_no (by unfold P_bt bA; omega)
  have h2 : W_tb a k = false := by
    unfold W_tb
    rw [beq_eq_false_iff_ne.mpr (show a ≠ 63 by omega), beq_eq_false_iff_ne.mpr (show a ≠ 64 by omega)]
    rfl
  unfold W_b2
  rw [h1, h2]
  rfl
theorem dj_b2_ph {n : Nat} : ∀ a k, R_ph a k = true → W_b2 n a k = false := fun a k q => by
  simp only [R_ph, Bool.or_eq_true, Bool.and_eq_true, beq_iff_eq, Nat.ble_eq] at q
  have h1 : W_bt n a k = false := bt_no (by unfold P_bt bA; omega)
  have h2 : W_tb a k = false := by
    unfold W_tb
    rw [beq_eq_false_iff_ne.mpr (show a ≠ 63 by omega), beq_eq_false_iff_ne.mpr (show a ≠ 64 by omega)]
    rfl
  unfold W_b2
  rw [h1, h2]
  rfl
theorem dj_b2_ar {n : Nat} : ∀ a k, R_arr a k = true → W_b2 n a k = false := fun a k q => by
  simp only [R_arr, Bool.or_eq_true, Bool.and_eq_true, beq_iff_eq, Nat.ble_eq] at q
  have h1 : W_bt n a k = false := bt_no (by unfold P_bt bA; omega)
  have h2 : W_tb a k = false := by
    unfold W_tb
    rw [beq_eq_false_iff_ne.mpr (show a ≠ 63 by omega), beq_eq_false_iff_ne.mpr (show a ≠ 64 by omega)]
    rfl
  unfold W_b2
  rw [h1, h2]
  rfl
theorem dj_b2_mo {n : Nat} : ∀ a k, R_mo a k = true → W_b2 n a k = false := fun a k q => by
  simp only [R_mo, Bool.or_eq_true, Bool.and_eq_true, beq_iff_eq, Nat.ble_eq] at q
  have h1 : W_bt n a k = false := bt_no (by unfold P_bt bA; omega)
  have h2 : W_tb a k = false := by
    unfold W_tb
    rw [beq_eq_false_iff_ne.mpr (show a ≠ 63 by omega), beq_eq_false_iff_ne.mpr (show a ≠ 64 by omega)]
    rfl
  unfold W_b2
  rw [h1, h2]
  rfl
theorem dj_b2_as {n : Nat} : ∀ a k, R_as a k = true → W_b2 n a k = false := fun a k q => by
  simp only [R_as, Bool.or_eq_true, Bool.and_eq_true, beq_iff_eq, Nat.ble_eq] at q
  have h1 : W_bt n a k = false := bt_no (by unfold P_bt bA; omega)
  have h2 : W_tb a k = false := by
    unfold W_tb
    rw [beq_eq_false_iff_ne.mpr (show a ≠ 63 by omega), beq_eq_false_iff_ne.mpr (show a ≠ 64 by omega)]
    rfl
  unfold W_b2
  rw [h1, h2]
  rfl
theorem dj_nb_RJ_arr {n : Nat} : ∀ a k, RJ_arr a k = true → W_nb n a k = false := fun a k q => by
  simp only [RJ_arr, Bool.or_eq_true, Bool.and_eq_true, beq_iff_eq] at q
  exact bt_Jlo (by omega)
theorem Inv_bt {n m : Nat} (hm : n ≤ m) {g h : gm_T} (x : exc (W_b2 n) (W_nb n) g h) (VN : V_num m h) (VB : V_bit m h) (VC : V_cell m h) (VT : V_tab m h) (VW : V_way m h) (z : ∀ b, n ≤ b → b < m → gm_I h 19 b = ((2 ^ b : Nat) : Int) ∧ gm_I h 70 b = 0 ∧ gm_I h 71 b = 0) (z1 : gm_I h 1 0 = 0) (z2 : gm_I h 44 2 = 0) (I : Ivt n g) : Ivt m h := by
  obtain ⟨⟨⟨P, ⟨vn, vb, vc, vt, vl, vtb, vs⟩, j, r, w⟩, v⟩, c, b, s, t, p, a, mo, k⟩ := I
  have o : ∀ a k, ¬ P_bt n a k → a ≠ 63 → a ≠ 64 → gm_I h a k = gm_I g a k := fun a k h1 h2 h3 => x.1 a k (by
    unfold W_b2 W_tb
    rw [bt_no h1, beq_eq_false_iff_ne.mpr h2, beq_eq_false_iff_ne.mpr h3]
    rfl)
  have O : oldB n g h := by
    intro b hb
    refine ⟨o _ _ ?_ (by decide) (by decide), o _ _ ?_ (by decide) (by decide), fun k hk => ⟨o _ _ ?_ (by decide) (by decide), o _ _ ?_ (by decide) (by decide)⟩, fun j hj => o _ _ ?_ (by decide) (by decide)⟩
    all_goals (unfold P_bt bA; omega)
  have e6 : ∀ a, 65 ≤ a → a ≤ 69 → ∀ j, gm_I h a j = gm_I g a j := fun a h1 h2 j => o a j (by unfold P_bt bA; omega) (by omega) (by omega)
  have e14 : ∀ a, (14 ≤ a ∧ a ≤ 18) ∨ (65 ≤ a ∧ a ≤ 69) → ∀ j, gm_I h a j = gm_I g a j := fun a h1 j => o a j (by unfold P_bt bA; omega) (by omega) (by omega)
  have e24 : gm_I h 44 24 = gm_I g 44 24 := o _ _ (by unfold P_bt bA; omega) (by decide) (by decide)
  have eJ : ∀ a j, a < 111 → gm_J h a j = gm_J g a j := fun a j q => x.2 a j (bt_Jlo q)
  refine ⟨⟨⟨P, ⟨VN, VB, VC, ?_, ?_, VT, ?_⟩, V_jn_bt hm vb O e14 e24 (eJ _ _ (by decide)) j, V_grp_bt VN.2.2 e6 e24 (fun b hb => o _ _ (by unfold P_bt bA; omega) (by decide) (by decide)) (fun b h1 h2 => (z b h1 h2).1) j r, isW_bt hm vb O j e6 e24 (fun b => eJ _ _ (by decide)) ⟨o _ _ (by unfold P_bt bA; omega) (by decide) (by decide), o _ _ (by unfold P_bt bA; omega) (by decide) (by decide)⟩ (fun b hb => ⟨o _ _ (by unfold P_bt bA; omega) (by decide) (by decide), o _ _ (by unfold P_bt bA; omega) (by decide) (by decide)⟩) (fun b => ⟨o _ _ (by unfold P_bt bA; omega) (by decide) (by decide), o _ _ (by unfold P_bt bA; omega) (by decide) (by decide), o _ _ (by unfold P_bt bA; omega) (by decide) (by decide)⟩) (fun b h1 h2 => (z b h1 h2).2) w⟩, VW⟩, V_clash_tr x dj_b2_cl c, V_box_tr hm x dj_b2_bx b, V_skill_tr x dj_b2_sk s, tape_0 z1 z2, V_photo_tr x dj_b2_ph p, V_arr_tr hm x dj_b2_ar dj_nb_RJ_arr a, V_most_t x dj_b2_mo mo, V_ask_tr x dj_b2_as k⟩
  · unfold V_tol at vt ⊢
    rw [o 10 2 (by unfold P_bt bA; omega) (by decide) (by decide), o 44 20 (by unfold P_bt bA; omega) (by decide) (by decide)]
    exact vt
  · intro i hi
    rw [o 12 i (by unfold P_bt bA; omega) (by decide) (by decide), o 62 i (by unfold P_bt bA; omega) (by decide) (by decide)]
    exact vl i hi
  · intro i i2 hi hi2
    rw [o 62 _ (by unfold P_bt bA; omega) (by decide) (by decide), o 62 _ (by unfold P_bt bA; omega) (by decide) (by decide)]
    exact vs i i2 hi hi2
/-- a call of bit that makes none: what it leaves -/
theorem Inv_bno {n : Nat} {g g7 h : gm_T} (x7 : exc W_cb nob g g7) (xr : exc (W_rb n) nob g7 h) (z7 : gm_I g7 1 0 = 0) (z2 : gm_I h 44 2 = 0) (I : Ivt n g) : Ivt n h := by
  have xb : exc (W_bt n) (W_nb n) g h := exc_tr (exc_mono x7 (fun _ _ => bt_cb) (fun _ _ w => by cases w)) (exc_mono xr (fun _ _ => bt_rb) (fun _ _ w => by cases w))
  have x : exc (W_b2 n) (W_nb n) g h := exc_mono xb (fun a k w => by unfold W_b2; rw [w]; rfl) (fun _ _ w => w)
  have vn := I.1.1.choose_spec.1.1
  have vb := I.1.1.choose_spec.1.2.1
  have vc := I.1.1.choose_spec.1.2.2.1
  have vtb := I.1.1.choose_spec.1.2.2.2.2.2.1
  have O := oldB_bt xb
  have VB := V_bit_bt xb vb
  refine Inv_bt (Nat.le_refl n) x ⟨((xr.1 10 1 rfl).trans (x7.1 10 1 rfl)).trans vn.1, ((xr.1 44 3 rfl).trans (x7.1 44 3 rfl)).trans vn.2.1, vn.2.2⟩ VB (V_cell_of.mpr (cells_bt xb vb vc)) (tab_old vb O vtb (fun j => ⟨xb.1 63 j (bt_no (by unfold P_bt bA; omega)), xb.1 64 j (bt_no (by unfold P_bt bA; omega))⟩)) (fun b l hb hl => ?_) (fun b h1 h2 => absurd h1 (by omega)) ((xr.1 1 0 rfl).trans z7) z2 I
  have hl' : (l : Int) < mE g b := by unfold mE at *; rw [(O b hb).1] at hl; exact hl
  have l8 := k8_of vb hb hl'
  rw [(way_old vb O hb l8).1, (way_old vb O hb l8).2]
  exact I.1.2 b l hb hl'
