/-! What the calls write is not what the other parts read. -/
theorem dj_tol_cl : ∀ a k, kl a k = true → W_tol a k = false := fun a k q => by
  cases e : W_tol a k with
  | false => rfl
  | true =>
    exfalso
    simp only [W_tol, Bool.or_eq_true, Bool.and_eq_true, beq_iff_eq, Nat.ble_eq] at e
    simp only [kl, Bool.or_eq_true, Bool.and_eq_true, beq_iff_eq, Nat.ble_eq] at q
    omega
theorem dj_tol_bx : ∀ a k, W_box a k = true → W_tol a k = false := fun a k q => by
  cases e : W_tol a k with
  | false => rfl
  | true =>
    exfalso
    simp only [W_tol, Bool.or_eq_true, Bool.and_eq_true, beq_iff_eq, Nat.ble_eq] at e
    simp only [W_box, Bool.or_eq_true, Bool.and_eq_true, beq_iff_eq, Nat.ble_eq] at q
    omega
theorem dj_tol_sk : ∀ a k, W_skill a k = true → W_tol a k = false := fun a k q => by
  cases e : W_tol a k with
  | false => rfl
  | true =>
    exfalso
    simp only [W_tol, Bool.or_eq_true, Bool.and_eq_true, beq_iff_eq, Nat.ble_eq] at e
    simp only [W_skill, Bool.or_eq_true, Bool.and_eq_true, beq_iff_eq, Nat.ble_eq] at q
    omega
theorem dj_tol_tp : ∀ a k, W_tape a k = true → W_tol a k = false := fun a k q => by
  cases e : W_tol a k with
  | false => rfl
  | true =>
    exfalso
    simp only [W_tol, Bool.or_eq_true, Bool.and_eq_true, beq_iff_eq, Nat.ble_eq] at e
    simp only [W_tape, Bool.or_eq_true, Bool.and_eq_true, beq_iff_eq, Nat.ble_eq] at q
    omega
theorem dj_tol_ph : ∀ a k, R_ph a k = true → W_tol a k = false := fun a k q => by
  cases e : W_tol a k with
  | false => rfl
  | true =>
    exfalso
    simp only [W_tol, Bool.or_eq_true, Bool.and_eq_true, beq_iff_eq, Nat.ble_eq] at e
    simp only [R_ph, Bool.or_eq_true, Bool.and_eq_true, beq_iff_eq, Nat.ble_eq] at q
    omega
theorem dj_tol_ar : ∀ a k, R_arr a k = true → W_tol a k = false := fun a k q => by
  cases e : W_tol a k with
  | false => rfl
  | true =>
    exfalso
    simp only [W_tol, Bool.or_eq_true, Bool.and_eq_true, beq_iff_eq, Nat.ble_eq] at e
    simp only [R_arr, Bool.or_eq_true, Bool.and_eq_true, beq_iff_eq, Nat.ble_eq] at q
    omega
theorem dj_tol_mo : ∀ a k, R_mo a k = true → W_tol a k = false := fun a k q => by
  cases e : W_tol a k with
  | false => rfl
  | true =>
    exfalso
    simp only [W_tol, Bool.or_eq_true, Bool.and_eq_true, beq_iff_eq, Nat.ble_eq] at e
    simp only [R_mo, Bool.or_eq_true, Bool.and_eq_true, beq_iff_eq, Nat.ble_eq] at q
    omega
theorem dj_tol_as : ∀ a k, R_as a k = true → W_tol a k = false := fun a k q => by
  cases e : W_tol a k with
  | false => rfl
  | true =>
    exfalso
    simp only [W_tol, Bool.or_eq_true, Bool.and_eq_true, beq_iff_eq, Nat.ble_eq] at e
    simp only [R_as, Bool.or_eq_true, Bool.and_eq_true, beq_iff_eq, Nat.ble_eq] at q
    omega
theorem dj_tol_wy : ∀ a k, R_wy a k = true → W_tol a k = false := fun a k q => by
  cases e : W_tol a k with
  | false => rfl
  | true =>
    exfalso
    simp only [W_tol, Bool.or_eq_true, Bool.and_eq_true, beq_iff_eq, Nat.ble_eq] at e
    simp only [R_wy, Bool.or_eq_true, Bool.and_eq_true, beq_iff_eq, Nat.ble_eq] at q
    omega
theorem dj_like_cl : ∀ a k, kl a k = true → W_like a k = false := fun a k q => by
  cases e : W_like a k with
  | false => rfl
  | true =>
    exfalso
    simp only [W_like, Bool.or_eq_true, Bool.and_eq_true, beq_iff_eq, Nat.ble_eq] at e
    simp only [kl, Bool.or_eq_true, Bool.and_eq_true, beq_iff_eq, Nat.ble_eq] at q
    omega
theorem dj_like_bx : ∀ a k, W_box a k = true → W_like a k = false := fun a k q => by
  cases e : W_like a k with
  | false => rfl
  | true =>
    exfalso
    simp only [W_like, Bool.or_eq_true, Bool.and_eq_true, beq_iff_eq, Nat.ble_eq] at e
    simp only [W_box, Bool.or_eq_true, Bool.and_eq_true, beq_iff_eq, Nat.ble_eq] at q
    omega
theorem dj_like_sk : ∀ a k, W_skill a k = true → W_like a k = false := fun a k q => by
  cases e : W_like a k with
  | false => rfl
  | true =>
    exfalso
    simp only [W_like, Bool.or_eq_true, Bool.and_eq_true, beq_iff_eq, Nat.ble_eq] at e
    simp only [W_skill, Bool.or_eq_true, Bool.and_eq_true, beq_iff_eq, Nat.ble_eq] at q
    omega
theorem dj_like_tp : ∀ a k, W_tape a k = true → W_like a k = false := fun a k q => by
  cases e : W_like a k with
  | false => rfl
  | true =>
    exfalso
    simp only [W_like, Bool.or_eq_true, Bool.and_eq_true, beq_iff_eq, Nat.ble_eq] at e
    simp only [W_tape, Bool.or_eq_true, Bool.and_eq_true, beq_iff_eq, Nat.ble_eq] at q
    omega
theorem dj_like_ph : ∀ a k, R_ph a k = true → W_like a k = false := fun a k q => by
  cases e : W_like a k with
  | false => rfl
  | true =>
    exfalso
    simp only [W_like, Bool.or_eq_true, Bool.and_eq_true, beq_iff_eq, Nat.ble_eq] at e
    simp only [R_ph, Bool.or_eq_true, Bool.and_eq_true, beq_iff_eq, Nat.ble_eq] at q
    omega
theorem dj_like_ar : ∀ a k, R_arr a k = true → W_like a k = false := fun a k q => by
  cases e : W_like a k with
  | false => rfl
  | true =>
    exfalso
    simp only [W_like, Bool.or_eq_true, Bool.and_eq_true, beq_iff_eq, Nat.ble_eq] at e
    simp only [R_arr, Bool.or_eq_true, Bool.and_eq_true, beq_iff_eq, Nat.ble_eq] at q
    omega
theorem dj_like_mo : ∀ a k, R_mo a k = true → W_like a k = false := fun a k q => by
  cases e : W_like a k with
  | false => rfl
  | true =>
    exfalso
    simp only [W_like, Bool.or_eq_true, Bool.and_eq_true, beq_iff_eq, Nat.ble_eq] at e
    simp only [R_mo, Bool.or_eq_true, Bool.and_eq_true, beq_iff_eq, Nat.ble_eq] at q
    omega
theorem dj_like_as : ∀ a k, R_as a k = true → W_like a k = false := fun a k q => by
  cases e : W_like a k with
  | false => rfl
  | true =>
    exfalso
    simp only [W_like, Bool.or_eq_true, Bool.and_eq_true, beq_iff_eq, Nat.ble_eq] at e
    simp only [R_as, Bool.or_eq_true, Bool.and_eq_true, beq_iff_eq, Nat.ble_eq] at q
    omega
theorem dj_like_wy : ∀ a k, R_wy a k = true → W_like a k = false := fun a k q => by
  cases e : W_like a k with
  | false => rfl
  | true =>
    exfalso
    simp only [W_like, Bool.or_eq_true, Bool.and_eq_true, beq_iff_eq, Nat.ble_eq] at e
    simp only [R_wy, Bool.or_eq_true, Bool.and_eq_true, beq_iff_eq, Nat.ble_eq] at q
    omega
theorem dj_skill_cl : ∀ a k, kl a k = true → W_skill a k = false := fun a k q => by
  cases e : W_skill a k with
  | false => rfl
  | true =>
    exfalso
    simp only [W_skill, Bool.or_eq_true, Bool.and_eq_true, beq_iff_eq, Nat.ble_eq] at e
    simp only [kl, Bool.or_eq_true, Bool.and_eq_true, beq_iff_eq, Nat.ble_eq] at q
    omega
theorem dj_skill_bx : ∀ a k, W_box a k = true → W_skill a k = false := fun a k q => by
  cases e : W_skill a k with
  | false => rfl
  | true =>
    exfalso
    simp only [W_skill, Bool.or_eq_true, Bool.and_eq_true, beq_iff_eq, Nat.ble_eq] at e
    simp only [W_box, Bool.or_eq_true, Bool.and_eq_true, beq_iff_eq, Nat.ble_eq] at q
    omega
theorem dj_skill_tp : ∀ a k, W_tape a k = true → W_skill a k = false := fun a k q => by
  cases e : W_skill a k with
  | false => rfl
  | true =>
    exfalso
    simp only [W_skill, Bool.or_eq_true, Bool.and_eq_true, beq_iff_eq, Nat.ble_eq] at e
    simp only [W_tape, Bool.or_eq_true, Bool.and_eq_true, beq_iff_eq, Nat.ble_eq] at q
    omega
theorem dj_skill_ph : ∀ a k, R_ph a k = true → W_skill a k = false := fun a k q => by
  cases e : W_skill a k with
  | false => rfl
  | true =>
    exfalso
    simp only [W_skill, Bool.or_eq_true, Bool.and_eq_true, beq_iff_eq, Nat.ble_eq] at e
    simp only [R_ph, Bool.or_eq_true, Bool.and_eq_true, beq_iff_eq, Nat.ble_eq] at q
    omega
theorem dj_skill_ar : ∀ a k, R_arr a k = true → W_skill a k = false := fun a k q => by
  cases e : W_skill a k with
  | false => rfl
  | true =>
    exfalso
    simp only [W_skill, Bool.or_eq_true, Bool.and_eq_true, beq_iff_eq, Nat.ble_eq] at e
    simp only [R_arr, Bool.or_eq_true, Bool.and_eq_true, beq_iff_eq, Nat.ble_eq] at q
    omega
theorem dj_skill_mo : ∀ a k, R_mo a k = true → W_skill a k = false := fun a k q => by
  cases e : W_skill a k with
  | false => rfl
  | true =>
    exfalso
    simp only [W_skill, Bool.or_eq_true, Bool.and_eq_true, beq_iff_eq, Nat.ble_eq] at e
    simp only [R_mo, Bool.or_eq_true, Bool.and_eq_true, beq_iff_eq, Nat.ble_eq] at q
    omega
theorem dj_skill_as : ∀ a k, R_as a k = true → W_skill a k = false := fun a k q => by
  cases e : W_skill a k with
  | false => rfl
  | true =>
    exfalso
    simp only [W_skill, Bool.or_eq_true, Bool.and_eq_true, beq_iff_eq, Nat.ble_eq] at e
    simp only [R_as, Bool.or_eq_true, Bool.and_eq_true, beq_iff_eq, Nat.ble_eq] at q
    omega
theorem dj_skill_I : ∀ a k, rI a k = true → W_skill a k = false := fun a k q => by
  cases e : W_skill a k with
  | false => rfl
  | true =>
    exfalso
    simp only [W_skill, Bool.or_eq_true, Bool.and_eq_true, beq_iff_eq, Nat.ble_eq] at e
    simp only [rI, R_fit, Bool.or_eq_true, Bool.and_eq_true, beq_iff_eq, Nat.ble_eq] at q
    omega
theorem dj_box_cl : ∀ a k, kl a k = true → W_box a k = false := fun a k q => by
  cases e : W_box a k with
  | false => rfl
  | true =>
    exfalso
    simp only [W_box, Bool.or_eq_true, Bool.and_eq_true, beq_iff_eq, Nat.ble_eq] at e
    simp only [kl, Bool.or_eq_true, Bool.and_eq_true, beq_iff_eq, Nat.ble_eq] at q
    omega
theorem dj_box_sk : ∀ a k, W_skill a k = true → W_box a k = false := fun a k q => by
  cases e : W_box a k with
  | false => rfl
  | true =>
    exfalso
    simp only [W_box, Bool.or_eq_true, Bool.and_eq_true, beq_iff_eq, Nat.ble_eq] at e
    simp only [W_skill, Bool.or_eq_true, Bool.and_eq_true, beq_iff_eq, Nat.ble_eq] at q
    omega
theorem dj_box_tp : ∀ a k, W_tape a k = true → W_box a k = false := fun a k q => by
  cases e : W_box a k with
  | false => rfl
  | true =>
    exfalso
    simp only [W_box, Bool.or_eq_true, Bool.and_eq_true, beq_iff_eq, Nat.ble_eq] at e
    simp only [W_tape, Bool.or_eq_true, Bool.and_eq_true, beq_iff_eq, Nat.ble_eq] at q
    omega
theorem dj_box_ph : ∀ a k, R_ph a k = true → W_box a k = false := fun a k q => by
  cases e : W_box a k with
  | false => rfl
  | true =>
    exfalso
    simp only [W_box, Bool.or_eq_true, Bool.and_eq_true, beq_iff_eq, Nat.ble_eq] at e
    simp only [R_ph, Bool.or_eq_true, Bool.and_eq_true, beq_iff_eq, Nat.ble_eq] at q
    omega
theorem dj_box_ar : ∀ a k, R_arr a k = true → W_box a k = false := fun a k q => by
  cases e : W_box a k with
  | false => rfl
  | true =>
    exfalso
    simp only [W_box, Bool.or_eq_true, Bool.and_eq_true, beq_iff_eq, Nat.ble_eq] at e
    simp only [R_arr, Bool.or_eq_true, Bool.and_eq_true, beq_iff_eq, Nat.ble_eq] at q
    omega
theorem dj_box_mo : ∀ a k, R_mo a k = true → W_box a k = false := fun a k q => by
  cases e : W_box a k with
  | false => rfl
  | true =>
    exfalso
    simp only [W_box, Bool.or_eq_true, Bool.and_eq_true, beq_iff_eq, Nat.ble_eq] at e
    simp only [R_mo, Bool.or_eq_true, Bool.and_eq_true, beq_iff_eq, Nat.ble_eq] at q
    omega
theorem dj_box_as : ∀ a k, R_as a k = true → W_box a k = false := fun a k q => by
  cases e : W_box a k with
  | false => rfl
  | true =>
    exfalso
    simp only [W_box, Bool.or_eq_true, Bool.and_eq_true, beq_iff_eq, Nat.ble_eq] at e
    simp only [R_as, Bool.or_eq_true, Bool.and_eq_true, beq_iff_eq, Nat.ble_eq] at q
    omega
theorem dj_box_I : ∀ a k, rI a k = true → W_box a k = false := fun a k q => by
  cases e : W_box a k with
  | false => rfl
  | true =>
    exfalso
    simp only [W_box, Bool.or_eq_true, Bool.and_eq_true, beq_iff_eq, Nat.ble_eq] at e
    simp only [rI, R_fit, Bool.or_eq_true, Bool.and_eq_true, beq_iff_eq, Nat.ble_eq] at q
    omega
theorem dj_tape_cl : ∀ a k, kl a k = true → W_tape a k = false := fun a k q => by
  cases e : W_tape a k with
  | false => rfl
  | true =>
    exfalso
    simp only [W_tape, Bool.or_eq_true, Bool.and_eq_true, beq_iff_eq, Nat.ble_eq] at e
    simp only [kl, Bool.or_eq_true, Bool.and_eq_true, beq_iff_eq, Nat.ble_eq] at q
    omega
theorem dj_tape_bx : ∀ a k, W_box a k = true → W_tape a k = false := fun a k q => by
  cases e : W_tape a k with
  | false => rfl
  | true =>
    exfalso
    simp only [W_tape, Bool.or_eq_true, Bool.and_eq_true, beq_iff_eq, Nat.ble_eq] at e
    simp only [W_box, Bool.or_eq_true, Bool.and_eq_true, beq_iff_eq, Nat.ble_eq] at q
    omega
theorem dj_tape_sk : ∀ a k, W_skill a k = true → W_tape a k = false := fun a k q => by
  cases e : W_tape a k with
  | false => rfl
  | true =>
    exfalso
    simp only [W_tape, Bool.or_eq_true, Bool.and_eq_true, beq_iff_eq, Nat.ble_eq] at e
    simp only [W_skill, Bool.or_eq_true, Bool.and_eq_true, beq_iff_eq, Nat.ble_eq] at q
    omega
theorem dj_tape_ph : ∀ a k, R_ph a k = true → W_tape a k = false := fun a k q => by
  cases e : W_tape a k with
  | false => rfl
  | true =>
    exfalso
    simp only [W_tape, Bool.or_eq_true, Bool.and_eq_true, beq_iff_eq, Nat.ble_eq] at e
    simp only [R_ph, Bool.or_eq_true, Bool.and_eq_true, beq_iff_eq, Nat.ble_eq] at q
    omega
theorem dj_tape_ar : ∀ a k, R_arr a k = true → W_tape a k = false := fun a k q => by
  cases e : W_tape a k with
  | false => rfl
  | true =>
    exfalso
    simp only [W_tape, Bool.or_eq_true, Bool.and_eq_true, beq_iff_eq, Nat.ble_eq] at e
    simp only [R_arr, Bool.or_eq_true, Bool.and_eq_true, beq_iff_eq, Nat.ble_eq] at q
    omega
theorem dj_tape_mo : ∀ a k, R_mo a k = true → W_tape a k = false := fun a k q => by
  cases e : W_tape a k with
  | false => rfl
  | true =>
    exfalso
    simp only [W_tape, Bool.or_eq_true, Bool.and_eq_true, beq_iff_eq, Nat.ble_eq] at e
    simp only [R_mo, Bool.or_eq_true, Bool.and_eq_true, beq_iff_eq, Nat.ble_eq] at q
    omega
theorem dj_tape_as : ∀ a k, R_as a k = true → W_tape a k = false := fun a k q => by
  cases e : W_tape a k with
  | false => rfl
  | true =>
    exfalso
    simp only [W_tape, Bool.or_eq_true, Bool.and_eq_true, beq_iff_eq, Nat.ble_eq] at e
    simp only [R_as, Bool.or_eq_true, Bool.and_eq_true, beq_iff_eq, Nat.ble_eq] at q
    omega
theorem dj_tape_I : ∀ a k, rI a k = true → W_tape a k = false := fun a k q => by
  cases e : W_tape a k with
  | false => rfl
  | true =>
    exfalso
    simp only [W_tape, Bool.or_eq_true, Bool.and_eq_true, beq_iff_eq, Nat.ble_eq] at e
    simp only [rI, R_fit, Bool.or_eq_true, Bool.and_eq_true, beq_iff_eq, Nat.ble_eq] at q
    omega
theorem dj_scr_cl : ∀ a k, kl a k = true → scr a k = false := fun a k q => by
  cases e : scr a k with
  | false => rfl
  | true =>
    exfalso
    simp only [scr, Bool.or_eq_true, Bool.and_eq_true, beq_iff_eq, Nat.ble_eq] at e
    simp only [kl, Bool.or_eq_true, Bool.and_eq_true, beq_iff_eq, Nat.ble_eq] at q
    omega
theorem dj_scr_bx : ∀ a k, W_box a k = true → scr a k = false := fun a k q => by
  cases e : scr a k with
  | false => rfl
  | true =>
    exfalso
    simp only [scr, Bool.or_eq_true, Bool.and_eq_true, beq_iff_eq, Nat.ble_eq] at e
    simp only [W_box, Bool.or_eq_true, Bool.and_eq_true, beq_iff_eq, Nat.ble_eq] at q
    omega
theorem dj_scr_sk : ∀ a k, W_skill a k = true → scr a k = false := fun a k q => by
  cases e : scr a k with
  | false => rfl
  | true =>
    exfalso
    simp only [scr, Bool.or_eq_true, Bool.and_eq_true, beq_iff_eq, Nat.ble_eq] at e
    simp only [W_skill, Bool.or_eq_true, Bool.and_eq_true, beq_iff_eq, Nat.ble_eq] at q
    omega
theorem dj_scr_tp : ∀ a k, W_tape a k = true → scr a k = false := fun a k q => by
  cases e : scr a k with
  | false => rfl
  | true =>
    exfalso
    simp only [scr, Bool.or_eq_true, Bool.and_eq_true, beq_iff_eq, Nat.ble_eq] at e
    simp only [W_tape, Bool.or_eq_true, Bool.and_eq_true, beq_iff_eq, Nat.ble_eq] at q
    omega
theorem dj_scr_ph : ∀ a k, R_ph a k = true → scr a k = false := fun a k q => by
  cases e : scr a k with
  | false => rfl
  | true =>
    exfalso
    simp only [scr, Bool.or_eq_true, Bool.and_eq_true, beq_iff_eq, Nat.ble_eq] at e
    simp only [R_ph, Bool.or_eq_true, Bool.and_eq_true, beq_iff_eq, Nat.ble_eq] at q
    omega
theorem dj_scr_ar : ∀ a k, R_arr a k = true → scr a k = false := fun a k q => by
  cases e : scr a k with
  | false => rfl
  | true =>
    exfalso
    simp only [scr, Bool.or_eq_true, Bool.and_eq_true, beq_iff_eq, Nat.ble_eq] at e
    simp only [R_arr, Bool.or_eq_true, Bool.and_eq_true, beq_iff_eq, Nat.ble_eq] at q
    omega
theorem dj_scr_mo : ∀ a k, R_mo a k = true → scr a k = false := fun a k q => by
  cases e : scr a k with
  | false => rfl
  | true =>
    exfalso
    simp only [scr, Bool.or_eq_true, Bool.and_eq_true, beq_iff_eq, Nat.ble_eq] at e
    simp only [R_mo, Bool.or_eq_true, Bool.and_eq_true, beq_iff_eq, Nat.ble_eq] at q
    omega
theorem dj_scr_as : ∀ a k, R_as a k = true → scr a k = false := fun a k q => by
  cases e : scr a k with
  | false => rfl
  | true =>
    exfalso
    simp only [scr, Bool.or_eq_true, Bool.and_eq_true, beq_iff_eq, Nat.ble_eq] at e
    simp only [R_as, Bool.or_eq_true, Bool.and_eq_true, beq_iff_eq, Nat.ble_eq] at q
    omega
theorem dj_scr_I : ∀ a k, rI a k = true → scr a k = false := fun a k q => by
  cases e : scr a k with
  | false => rfl
  | true =>
    exfalso
    simp only [scr, Bool.or_eq_true, Bool.and_eq_true, beq_iff_eq, Nat.ble_eq] at e
    simp only [rI, R_fit, Bool.or_eq_true, Bool.and_eq_true, beq_iff_eq, Nat.ble_eq] at q
    omega
theorem dj_scr_wy : ∀ a k, R_wy a k = true → scr a k = false := fun a k q => by
  cases e : scr a k with
  | false => rfl
  | true =>
    exfalso
    simp only [scr, Bool.or_eq_true, Bool.and_eq_true, beq_iff_eq, Nat.ble_eq] at e
    simp only [R_wy, Bool.or_eq_true, Bool.and_eq_true, beq_iff_eq, Nat.ble_eq] at q
    omega
theorem dj_wd_cl : ∀ a k, kl a k = true → wd a k = false := fun a k q => by
  cases e : wd a k with
  | false => rfl
  | true =>
    exfalso
    have q0 := dj_scr_cl a k q
    simp only [wd, q0, Bool.false_or, Bool.or_eq_true, Bool.and_eq_true, beq_iff_eq, Nat.ble_eq] at e
    simp only [kl, Bool.or_eq_true, Bool.and_eq_true, beq_iff_eq, Nat.ble_eq] at q
    omega
theorem dj_wd_bx : ∀ a k, W_box a k = true → wd a k = false := fun a k q => by
  cases e : wd a k with
  | false => rfl
  | true =>
    exfalso
    have q0 := dj_scr_bx a k q
    simp only [wd, q0, Bool.false_or, Bool.or_eq_true, Bool.and_eq_true, beq_iff_eq, Nat.ble_eq] at e
    simp only [W_box, Bool.or_eq_true, Bool.and_eq_true, beq_iff_eq, Nat.ble_eq] at q
    omega
theorem dj_wd_sk : ∀ a k, W_skill a k = true → wd a k = false := fun a k q => by
  cases e : wd a k with
  | false => rfl
  | true =>
    exfalso
    have q0 := dj_scr_sk a k q
    simp only [wd, q0, Bool.false_or, Bool.or_eq_true, Bool.and_eq_true, beq_iff_eq, Nat.ble_eq] at e
    simp only [W_skill, Bool.or_eq_true, Bool.and_eq_true, beq_iff_eq, Nat.ble_eq] at q
    omega
theorem dj_wd_tp : ∀ a k, W_tape a k = true → wd a k = false := fun a k q => by
  cases e : wd a k with
  | false => rfl
  | true =>
    exfalso
    have q0 := dj_scr_tp a k q
    simp only [wd, q0, Bool.false_or, Bool.or_eq_true, Bool.and_eq_true, beq_iff_eq, Nat.ble_eq] at e
    simp only [W_tape, Bool.or_eq_true, Bool.and_eq_true, beq_iff_eq, Nat.ble_eq] at q
    omega
theorem dj_wd_ph : ∀ a k, R_ph a k = true → wd a k = false := fun a k q => by
  cases e : wd a k with
  | false => rfl
  | true =>
    exfalso
    have q0 := dj_scr_ph a k q
    simp only [wd, q0, Bool.false_or, Bool.or_eq_true, Bool.and_eq_true, beq_iff_eq, Nat.ble_eq] at e
    simp only [R_ph, Bool.or_eq_true, Bool.and_eq_true, beq_iff_eq, Nat.ble_eq] at q
    omega
theorem dj_wd_ar : ∀ a k, R_arr a k = true → wd a k = false := fun a k q => by
  cases e : wd a k with
  | false => rfl
  | true =>
    exfalso
    have q0 := dj_scr_ar a k q
    simp only [wd, q0, Bool.false_or, Bool.or_eq_true, Bool.and_eq_true, beq_iff_eq, Nat.ble_eq] at e
    simp only [R_arr, Bool.or_eq_true, Bool.and_eq_true, beq_iff_eq, Nat.ble_eq] at q
    omega
theorem dj_wd_mo : ∀ a k, R_mo a k = true → wd a k = false := fun a k q => by
  cases e : wd a k with
  | false => rfl
  | true =>
    exfalso
    have q0 := dj_scr_mo a k q
    simp only [wd, q0, Bool.false_or, Bool.or_eq_true, Bool.and_eq_true, beq_iff_eq, Nat.ble_eq] at e
    simp only [R_mo, Bool.or_eq_true, Bool.and_eq_true, beq_iff_eq, Nat.ble_eq] at q
    omega
theorem dj_wd_as : ∀ a k, R_as a k = true → wd a k = false := fun a k q => by
  cases e : wd a k with
  | false => rfl
  | true =>
    exfalso
    have q0 := dj_scr_as a k q
    simp only [wd, q0, Bool.false_or, Bool.or_eq_true, Bool.and_eq_true, beq_iff_eq, Nat.ble_eq] at e
    simp only [R_as, Bool.or_eq_true, Bool.and_eq_true, beq_iff_eq, Nat.ble_eq] at q
    omega
theorem dj_wd_wy : ∀ a k, R_wy a k = true → wd a k = false := fun a k q => by
  cases e : wd a k with
  | false => rfl
  | true =>
    exfalso
    have q0 := dj_scr_wy a k q
    simp only [wd, q0, Bool.false_or, Bool.or_eq_true, Bool.and_eq_true, beq_iff_eq, Nat.ble_eq] at e
    simp only [R_wy, Bool.or_eq_true, Bool.and_eq_true, beq_iff_eq, Nat.ble_eq] at q
    omega
theorem dj_wk_bx : ∀ a k, W_box a k = true → wk a k = false := fun a k q => by
  cases e : wk a k with
  | false => rfl
  | true =>
    exfalso
    have q0 := dj_wd_bx a k q
    simp only [wk, kl, q0, Bool.false_or, Bool.or_eq_true, Bool.and_eq_true, beq_iff_eq, Nat.ble_eq] at e
    simp only [W_box, Bool.or_eq_true, Bool.and_eq_true, beq_iff_eq, Nat.ble_eq] at q
    omega
theorem dj_wk_sk : ∀ a k, W_skill a k = true → wk a k = false := fun a k q => by
  cases e : wk a k with
  | false => rfl
  | true =>
    exfalso
    have q0 := dj_wd_sk a k q
    simp only [wk, kl, q0, Bool.false_or, Bool.or_eq_true, Bool.and_eq_true, beq_iff_eq, Nat.ble_eq] at e
    simp only [W_skill, Bool.or_eq_true, Bool.and_eq_true, beq_iff_eq, Nat.ble_eq] at q
    omega
theorem dj_wk_tp : ∀ a k, W_tape a k = true → wk a k = false := fun a k q => by
  cases e : wk a k with
  | false => rfl
  | true =>
    exfalso
    have q0 := dj_wd_tp a k q
    simp only [wk, kl, q0, Bool.false_or, Bool.or_eq_true, Bool.and_eq_true, beq_iff_eq, Nat.ble_eq] at e
    simp only [W_tape, Bool.or_eq_true, Bool.and_eq_true, beq_iff_eq, Nat.ble_eq] at q
    omega
theorem dj_wk_ph : ∀ a k, R_ph a k = true → wk a k = false := fun a k q => by
  cases e : wk a k with
  | false => rfl
  | true =>
    exfalso
    have q0 := dj_wd_ph a k q
    simp only [wk, kl, q0, Bool.false_or, Bool.or_eq_true, Bool.and_eq_true, beq_iff_eq, Nat.ble_eq] at e
    simp only [R_ph, Bool.or_eq_true, Bool.and_eq_true, beq_iff_eq, Nat.ble_eq] at q
    omega
theorem dj_wk_ar : ∀ a k, R_arr a k = true → wk a k = false := fun a k q => by
  cases e : wk a k with
  | false => rfl
  | true =>
    exfalso
    have q0 := dj_wd_ar a k q
    simp only [wk, kl, q0, Bool.false_or, Bool.or_eq_true, Bool.and_eq_true, beq_iff_eq, Nat.ble_eq] at e
    simp only [R_arr, Bool.or_eq_true, Bool.and_eq_true, beq_iff_eq, Nat.ble_eq] at q
    omega
theorem dj_wk_mo : ∀ a k, R_mo a k = true → wk a k = false := fun a k q => by
  cases e : wk a k with
  | false => rfl
  | true =>
    exfalso
    have q0 := dj_wd_mo a k q
    simp only [wk, kl, q0, Bool.false_or, Bool.or_eq_true, Bool.and_eq_true, beq_iff_eq, Nat.ble_eq] at e
    simp only [R_mo, Bool.or_eq_true, Bool.and_eq_true, beq_iff_eq, Nat.ble_eq] at q
    omega
theorem dj_wk_as : ∀ a k, R_as a k = true → wk a k = false := fun a k q => by
  cases e : wk a k with
  | false => rfl
  | true =>
    exfalso
    have q0 := dj_wd_as a k q
    simp only [wk, kl, q0, Bool.false_or, Bool.or_eq_true, Bool.and_eq_true, beq_iff_eq, Nat.ble_eq] at e
    simp only [R_as, Bool.or_eq_true, Bool.and_eq_true, beq_iff_eq, Nat.ble_eq] at q
    omega
theorem dj_wk_wy : ∀ a k, R_wy a k = true → wk a k = false := fun a k q => by
  cases e : wk a k with
  | false => rfl
  | true =>
    exfalso
    have q0 := dj_wd_wy a k q
    simp only [wk, kl, q0, Bool.false_or, Bool.or_eq_true, Bool.and_eq_true, beq_iff_eq, Nat.ble_eq] at e
    simp only [R_wy, Bool.or_eq_true, Bool.and_eq_true, beq_iff_eq, Nat.ble_eq] at q
    omega
theorem dj_wj_bx : ∀ a k, W_box a k = true → wj a k = false := fun a k q => by
  cases e : wj a k with
  | false => rfl
  | true =>
    exfalso
    have q0 := dj_wk_bx a k q
    simp only [wj, q0, Bool.false_or, Bool.or_eq_true, Bool.and_eq_true, beq_iff_eq, Nat.ble_eq] at e
    simp only [W_box, Bool.or_eq_true, Bool.and_eq_true, beq_iff_eq, Nat.ble_eq] at q
    omega
theorem dj_wj_sk : ∀ a k, W_skill a k = true → wj a k = false := fun a k q => by
  cases e : wj a k with
  | false => rfl
  | true =>
    exfalso
    have q0 := dj_wk_sk a k q
    simp only [wj, q0, Bool.false_or, Bool.or_eq_true, Bool.and_eq_true, beq_iff_eq, Nat.ble_eq] at e
    simp only [W_skill, Bool.or_eq_true, Bool.and_eq_true, beq_iff_eq, Nat.ble_eq] at q
    omega
theorem dj_wj_tp : ∀ a k, W_tape a k = true → wj a k = false := fun a k q => by
  cases e : wj a k with
  | false => rfl
  | true =>
    exfalso
    have q0 := dj_wk_tp a k q
    simp only [wj, q0, Bool.false_or, Bool.or_eq_true, Bool.and_eq_true, beq_iff_eq, Nat.ble_eq] at e
    simp only [W_tape, Bool.or_eq_true, Bool.and_eq_true, beq_iff_eq, Nat.ble_eq] at q
    omega
theorem dj_wj_ph : ∀ a k, R_ph a k = true → wj a k = false := fun a k q => by
  cases e : wj a k with
  | false => rfl
  | true =>
    exfalso
    have q0 := dj_wk_ph a k q
    simp only [wj, q0, Bool.false_or, Bool.or_eq_true, Bool.and_eq_true, beq_iff_eq, Nat.ble_eq] at e
    simp only [R_ph, Bool.or_eq_true, Bool.and_eq_true, beq_iff_eq, Nat.ble_eq] at q
    omega
theorem dj_wj_ar : ∀ a k, R_arr a k = true → wj a k = false := fun a k q => by
  cases e : wj a k with
  | false => rfl
  | true =>
    exfalso
    have q0 := dj_wk_ar a k q
    simp only [wj, q0, Bool.false_or, Bool.or_eq_true, Bool.and_eq_true, beq_iff_eq, Nat.ble_eq] at e
    simp only [R_arr, Bool.or_eq_true, Bool.and_eq_true, beq_iff_eq, Nat.ble_eq] at q
    omega
theorem dj_wj_mo : ∀ a k, R_mo a k = true → wj a k = false := fun a k q => by
  cases e : wj a k with
  | false => rfl
  | true =>
    exfalso
    have q0 := dj_wk_mo a k q
    simp only [wj, q0, Bool.false_or, Bool.or_eq_true, Bool.and_eq_true, beq_iff_eq, Nat.ble_eq] at e
    simp only [R_mo, Bool.or_eq_true, Bool.and_eq_true, beq_iff_eq, Nat.ble_eq] at q
    omega
theorem dj_wj_as : ∀ a k, R_as a k = true → wj a k = false := fun a k q => by
  cases e : wj a k with
  | false => rfl
  | true =>
    exfalso
    have q0 := dj_wk_as a k q
    simp only [wj, q0, Bool.false_or, Bool.or_eq_true, Bool.and_eq_true, beq_iff_eq, Nat.ble_eq] at e
    simp only [R_as, Bool.or_eq_true, Bool.and_eq_true, beq_iff_eq, Nat.ble_eq] at q
    omega
theorem dj_wj_wy : ∀ a k, R_wy a k = true → wj a k = false := fun a k q => by
  cases e : wj a k with
  | false => rfl
  | true =>
    exfalso
    have q0 := dj_wk_wy a k q
    simp only [wj, q0, Bool.false_or, Bool.or_eq_true, Bool.and_eq_true, beq_iff_eq, Nat.ble_eq] at e
    simp only [R_wy, Bool.or_eq_true, Bool.and_eq_true, beq_iff_eq, Nat.ble_eq] at q
    omega
theorem dj_pho_cl : ∀ a k, kl a k = true → W_pho a k = false := fun a k q => by
  cases e : W_pho a k with
  | false => rfl
  | true =>
    exfalso
    have q0 := dj_scr_cl a k q
    simp only [W_pho, q0, Bool.false_or, Bool.or_eq_true, Bool.and_eq_true, beq_iff_eq, Nat.ble_eq] at e
    simp only [kl, Bool.or_eq_true, Bool.and_eq_true, beq_iff_eq, Nat.ble_eq] at q
    omega
theorem dj_pho_bx : ∀ a k, W_box a k = true → W_pho a k = false := fun a k q => by
  cases e : W_pho a k with
  | false => rfl
  | true =>
    exfalso
    have q0 := dj_scr_bx a k q
    simp only [W_pho, q0, Bool.false_or, Bool.or_eq_true, Bool.and_eq_true, beq_iff_eq, Nat.ble_eq] at e
    simp only [W_box, Bool.or_eq_true, Bool.and_eq_true, beq_iff_eq, Nat.ble_eq] at q
    omega
theorem dj_pho_sk : ∀ a k, W_skill a k = true → W_pho a k = false := fun a k q => by
  cases e : W_pho a k with
  | false => rfl
  | true =>
    exfalso
    have q0 := dj_scr_sk a k q
    simp only [W_pho, q0, Bool.false_or, Bool.or_eq_true, Bool.and_eq_true, beq_iff_eq, Nat.ble_eq] at e
    simp only [W_skill, Bool.or_eq_true, Bool.and_eq_true, beq_iff_eq, Nat.ble_eq] at q
    omega
theorem dj_pho_ar : ∀ a k, R_arr a k = true → W_pho a k = false := fun a k q => by
  cases e : W_pho a k with
  | false => rfl
  | true =>
    exfalso
    have q0 := dj_scr_ar a k q
    simp only [W_pho, q0, Bool.false_or, Bool.or_eq_true, Bool.and_eq_true, beq_iff_eq, Nat.ble_eq] at e
    simp only [R_arr, Bool.or_eq_true, Bool.and_eq_true, beq_iff_eq, Nat.ble_eq] at q
    omega
theorem dj_pho_mo : ∀ a k, R_mo a k = true → W_pho a k = false := fun a k q => by
  cases e : W_pho a k with
  | false => rfl
  | true =>
    exfalso
    have q0 := dj_scr_mo a k q
    simp only [W_pho, q0, Bool.false_or, Bool.or_eq_true, Bool.and_eq_true, beq_iff_eq, Nat.ble_eq] at e
    simp only [R_mo, Bool.or_eq_true, Bool.and_eq_true, beq_iff_eq, Nat.ble_eq] at q
    omega
theorem dj_pho_as : ∀ a k, R_as a k = true → W_pho a k = false := fun a k q => by
  cases e : W_pho a k with
  | false => rfl
  | true =>
    exfalso
    have q0 := dj_scr_as a k q
    simp only [W_pho, q0, Bool.false_or, Bool.or_eq_true, Bool.and_eq_true, beq_iff_eq, Nat.ble_eq] at e
    simp only [R_as, Bool.or_eq_true, Bool.and_eq_true, beq_iff_eq, Nat.ble_eq] at q
    omega
theorem dj_pho_I : ∀ a k, rI a k = true → W_pho a k = false := fun a k q => by
  cases e : W_pho a k with
  | false => rfl
  | true =>
    exfalso
    have q0 := dj_scr_I a k q
    simp only [W_pho, q0, Bool.false_or, Bool.or_eq_true, Bool.and_eq_true, beq_iff_eq, Nat.ble_eq] at e
    simp only [rI, R_fit, Bool.or_eq_true, Bool.and_eq_true, beq_iff_eq, Nat.ble_eq] at q
    omega
theorem dj_arr_cl : ∀ a k, kl a k = true → W_arr a k = false := fun a k q => by
  cases e : W_arr a k with
  | false => rfl
  | true =>
    exfalso
    have q0 := dj_scr_cl a k q
    simp only [W_arr, W_sv, q0, Bool.false_or, Bool.or_eq_true, Bool.and_eq_true, beq_iff_eq, Nat.ble_eq] at e
    simp only [kl, Bool.or_eq_true, Bool.and_eq_true, beq_iff_eq, Nat.ble_eq] at q
    omega
theorem dj_arr_bx : ∀ a k, W_box a k = true → W_arr a k = false := fun a k q => by
  cases e : W_arr a k with
  | false => rfl
  | true =>
    exfalso
    have q0 := dj_scr_bx a k q
    simp only [W_arr, W_sv, q0, Bool.false_or, Bool.or_eq_true, Bool.and_eq_true, beq_iff_eq, Nat.ble_eq] at e
    simp only [W_box, Bool.or_eq_true, Bool.and_eq_true, beq_iff_eq, Nat.ble_eq] at q
    omega
theorem dj_arr_sk : ∀ a k, W_skill a k = true → W_arr a k = false := fun a k q => by
  cases e : W_arr a k with
  | false => rfl
  | true =>
    exfalso
    have q0 := dj_scr_sk a k q
    simp only [W_arr, W_sv, q0, Bool.false_or, Bool.or_eq_true, Bool.and_eq_true, beq_iff_eq, Nat.ble_eq] at e
    simp only [W_skill, Bool.or_eq_true, Bool.and_eq_true, beq_iff_eq, Nat.ble_eq] at q
    omega
theorem dj_arr_tp : ∀ a k, W_tape a k = true → W_arr a k = false := fun a k q => by
  cases e : W_arr a k with
  | false => rfl
  | true =>
    exfalso
    have q0 := dj_scr_tp a k q
    simp only [W_arr, W_sv, q0, Bool.false_or, Bool.or_eq_true, Bool.and_eq_true, beq_iff_eq, Nat.ble_eq] at e
    simp only [W_tape, Bool.or_eq_true, Bool.and_eq_true, beq_iff_eq, Nat.ble_eq] at q
    omega
theorem dj_arr_ph : ∀ a k, R_ph a k = true → W_arr a k = false := fun a k q => by
  cases e : W_arr a k with
  | false => rfl
  | true =>
    exfalso
    have q0 := dj_scr_ph a k q
    simp only [W_arr, W_sv, q0, Bool.false_or, Bool.or_eq_true, Bool.and_eq_true, beq_iff_eq, Nat.ble_eq] at e
    simp only [R_ph, Bool.or_eq_true, Bool.and_eq_true, beq_iff_eq, Nat.ble_eq] at q
    omega
theorem dj_arr_mo : ∀ a k, R_mo a k = true → W_arr a k = false := fun a k q => by
  cases e : W_arr a k with
  | false => rfl
  | true =>
    exfalso
    have q0 := dj_scr_mo a k q
    simp only [W_arr, W_sv, q0, Bool.false_or, Bool.or_eq_true, Bool.and_eq_true, beq_iff_eq, Nat.ble_eq] at e
    simp only [R_mo, Bool.or_eq_true, Bool.and_eq_true, beq_iff_eq, Nat.ble_eq] at q
    omega
theorem dj_arr_as : ∀ a k, R_as a k = true → W_arr a k = false := fun a k q => by
  cases e : W_arr a k with
  | false => rfl
  | true =>
    exfalso
    have q0 := dj_scr_as a k q
    simp only [W_arr, W_sv, q0, Bool.false_or, Bool.or_eq_true, Bool.and_eq_true, beq_iff_eq, Nat.ble_eq] at e
    simp only [R_as, Bool.or_eq_true, Bool.and_eq_true, beq_iff_eq, Nat.ble_eq] at q
    omega
theorem dj_arr_I : ∀ a k, rI a k = true → W_arr a k = false := fun a k q => by
  cases e : W_arr a k with
  | false => rfl
  | true =>
    exfalso
    have q0 := dj_scr_I a k q
    simp only [W_arr, W_sv, q0, Bool.false_or, Bool.or_eq_true, Bool.and_eq_true, beq_iff_eq, Nat.ble_eq] at e
    simp only [rI, R_fit, Bool.or_eq_true, Bool.and_eq_true, beq_iff_eq, Nat.ble_eq] at q
    omega
theorem dj_sh_cl : ∀ a k, kl a k = true → W_sh a k = false := fun a k q => by
  cases e : W_sh a k with
  | false => rfl
  | true =>
    exfalso
    have q0 := dj_scr_cl a k q
    simp only [W_sh, W_38l, q0, Bool.false_or, Bool.or_eq_true, Bool.and_eq_true, beq_iff_eq, Nat.ble_eq] at e
    simp only [kl, Bool.or_eq_true, Bool.and_eq_true, beq_iff_eq, Nat.ble_eq] at q
    omega
theorem dj_sh_bx : ∀ a k, W_box a k = true → W_sh a k = false := fun a k q => by
  cases e : W_sh a k with
  | false => rfl
  | true =>
    exfalso
    have q0 := dj_scr_bx a k q
    simp only [W_sh, W_38l, q0, Bool.false_or, Bool.or_eq_true, Bool.and_eq_true, beq_iff_eq, Nat.ble_eq] at e
    simp only [W_box, Bool.or_eq_true, Bool.and_eq_true, beq_iff_eq, Nat.ble_eq] at q
    omega
theorem dj_sh_sk : ∀ a k, W_skill a k = true → W_sh a k = false := fun a k q => by
  cases e : W_sh a k with
  | false => rfl
  | true =>
    exfalso
    have q0 := dj_scr_sk a k q
    simp only [W_sh, W_38l, q0, Bool.false_or, Bool.or_eq_true, Bool.and_eq_true, beq_iff_eq, Nat.ble_eq] at e
    simp only [W_skill, Bool.or_eq_true, Bool.and_eq_true, beq_iff_eq, Nat.ble_eq] at q
    omega
theorem dj_sh_tp : ∀ a k, W_tape a k = true → W_sh a k = false := fun a k q => by
  cases e : W_sh a k with
  | false => rfl
  | true =>
    exfalso
    have q0 := dj_scr_tp a k q
    simp only [W_sh, W_38l, q0, Bool.false_or, Bool.or_eq_true, Bool.and_eq_true, beq_iff_eq, Nat.ble_eq] at e
    simp only [W_tape, Bool.or_eq_true, Bool.and_eq_true, beq_iff_eq, Nat.ble_eq] at q
    omega
theorem dj_sh_ph : ∀ a k, R_ph a k = true → W_sh a k = false := fun a k q => by
  cases e : W_sh a k with
  | false => rfl
  | true =>
    exfalso
    have q0 := dj_scr_ph a k q
    simp only [W_sh, W_38l, q0, Bool.false_or, Bool.or_eq_true, Bool.and_eq_true, beq_iff_eq, Nat.ble_eq] at e
    simp only [R_ph, Bool.or_eq_true, Bool.and_eq_true, beq_iff_eq, Nat.ble_eq] at q
    omega
theorem dj_sh_ar : ∀ a k, R_arr a k = true → W_sh a k = false := fun a k q => by
  cases e : W_sh a k with
  | false => rfl
  | true =>
    exfalso
    have q0 := dj_scr_ar a k q
    simp only [W_sh, W_38l, q0, Bool.false_or, Bool.or_eq_true, Bool.and_eq_true, beq_iff_eq, Nat.ble_eq] at e
    simp only [R_arr, Bool.or_eq_true, Bool.and_eq_true, beq_iff_eq, Nat.ble_eq] at q
    omega
theorem dj_sh_as : ∀ a k, R_as a k = true → W_sh a k = false := fun a k q => by
  cases e : W_sh a k with
  | false => rfl
  | true =>
    exfalso
    have q0 := dj_scr_as a k q
    simp only [W_sh, W_38l, q0, Bool.false_or, Bool.or_eq_true, Bool.and_eq_true, beq_iff_eq, Nat.ble_eq] at e
    simp only [R_as, Bool.or_eq_true, Bool.and_eq_true, beq_iff_eq, Nat.ble_eq] at q
    omega
theorem dj_sh_I : ∀ a k, rI a k = true → W_sh a k = false := fun a k q => by
  cases e : W_sh a k with
  | false => rfl
  | true =>
    exfalso
    have q0 := dj_scr_I a k q
    simp only [W_sh, W_38l, q0, Bool.false_or, Bool.or_eq_true, Bool.and_eq_true, beq_iff_eq, Nat.ble_eq] at e
    simp only [rI, R_fit, Bool.or_eq_true, Bool.and_eq_true, beq_iff_eq, Nat.ble_eq] at q
    omega
theorem dj_ask_cl : ∀ a k, kl a k = true → W_ask a k = false := fun a k q => by
  cases e : W_ask a k with
  | false => rfl
  | true =>
    exfalso
    have q0 := dj_scr_cl a k q
    simp only [W_ask, W_mask, q0, Bool.false_or, Bool.or_eq_true, Bool.and_eq_true, beq_iff_eq, Nat.ble_eq] at e
    simp only [kl, Bool.or_eq_true, Bool.and_eq_true, beq_iff_eq, Nat.ble_eq] at q
    omega
theorem dj_ask_bx : ∀ a k, W_box a k = true → W_ask a k = false := fun a k q => by
  cases e : W_ask a k with
  | false => rfl
  | true =>
    exfalso
    have q0 := dj_scr_bx a k q
    simp only [W_ask, W_mask, q0, Bool.false_or, Bool.or_eq_true, Bool.and_eq_true, beq_iff_eq, Nat.ble_eq] at e
    simp only [W_box, Bool.or_eq_true, Bool.and_eq_true, beq_iff_eq, Nat.ble_eq] at q
    omega
theorem dj_ask_sk : ∀ a k, W_skill a k = true → W_ask a k = false := fun a k q => by
  cases e : W_ask a k with
  | false => rfl
  | true =>
    exfalso
    have q0 := dj_scr_sk a k q
    simp only [W_ask, W_mask, q0, Bool.false_or, Bool.or_eq_true, Bool.and_eq_true, beq_iff_eq, Nat.ble_eq] at e
    simp only [W_skill, Bool.or_eq_true, Bool.and_eq_true, beq_iff_eq, Nat.ble_eq] at q
    omega
theorem dj_ask_ph : ∀ a k, R_ph a k = true → W_ask a k = false := fun a k q => by
  cases e : W_ask a k with
  | false => rfl
  | true =>
    exfalso
    have q0 := dj_scr_ph a k q
    simp only [W_ask, W_mask, q0, Bool.false_or, Bool.or_eq_true, Bool.and_eq_true, beq_iff_eq, Nat.ble_eq] at e
    simp only [R_ph, Bool.or_eq_true, Bool.and_eq_true, beq_iff_eq, Nat.ble_eq] at q
    omega
theorem dj_ask_ar : ∀ a k, R_arr a k = true → W_ask a k = false := fun a k q => by
  cases e : W_ask a k with
  | false => rfl
  | true =>
    exfalso
    have q0 := dj_scr_ar a k q
    simp only [W_ask, W_mask, q0, Bool.false_or, Bool.or_eq_true, Bool.and_eq_true, beq_iff_eq, Nat.ble_eq] at e
    simp only [R_arr, Bool.or_eq_true, Bool.and_eq_true, beq_iff_eq, Nat.ble_eq] at q
    omega
theorem dj_ask_mo : ∀ a k, R_mo a k = true → W_ask a k = false := fun a k q => by
  cases e : W_ask a k with
  | false => rfl
  | true =>
    exfalso
    have q0 := dj_scr_mo a k q
    simp only [W_ask, W_mask, q0, Bool.false_or, Bool.or_eq_true, Bool.and_eq_true, beq_iff_eq, Nat.ble_eq] at e
    simp only [R_mo, Bool.or_eq_true, Bool.and_eq_true, beq_iff_eq, Nat.ble_eq] at q
    omega
theorem dj_ask_I : ∀ a k, rI a k = true → W_ask a k = false := fun a k q => by
  cases e : W_ask a k with
  | false => rfl
  | true =>
    exfalso
    have q0 := dj_scr_I a k q
    simp only [W_ask, W_mask, q0, Bool.false_or, Bool.or_eq_true, Bool.and_eq_true, beq_iff_eq, Nat.ble_eq] at e
    simp only [rI, R_fit, Bool.or_eq_true, Bool.and_eq_true, beq_iff_eq, Nat.ble_eq] at q
    omega
theorem dj_scrJ_RJ_arr : ∀ a k, RJ_arr a k = true → scrJ a k = false := fun a k q => by
  cases e : scrJ a k with
  | false => rfl
  | true =>
    exfalso
    simp only [RJ_arr, scrJ, Bool.or_eq_true, Bool.and_eq_true, beq_iff_eq, Nat.ble_eq] at q e
    omega
theorem dj_scrJ_rJI : ∀ a k, rJI a k = true → scrJ a k = false := fun a k q => by
  cases e : scrJ a k with
  | false => rfl
  | true =>
    exfalso
    simp only [rJI, scrJ, Bool.or_eq_true, Bool.and_eq_true, beq_iff_eq, Nat.ble_eq] at q e
    omega
theorem dj_jk_RJ_arr : ∀ a k, RJ_arr a k = true → jk a k = false := fun a k q => by
  cases e : jk a k with
  | false => rfl
  | true =>
    exfalso
    simp only [RJ_arr, jk, scrJ, Bool.or_eq_true, Bool.and_eq_true, beq_iff_eq, Nat.ble_eq] at q e
    omega
theorem dj_jj_RJ_arr : ∀ a k, RJ_arr a k = true → jj a k = false := fun a k q => by
  cases e : jj a k with
  | false => rfl
  | true =>
    exfalso
    simp only [RJ_arr, jj, jk, scrJ, Bool.or_eq_true, Bool.and_eq_true, beq_iff_eq, Nat.ble_eq] at q e
    omega
theorem dj_J_sv_rJI : ∀ a k, rJI a k = true → J_sv a k = false := fun a k q => by
  cases e : J_sv a k with
  | false => rfl
  | true =>
    exfalso
    simp only [rJI, J_sv, scrJ, Bool.or_eq_true, Bool.and_eq_true, beq_iff_eq, Nat.ble_eq] at q e
    omega
theorem dj_nob (R : Nat → Nat → Bool) : ∀ a k, R a k = true → nob a k = false := fun _ _ _ => rfl
