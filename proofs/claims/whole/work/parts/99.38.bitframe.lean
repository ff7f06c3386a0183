/-! The call of bit: what it leaves as it was. -/
def W_bt (n a j : Nat) : Bool := W_cb a j || W_mk n a j || W_rb n a j || W_mS n a j
def P_bt (n a j : Nat) : Prop :=
  ((((((a = 3 ∧ (((j = 1 ∨ j = 2) ∨ j = 3) ∨ j = 7)) ∨ ((a = 4 ∨ a = 5) ∨ a = 6)) ∨ ((a = 7 ∨ a = 8) ∨ a = 9)) ∨ (a = 1 ∧ j = 0)) ∨ ((bA n ≤ a ∨ (a = 10 ∧ j = 1)) ∨ (a = 19 ∧ j = n))) ∨ ((((((a = 44 ∧ (j = 40 ∨ j = 41)) ∨ (a = 46 ∧ j = n)) ∨ (((a = 47 ∨ a = 48) ∨ a = 49) ∧ (8 * n ≤ j ∧ j < 8 * n + 8))) ∨ (((a = 44 ∧ (j = 40 ∨ j = 41)) ∨ (a = 50 ∧ j = n)) ∨ (((a = 51 ∨ a = 52) ∨ a = 53) ∧ (5 * n ≤ j ∧ j < 5 * n + 5)))) ∨ (((a = 57 ∨ a = 58) ∧ j = n) ∨ (((a = 59 ∨ a = 60) ∨ a = 61) ∧ (1600 * n ≤ j ∧ j < 1600 * n + 1600)))) ∨ (a = 44 ∧ j = 2))) ∨ ((((((a = 54 ∨ a = 55) ∨ a = 56) ∨ a = 70) ∨ a = 71) ∧ j = n) ∨ (a = 44 ∧ j = 3))
theorem bt_iff {n a j : Nat} : W_bt n a j = true → P_bt n a j := by
  intro h
  simp only [W_bt, W_cb, W_ct, W_mk, W_nb, W_rb, W_kb, W_kc8, W_ks5, W_ly, W_mS, Bool.or_eq_true, Bool.and_eq_true, beq_iff_eq, decide_eq_true_eq] at h
  exact h
theorem bt_no {n a j : Nat} (h : ¬ P_bt n a j) : W_bt n a j = false := by
  cases e : W_bt n a j with
  | false => rfl
  | true => exact absurd (bt_iff e) h
theorem bt_hi {n a j : Nat} (h1 : 111 ≤ a) (h2 : a < bA n) : W_bt n a j = false := bt_no (by unfold P_bt; omega)
/-- plain fields and cells that a bit never writes, told by their numbers -/
theorem bt_jn {n b c j : Nat} (h : b < n) : W_nb n (bA b + c) j = false ∨ 8 ≤ c := by
  by_cases q : c < 8
  · refine Or.inl ?_
    unfold W_nb
    exact decide_eq_false (by unfold bA; omega)
  · exact Or.inr (by omega)
theorem bt_J {n b c j : Nat} (h : b < n) (hc : c < 8) : W_nb n (bA b + c) j = false := by
  rcases bt_jn (j := j) (c := c) h with q | q
  · exact q
  · omega
theorem bt_Jlo {n a j : Nat} (h : a < 111) : W_nb n a j = false := by
  unfold W_nb
  exact decide_eq_false (by unfold bA; omega)
theorem V_bit_bt {n : Nat} {WJ : Nat → Nat → Bool} {g h : gm_T} (x : exc (W_bt n) WJ g h) (V : V_bit n g) : V_bit n h := by
  refine V_bit_keep V (fun b c j hb hc => x.1 _ _ (bt_hi (by unfold bA; omega) (by unfold bA; omega))) (fun b hb => ⟨x.1 _ _ (bt_no ?_), x.1 _ _ (bt_no ?_), x.1 _ _ (bt_no ?_), x.1 _ _ (bt_no ?_), x.1 _ _ (bt_no ?_), x.1 _ _ (bt_no ?_), x.1 _ _ (bt_no ?_)⟩) (fun j hj => ⟨x.1 _ _ (bt_no ?_), x.1 _ _ (bt_no ?_), x.1 _ _ (bt_no ?_)⟩) (fun j hj => ⟨x.1 _ _ (bt_no ?_), x.1 _ _ (bt_no ?_), x.1 _ _ (bt_no ?_)⟩)
  all_goals (unfold P_bt bA; omega)
theorem cells_bt {n : Nat} {g h : gm_T} (x : exc (W_bt n) (W_nb n) g h) (V : V_bit n g) (C : V_cell n g) : ∀ b, b < n → cellsB h b := by
  intro b hb
  have N := (V b hb).2.2.2.2.2.2.2.1.2.2
  refine cellsB_keep (V_cell_of.mp C b hb) N (x.1 _ _ (bt_no ?_)) (fun j hj => ⟨x.1 _ _ (bt_no ?_), x.1 _ _ (bt_no ?_), x.1 _ _ (bt_no ?_)⟩) (fun j => x.2 _ _ (bt_J hb (by decide)))
  all_goals (unfold P_bt bA; omega)
/-- the old bits' rings and cells are what they were -/
def oldB (n : Nat) (g h : gm_T) : Prop := ∀ b, b < n → gm_I h 46 b = gm_I g 46 b ∧ gm_I h 56 b = gm_I g 56 b ∧ (∀ k, k < 8 → gm_I h 47 (8 * b + k) = gm_I g 47 (8 * b + k) ∧ gm_I h 48 (8 * b + k) = gm_I g 48 (8 * b + k)) ∧ ∀ j, j < 1600 → gm_I h 61 (1600 * b + j) = gm_I g 61 (1600 * b + j)
theorem oldB_bt {n : Nat} {WJ : Nat → Nat → Bool} {g h : gm_T} (x : exc (W_bt n) WJ g h) : oldB n g h := by
  intro b hb
  refine ⟨x.1 _ _ (bt_no ?_), x.1 _ _ (bt_no ?_), fun k hk => ⟨x.1 _ _ (bt_no ?_), x.1 _ _ (bt_no ?_)⟩, fun j hj => x.1 _ _ (bt_no ?_)⟩
  all_goals (unfold P_bt bA; omega)
theorem nx_8 {n : Nat} {g : gm_T} (V : V_bit n g) {b k : Nat} (hb : b < n) : nx g b k < 8 := by
  have := (V b hb).1.2.2
  unfold nx mE
  split <;> omega
theorem nx_old {n : Nat} {g h : gm_T} (o : oldB n g h) {b k : Nat} (hb : b < n) : nx h b k = nx g b k := by
  unfold nx mE
  rw [(o b hb).1]
theorem m_old {n : Nat} {g h : gm_T} (o : oldB n g h) {b k : Nat} (hb : b < n) (hk : k < 8) : mX h b k = mX g b k ∧ mY h b k = mY g b k := (o b hb).2.2.1 k hk
theorem way_old {n : Nat} {g h : gm_T} (V : V_bit n g) (o : oldB n g h) {b k : Nat} (hb : b < n) (hk : k < 8) : wX h b k = wX g b k ∧ wY h b k = wY g b k := by
  unfold wX wY
  rw [nx_old o hb, (m_old o hb (nx_8 V hb)).1, (m_old o hb (nx_8 V hb)).2, (m_old o hb hk).1, (m_old o hb hk).2]
  exact ⟨rfl, rfl⟩
theorem tn_old {n : Nat} {g h : gm_T} (V : V_bit n g) (o : oldB n g h) {a k b l : Nat} (ha : a < n) (hb : b < n) (hk : k < 8) (hl : l < 8) : tn h a k b l = tn g a k b l := by
  unfold tn tf
  rw [(way_old V o hb hl).1, (way_old V o hb hl).2, (way_old V o ha hk).1, (way_old V o ha hk).2, (o a ha).2.1, (o b hb).2.1]
theorem fX_old {n : Nat} {g h : gm_T} (V : V_bit n g) (o : oldB n g h) {a k b l : Nat} (ha : a < n) (hb : b < n) (hk : k < 8) (hl : l < 8) : fX h a k b l = fX g a k b l ∧ fY h a k b l = fY g a k b l := by
  unfold fX fY
  rw [tn_old V o ha hb hk hl, nx_old o ha, (m_old o ha (nx_8 V ha)).1, (m_old o ha (nx_8 V ha)).2, (m_old o hb hl).1, (m_old o hb hl).2]
  exact ⟨rfl, rfl⟩
theorem Kc_old {n : Nat} {g h : gm_T} (o : oldB n g h) {b : Nat} (hb : b < n) : Kc h b = Kc g b := by
  funext x y
  unfold Kc
  by_cases q : (-20 ≤ x ∧ x ≤ 19) ∧ -20 ≤ y ∧ y ≤ 19
  · rw [Nat.add_assoc, (o b hb).2.2.2 (40 * (y + 20).toNat + (x + 20).toNat) (by omega)]
  · rw [show decide ((-20 ≤ x ∧ x ≤ 19) ∧ -20 ≤ y ∧ y ≤ 19) = false from decide_eq_false q, Bool.false_and, Bool.false_and]
theorem ov_old {n : Nat} {g h : gm_T} (o : oldB n g h) {a b : Nat} (ha : a < n) (hb : b < n) (t u v : Int) : ov h a b t u v = ov g a b t u v := by
  unfold ov
  rw [Kc_old o ha, Kc_old o hb]
theorem k8_of {n : Nat} {g : gm_T} (V : V_bit n g) {b k : Nat} (hb : b < n) (hk : (k : Int) < mE g b) : k < 8 := by
  have := (V b hb).1.2.2
  unfold mE at hk
  omega
theorem tab_old {n : Nat} {g h : gm_T} (V : V_bit n g) (o : oldB n g h) (T : V_tab n g) (e : ∀ j, gm_I h 63 j = gm_I g 63 j ∧ gm_I h 64 j = gm_I g 64 j) : ∀ a b k l : Nat, a < n → b < n → a ≠ b → (k : Int) < mE h a → (l : Int) < mE h b → tbE h h a k b l := by
  intro a b k l ha hb hab hk hl
  have hk' : (k : Int) < mE g a := by unfold mE at *; rw [(o a ha).1] at hk; exact hk
  have hl' : (l : Int) < mE g b := by unfold mE at *; rw [(o b hb).1] at hl; exact hl
  have k8 := k8_of V ha hk'
  have l8 := k8_of V hb hl'
  obtain ⟨t1, t2⟩ := T a b k l ha hb hab hk' hl'
  unfold tbE
  rw [tn_old V o ha hb k8 l8, (fX_old V o ha hb k8 l8).1, (fX_old V o ha hb k8 l8).2, ov_old o ha hb, (e _).1, (e _).2]
  exact ⟨t1, t2⟩
