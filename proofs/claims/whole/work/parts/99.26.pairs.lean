/-! The reference compares two bits: what it reads is not what it writes. -/
theorem V_bit_tb {n : Nat} {g h : gm_T} (x : exc W_tb nob g h) (V : V_bit n g) : V_bit n h := by
  intro b hb
  have v := V b hb
  have B := bA_ge b
  have e : ∀ a j, ¬ a = 63 → ¬ a = 64 → gm_I h a j = gm_I g a j := fun a j h1 h2 => x.1 a j (by
    unfold W_tb
    rw [Bool.or_eq_false_iff]
    exact ⟨beq_eq_false_iff_ne.mpr h1, beq_eq_false_iff_ne.mpr h2⟩)
  simp only [e (bA b) _ (by omega) (by omega), e (bA b + 2) _ (by omega) (by omega), e (bA b + 3) _ (by omega) (by omega), e (bA b + 4) _ (by omega) (by omega), e (bA b + 5) _ (by omega) (by omega), e (bA b + 6) _ (by omega) (by omega), e (bA b + 7) _ (by omega) (by omega), x.1 46 _ rfl, x.1 47 _ rfl, x.1 48 _ rfl, x.1 49 _ rfl, x.1 50 _ rfl, x.1 51 _ rfl, x.1 52 _ rfl, x.1 53 _ rfl, x.1 54 _ rfl, x.1 55 _ rfl, x.1 56 _ rfl, x.1 57 _ rfl, x.1 58 _ rfl]
  exact v
theorem Kc_tb {g h : gm_T} (x : exc W_tb nob g h) : Kc h = Kc g := by
  funext b a c
  unfold Kc
  rw [x.1 61 _ rfl]
theorem Kt_tb {g h : gm_T} (x : exc W_tb nob g h) : Kt h = Kt g := by
  funext b t a c
  unfold Kt
  rw [Kc_tb x]
theorem V_cell_tb {n : Nat} {g h : gm_T} (x : exc W_tb nob g h) (V : V_cell n g) : V_cell n h := by
  intro b hb
  have v := V b hb
  rw [Kc_tb x, Kt_tb x]
  simp only [x.1 57 _ rfl, x.1 59 _ rfl, x.1 60 _ rfl, x.1 61 _ rfl, x.2 _ _ (show nob _ _ = false from rfl)]
  exact v
theorem nx_tb {g h : gm_T} (x : exc W_tb nob g h) (b k : Nat) : nx h b k = nx g b k := by
  unfold nx mE
  rw [x.1 46 _ rfl]
theorem way_tb {g h : gm_T} (x : exc W_tb nob g h) (b k : Nat) : wX h b k = wX g b k ∧ wY h b k = wY g b k := by
  unfold wX wY mX mY
  rw [nx_tb x, x.1 47 _ rfl, x.1 47 _ rfl, x.1 48 _ rfl, x.1 48 _ rfl]
  exact ⟨rfl, rfl⟩
theorem tn_tb {g h : gm_T} (x : exc W_tb nob g h) (a k b l : Nat) : tn h a k b l = tn g a k b l := by
  unfold tn tf
  rw [(way_tb x b l).1, (way_tb x b l).2, (way_tb x a k).1, (way_tb x a k).2, x.1 56 _ rfl, x.1 56 _ rfl]
theorem fX_tb {g h : gm_T} (x : exc W_tb nob g h) (a k b l : Nat) : fX h a k b l = fX g a k b l ∧ fY h a k b l = fY g a k b l := by
  unfold fX fY mX mY
  rw [tn_tb x, nx_tb x, x.1 47 _ rfl, x.1 47 _ rfl, x.1 48 _ rfl, x.1 48 _ rfl]
  exact ⟨rfl, rfl⟩
theorem ov_tb {g h : gm_T} (x : exc W_tb nob g h) (a b : Nat) (t u v : Int) : ov h a b t u v = ov g a b t u v := by
  unfold ov
  rw [Kc_tb x]
theorem md_way_n {n : Nat} {g : gm_T} (h30 : n ≤ 30) (V : V_bit n g) {b k : Nat} (hb : b < n) (hk : (k : Int) < mE g b) : md_wayX g (b : Int) (k : Int) = some (wX g b k) ∧ md_wayY g (b : Int) (k : Int) = some (wY g b k) := by
  obtain ⟨n1, n2⟩ := nx_lt V hb hk
  have k8 : k < 8 := by have := (V b hb).1.2.2; unfold mE at hk; omega
  unfold md_wayX md_wayY
  rw [md_next_eq h30 V hb hk, jb1_some, jb1_some, i8_eq, jg_pos (by omega), jg_pos (by omega), jg_pos (by omega), jg_pos (by omega), Int.toNat_natCast, Int.toNat_natCast]
  exact ⟨rfl, rfl⟩
theorem md_fit_ab {n : Nat} {g : gm_T} (h30 : n ≤ 30) (hv : V_bit n g) {a b k l : Nat} (ha : a < n) (hb : b < n) (hk : (k : Int) < mE g a) (hl : (l : Int) < mE g b) (h63 : gm_I g 63 (at4 a k b l) = tn g a k b l) (ht : tn g a k b l ≠ -1) : md_fitX g (a : Int) (k : Int) (b : Int) (l : Int) = some (fX g a k b l) ∧ md_fitY g (a : Int) (k : Int) (b : Int) (l : Int) = some (fY g a k b l) := by
  obtain ⟨n1, n2⟩ := nx_lt hv ha hk
  obtain ⟨x3, y3, -, -⟩ := xy_in hv hb hl
  obtain ⟨-, a8⟩ := (hv a ha).1.2
  obtain ⟨-, b8⟩ := (hv b hb).1.2
  have h2 := tn_in g a k b l
  unfold md_fitX md_fitY md_entry
  unfold mE at hk hl n1
  have e1 : (8 * (b : Int) + (l : Int)).toNat = 8 * b + l := by omega
  have e2 : (240 * (8 * (a : Int) + (k : Int)) + 8 * (b : Int) + (l : Int)).toNat = at4 a k b l := by unfold at4; omega
  simp only [jl_eq, md_next_eq h30 hv ha hk, jb1_some, Int.toNat_natCast, e1, e2]
  rw [jg_pos (by omega), jg_pos (by omega), jg_pos (by omega), jg_pos (by omega), jg_pos (by omega), jg_pos (by omega), h63]
  have x4 : -20 ≤ gm_I g 47 (8 * b + l) ∧ gm_I g 47 (8 * b + l) ≤ 20 := x3
  have y4 : -20 ≤ gm_I g 48 (8 * b + l) ∧ gm_I g 48 (8 * b + l) ≤ 20 := y3
  rw [md_turnedX_eq ⟨by omega, h2.2⟩ ⟨by omega, by omega⟩ ⟨by omega, by omega⟩, md_turnedY_eq ⟨by omega, h2.2⟩ ⟨by omega, by omega⟩ ⟨by omega, by omega⟩]
  exact ⟨rfl, rfl⟩
