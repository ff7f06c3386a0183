/-! The class makes a bit: its box, its cells. -/
def mnf (X : Nat → Int) : Nat → Int
  | 0 => X 0
  | w + 1 => zmin (mnf X w) (X (w + 1))
def mxf (X : Nat → Int) : Nat → Int
  | 0 => X 0
  | w + 1 => zmax (mxf X w) (X (w + 1))
theorem mnf_ok {c : Nat} {X : Nat → Int} (h : ∀ k, k < c → -20 ≤ X k ∧ X k ≤ 20) : ∀ w, w < c → (-20 ≤ mnf X w ∧ mnf X w ≤ 20) ∧ ∀ k, k ≤ w → mnf X w ≤ X k := by
  intro w
  induction w with
  | zero => intro hw; exact ⟨h 0 hw, fun k hk => by rw [show k = 0 by omega]; exact Int.le_refl _⟩
  | succ w ih =>
    intro hw
    have i := ih (by omega)
    have b := h (w + 1) hw
    show (-20 ≤ zmin (mnf X w) (X (w + 1)) ∧ zmin (mnf X w) (X (w + 1)) ≤ 20) ∧ ∀ k, k ≤ w + 1 → zmin (mnf X w) (X (w + 1)) ≤ X k
    refine ⟨zmin_b i.1 b, fun k hk => ?_⟩
    by_cases e : k = w + 1
    · rw [e]; unfold zmin; split <;> omega
    · have := i.2 k (by omega)
      unfold zmin; split <;> omega
theorem mxf_ok {c : Nat} {X : Nat → Int} (h : ∀ k, k < c → -20 ≤ X k ∧ X k ≤ 20) : ∀ w, w < c → (-20 ≤ mxf X w ∧ mxf X w ≤ 20) ∧ ∀ k, k ≤ w → X k ≤ mxf X w := by
  intro w
  induction w with
  | zero => intro hw; exact ⟨h 0 hw, fun k hk => by rw [show k = 0 by omega]; exact Int.le_refl _⟩
  | succ w ih =>
    intro hw
    have i := ih (by omega)
    have b := h (w + 1) hw
    show (-20 ≤ zmax (mxf X w) (X (w + 1)) ∧ zmax (mxf X w) (X (w + 1)) ≤ 20) ∧ ∀ k, k ≤ w + 1 → X k ≤ zmax (mxf X w) (X (w + 1))
    refine ⟨zmax_b i.1 b, fun k hk => ?_⟩
    by_cases e : k = w + 1
    · rw [e]; unfold zmax; split <;> omega
    · have := i.2 k (by omega)
      unfold zmax; split <;> omega
theorem ck_least_4_lp {g : gm_T} {c : Nat} {X Y : Nat → Int} (hG : rG c X Y) (h : isC g c X Y) : ∀ d w fuel, d < fuel → w + 1 + d = c → ck_least_4_l6 g fuel (mnf X w) ((w + 1 : Nat) : Int) = some (mnf X (c - 1)) := by
  have c8 := hG.1.2
  intro d
  induction d with
  | zero =>
    intro w fuel hf hv
    obtain ⟨fuel, rfl⟩ : ∃ z, fuel = z + 1 := ⟨fuel - 1, by omega⟩
    unfold ck_least_4_l6
    rw [h.1, jg_pos ⟨rgn (by omega), rgn (by omega)⟩, if_neg (by omega), show c - 1 = w from by omega]
  | succ d ih =>
    intro w fuel hf hv
    obtain ⟨fuel, rfl⟩ : ∃ z, fuel = z + 1 := ⟨fuel - 1, by omega⟩
    have hk : w + 1 < c := by omega
    have b := (mnf_ok (X := X) (fun k hk => (hG.2 k hk).1) w (by omega)).1
    unfold ck_least_4_l6
    rw [h.1, jg_pos ⟨rgn (by omega), rgn (by omega)⟩, if_pos (by omega), jg_pos (by omega), Int.toNat_natCast, (h.2 _ hk).1, jg_pos ⟨rg20 b, rg20 (hG.2 _ hk).1⟩, jl_eq]
    exact ih (w + 1) fuel (by omega) (by omega)
theorem ck_least_4_eq {g : gm_T} {c : Nat} {X Y : Nat → Int} (hG : rG c X Y) (h : isC g c X Y) : ck_least_4 g = some (mnf X (c - 1)) := by
  have c8 := hG.1
  unfold ck_least_4
  rw [jl_eq, (h.2 0 (by omega)).1, show ck_least_4_l6 g fz (X 0) 1 = some (mnf X (c - 1)) from ck_least_4_lp hG h (c - 1) 0 fz (Nat.lt_of_le_of_lt (show c - 1 ≤ 8 by omega) (fz_gt rfl)) (by omega)]
  rfl
theorem ck_most_4_lp {g : gm_T} {c : Nat} {X Y : Nat → Int} (hG : rG c X Y) (h : isC g c X Y) : ∀ d w fuel, d < fuel → w + 1 + d = c → ck_most_4_l6 g fuel (mxf X w) ((w + 1 : Nat) : Int) = some (mxf X (c - 1)) := by
  have c8 := hG.1.2
  intro d
  induction d with
  | zero =>
    intro w fuel hf hv
    obtain ⟨fuel, rfl⟩ : ∃ z, fuel = z + 1 := ⟨fuel - 1, by omega⟩
    unfold ck_most_4_l6
    rw [h.1, jg_pos ⟨rgn (by omega), rgn (by omega)⟩, if_neg (by omega), show c - 1 = w from by omega]
  | succ d ih =>
    intro w fuel hf hv
    obtain ⟨fuel, rfl⟩ : ∃ z, fuel = z + 1 := ⟨fuel - 1, by omega⟩
    have hk : w + 1 < c := by omega
    have b := (mxf_ok (X := X) (fun k hk => (hG.2 k hk).1) w (by omega)).1
    unfold ck_most_4_l6
    rw [h.1, jg_pos ⟨rgn (by omega), rgn (by omega)⟩, if_pos (by omega), jg_pos (by omega), Int.toNat_natCast, (h.2 _ hk).1, jg_pos ⟨rg20 b, rg20 (hG.2 _ hk).1⟩, jl_eq]
    exact ih (w + 1) fuel (by omega) (by omega)
theorem ck_most_4_eq {g : gm_T} {c : Nat} {X Y : Nat → Int} (hG : rG c X Y) (h : isC g c X Y) : ck_most_4 g = some (mxf X (c - 1)) := by
  have c8 := hG.1
  unfold ck_most_4
  rw [jl_eq, (h.2 0 (by omega)).1, show ck_most_4_l6 g fz (X 0) 1 = some (mxf X (c - 1)) from ck_most_4_lp hG h (c - 1) 0 fz (Nat.lt_of_le_of_lt (show c - 1 ≤ 8 by omega) (fz_gt rfl)) (by omega)]
  rfl
theorem ck_least_5_lp {g : gm_T} {c : Nat} {X Y : Nat → Int} (hG : rG c X Y) (h : isC g c X Y) : ∀ d w fuel, d < fuel → w + 1 + d = c → ck_least_5_l6 g fuel (mnf Y w) ((w + 1 : Nat) : Int) = some (mnf Y (c - 1)) := by
  have c8 := hG.1.2
  intro d
  induction d with
  | zero =>
    intro w fuel hf hv
    obtain ⟨fuel, rfl⟩ : ∃ z, fuel = z + 1 := ⟨fuel - 1, by omega⟩
    unfold ck_least_5_l6
    rw [h.1, jg_pos ⟨rgn (by omega), rgn (by omega)⟩, if_neg (by omega), show c - 1 = w from by omega]
  | succ d ih =>
    intro w fuel hf hv
    obtain ⟨fuel, rfl⟩ : ∃ z, fuel = z + 1 := ⟨fuel - 1, by omega⟩
    have hk : w + 1 < c := by omega
    have b := (mnf_ok (X := Y) (fun k hk => (hG.2 k hk).2) w (by omega)).1
    unfold ck_least_5_l6
    rw [h.1, jg_pos ⟨rgn (by omega), rgn (by omega)⟩, if_pos (by omega), jg_pos (by omega), Int.toNat_natCast, (h.2 _ hk).2, jg_pos ⟨rg20 b, rg20 (hG.2 _ hk).2⟩, jl_eq]
    exact ih (w + 1) fuel (by omega) (by omega)
theorem ck_least_5_eq {g : gm_T} {c : Nat} {X Y : Nat → Int} (hG : rG c X Y) (h : isC g c X Y) : ck_least_5 g = some (mnf Y (c - 1)) := by
  have c8 := hG.1
  unfold ck_least_5
  rw [jl_eq, (h.2 0 (by omega)).2, show ck_least_5_l6 g fz (Y 0) 1 = some (mnf Y (c - 1)) from ck_least_5_lp hG h (c - 1) 0 fz (Nat.lt_of_le_of_lt (show c - 1 ≤ 8 by omega) (fz_gt rfl)) (by omega)]
  rfl
theorem ck_most_5_lp {g : gm_T} {c : Nat} {X Y : Nat → Int} (hG : rG c X Y) (h : isC g c X Y) : ∀ d w fuel, d < fuel → w + 1 + d = c → ck_most_5_l6 g fuel (mxf Y w) ((w + 1 : Nat) : Int) = some (mxf Y (c - 1)) := by
  have c8 := hG.1.2
  intro d
  induction d with
  | zero =>
    intro w fuel hf hv
    obtain ⟨fuel, rfl⟩ : ∃ z, fuel = z + 1 := ⟨fuel - 1, by omega⟩
    unfold ck_most_5_l6
    rw [h.1, jg_pos ⟨rgn (by omega), rgn (by omega)⟩, if_neg (by omega), show c - 1 = w from by omega]
  | succ d ih =>
    intro w fuel hf hv
    obtain ⟨fuel, rfl⟩ : ∃ z, fuel = z + 1 := ⟨fuel - 1, by omega⟩
    have hk : w + 1 < c := by omega
    have b := (mxf_ok (X := Y) (fun k hk => (hG.2 k hk).2) w (by omega)).1
    unfold ck_most_5_l6
    rw [h.1, jg_pos ⟨rgn (by omega), rgn (by omega)⟩, if_pos (by omega), jg_pos (by omega), Int.toNat_natCast, (h.2 _ hk).2, jg_pos ⟨rg20 b, rg20 (hG.2 _ hk).2⟩, jl_eq]
    exact ih (w + 1) fuel (by omega) (by omega)
theorem ck_most_5_eq {g : gm_T} {c : Nat} {X Y : Nat → Int} (hG : rG c X Y) (h : isC g c X Y) : ck_most_5 g = some (mxf Y (c - 1)) := by
  have c8 := hG.1
  unfold ck_most_5
  rw [jl_eq, (h.2 0 (by omega)).2, show ck_most_5_l6 g fz (Y 0) 1 = some (mxf Y (c - 1)) from ck_most_5_lp hG h (c - 1) 0 fz (Nat.lt_of_le_of_lt (show c - 1 ≤ 8 by omega) (fz_gt rfl)) (by omega)]
  rfl
/-- the cells marked when the class is at (x, y) -/
def Mb (c : Nat) (X Y : Nat → Int) (lx ly my x y a b : Int) : Bool := winr c X Y a b && decide ((lx ≤ a ∧ ly ≤ b ∧ b < my) ∧ (a < x ∨ (a = x ∧ b < y)))
def cntM (M : Int → Int → Bool) : Nat := s2 (fun a b => if M a b = true then 1 else 0)
theorem isC_J {WJ : Nat → Nat → Bool} {g g2 : gm_T} {c : Nat} {X Y : Nat → Int} (x : exc nob WJ g g2) (h : isC g c X Y) : isC g2 c X Y := ⟨by rw [x.1 3 3 rfl]; exact h.1, fun k hk => by rw [x.1 4 k rfl, x.1 5 k rfl]; exact h.2 k hk⟩
theorem cb_made_in {n c : Nat} {X Y : Nat → Int} {lx ly mx my x : Int} (hG : rG c X Y) (hx : (lx ≤ x ∧ x < mx) ∧ -20 ≤ lx ∧ mx ≤ 20) (hy : -20 ≤ ly ∧ my ≤ 20) : ∀ (d : Nat) (y : Int) (fuel : Nat) (g : gm_T), d < fuel → y + (d : Int) = my → ly ≤ y → isC g c X Y → (∀ t v, t < 4 → v < 40 → rw1 g n t v (Mb c X Y lx ly my x y)) → ∃ g2, cb_made_l187 n mx my x fuel ((cntM (Mb c X Y lx ly my x y) : Nat) : Int) y g = some (((cntM (Mb c X Y lx ly my x my) : Nat) : Int), g2) ∧ exc nob (W_rws n) g g2 ∧ ∀ t v, t < 4 → v < 40 → rw1 g2 n t v (Mb c X Y lx ly my x my) := by
  intro d
  induction d with
  | zero =>
    intro y fuel g hf hd hl hC hR
    obtain ⟨fuel, rfl⟩ : ∃ z, fuel = z + 1 := ⟨fuel - 1, by omega⟩
    have e : y = my := by omega
    subst e
    unfold cb_made_l187
    rw [jg_pos ⟨⟨by omega, by omega⟩, by omega, by omega⟩, if_neg (by omega)]
    exact ⟨g, rfl, exc_rf, hR⟩
  | succ d ih =>
    intro y fuel g hf hd hl hC hR
    obtain ⟨fuel, rfl⟩ : ∃ z, fuel = z + 1 := ⟨fuel - 1, by omega⟩
    unfold cb_made_l187
    rw [jg_pos ⟨⟨by omega, by omega⟩, by omega, by omega⟩, if_pos (by omega), ck_holdsCell_eq hG hC (by omega) (by omega), jb_tst]
    by_cases w : winr c X Y x y = true
    · have eM : mk1 (Mb c X Y lx ly my x y) x y = Mb c X Y lx ly my x (y + 1) := by
        funext a b
        unfold mk1 Mb
        by_cases q : a = x ∧ b = y
        · rw [q.1, q.2, w, show decide (x = x ∧ y = y) = true from decide_eq_true ⟨rfl, rfl⟩, Bool.or_true, Bool.true_and]
          exact (decide_eq_true (by omega)).symm
        · rw [show decide (a = x ∧ b = y) = false from decide_eq_false q, Bool.or_false]
          congr 1
          rw [decide_eq_decide]
          omega
      have hno : Mb c X Y lx ly my x y x y = false := by
        unfold Mb
        rw [show decide ((lx ≤ x ∧ ly ≤ y ∧ y < my) ∧ (x < x ∨ (x = x ∧ y < y))) = false from decide_eq_false (by omega), Bool.and_false]
      obtain ⟨g42, e42, x42, R42⟩ := cb_markCell_eq (n := n) (x := x) (y := y) (by omega) (by omega) hR
      rw [if_pos w, e42, jb1_some]
      rw [eM] at R42
      have ec : ((cntM (Mb c X Y lx ly my x y) : Nat) : Int) + 1 = ((cntM (Mb c X Y lx ly my x (y + 1)) : Nat) : Int) := by
        rw [← eM]
        unfold cntM
        rw [s2_mk1 (by omega) (by omega) hno]
        rfl
      rw [ec]
      obtain ⟨g2, e2, x2, R2⟩ := ih (y + 1) fuel g42 (by omega) (by omega) (by omega) (isC_J x42 hC) R42
      exact ⟨g2, e2, exc_tr x42 x2, R2⟩
    · have eM : Mb c X Y lx ly my x y = Mb c X Y lx ly my x (y + 1) := by
        funext a b
        unfold Mb
        by_cases q : a = x ∧ b = y
        · rw [q.1, q.2, Bool.eq_false_iff.mpr w, Bool.false_and, Bool.false_and]
        · congr 1
          rw [decide_eq_decide]
          omega
      rw [if_neg w, eM]
      rw [eM] at hR
      exact ih (y + 1) fuel g (by omega) (by omega) (by omega) hC hR
theorem cb_made_out {n c : Nat} {X Y : Nat → Int} (hG : rG c X Y) : ∀ (d : Nat) (x : Int) (fuel : Nat) (g : gm_T), d < fuel → x + (d : Int) = mxf X (c - 1) → mnf X (c - 1) ≤ x → isC g c X Y → (∀ t v, t < 4 → v < 40 → rw1 g n t v (Mb c X Y (mnf X (c - 1)) (mnf Y (c - 1)) (mxf Y (c - 1)) x (mnf Y (c - 1)))) → ∃ g2, cb_made_l170 n (mxf X (c - 1)) (mxf Y (c - 1)) fuel ((cntM (Mb c X Y (mnf X (c - 1)) (mnf Y (c - 1)) (mxf Y (c - 1)) x (mnf Y (c - 1))) : Nat) : Int) x g = some (((cntM (winr c X Y) : Nat) : Int), g2) ∧ exc nob (W_rws n) g g2 ∧ ∀ t v, t < 4 → v < 40 → rw1 g2 n t v (winr c X Y) := by
  have c8 := hG.1
  have ax := mnf_ok (X := X) (fun k hk => (hG.2 k hk).1) (c - 1) (by omega)
  have ay := mnf_ok (X := Y) (fun k hk => (hG.2 k hk).2) (c - 1) (by omega)
  have bx := mxf_ok (X := X) (fun k hk => (hG.2 k hk).1) (c - 1) (by omega)
  have by' := mxf_ok (X := Y) (fun k hk => (hG.2 k hk).2) (c - 1) (by omega)
  have ly : mnf Y (c - 1) ≤ mxf Y (c - 1) := Int.le_trans (ay.2 0 (by omega)) (by'.2 0 (by omega))
  intro d
  induction d with
  | zero =>
    intro x fuel g hf hd hl hC hR
    obtain ⟨fuel, rfl⟩ : ∃ z, fuel = z + 1 := ⟨fuel - 1, by omega⟩
    have e : x = mxf X (c - 1) := by omega
    subst e
    have eM : Mb c X Y (mnf X (c - 1)) (mnf Y (c - 1)) (mxf Y (c - 1)) (mxf X (c - 1)) (mnf Y (c - 1)) = winr c X Y := by
      funext a b
      unfold Mb
      by_cases q : (mnf X (c - 1) ≤ a ∧ mnf Y (c - 1) ≤ b ∧ b < mxf Y (c - 1)) ∧ (a < mxf X (c - 1) ∨ (a = mxf X (c - 1) ∧ b < mnf Y (c - 1)))
      · rw [show decide _ = true from decide_eq_true q, Bool.and_true]
      · rw [show decide _ = false from decide_eq_false q, Bool.and_false]
        refine (winr_out (by omega) ?_).symm
        rcases Int.lt_or_le a (mnf X (c - 1)) with z | z
        · exact Or.inr (Or.inr (Or.inr (fun k hk => by have := ax.2 k (by omega); omega)))
        rcases Int.lt_or_le b (mnf Y (c - 1)) with z1 | z1
        · exact Or.inl (fun k hk => by have := ay.2 k (by omega); omega)
        rcases Int.lt_or_le b (mxf Y (c - 1)) with z2 | z2
        · exact Or.inr (Or.inr (Or.inl (fun k hk => by have := bx.2 k (by omega); omega)))
        · exact Or.inr (Or.inl (fun k hk => by have := by'.2 k (by omega); omega))
    unfold cb_made_l170
    rw [jg_pos ⟨⟨by omega, by omega⟩, by omega, by omega⟩, if_neg (by omega), eM]
    rw [eM] at hR
    exact ⟨g, rfl, exc_rf, hR⟩
  | succ d ih =>
    intro x fuel g hf hd hl hC hR
    obtain ⟨fuel, rfl⟩ : ∃ z, fuel = z + 1 := ⟨fuel - 1, by omega⟩
    obtain ⟨g49, e49, x49, R49⟩ := cb_made_in (n := n) (x := x) (mx := mxf X (c - 1)) hG (by omega) (by omega) (mxf Y (c - 1) - mnf Y (c - 1)).toNat (mnf Y (c - 1)) fz g (Nat.lt_of_le_of_lt (show _ ≤ 40 by omega) (fz_gt rfl)) (by omega) (Int.le_refl _) hC hR
    have eM : Mb c X Y (mnf X (c - 1)) (mnf Y (c - 1)) (mxf Y (c - 1)) x (mxf Y (c - 1)) = Mb c X Y (mnf X (c - 1)) (mnf Y (c - 1)) (mxf Y (c - 1)) (x + 1) (mnf Y (c - 1)) := by
      funext a b
      unfold Mb
      congr 1
      rw [decide_eq_decide]
      omega
    rw [eM] at e49 R49
    unfold cb_made_l170
    rw [jg_pos ⟨⟨by omega, by omega⟩, by omega, by omega⟩, if_pos (by omega), ck_least_5_eq hG hC, jb1_some, e49, jb2_some]
    obtain ⟨g2, e2, x2, R2⟩ := ih (x + 1) fuel g49 (by omega) (by omega) (by omega) (isC_J x49 hC) R49
    exact ⟨g2, e2, exc_tr x49 x2, R2⟩
