/-! The photograph: best, the class's rows. -/
noncomputable def frow (g : gm_T) (W H D b m : Nat) (t lo hi : Int) (y : Int) (s : bst) : bst := fx (fcol g W H D b m t y) ((W : Int) - hi + lo).toNat (gm_I g 44 61 - lo) s
theorem frow_b {g : gm_T} {W H D b m : Nat} (hm : m ≤ 5) {t lo hi : Int} (y : Int) (s : bst) (h : -1 ≤ s.1 ∧ s.1 ≤ 1000) : -1 ≤ (frow g W H D b m t lo hi y s).1 ∧ (frow g W H D b m t lo hi y s).1 ≤ 1000 := fx_b (fcol_b hm) _ _ s h
theorem cp_row1 {n : Nat} {g0 : gm_T} (VB : ∀ g, exc W_bs J_bs g0 g → V_bit n g) {W H D : Nat} {M : Nat → Nat} (h0 : isPh g0 W H D M) {b m : Nat} (hb : b < n) (hm : gm_I g0 50 b = (m : Int)) (m5 : m ≤ 5) {t y lo hi c3 : Int} (ht : 0 ≤ t ∧ t ≤ 3) (hy : -1000 ≤ y ∧ y ≤ 1000) (hhi : -20 ≤ hi ∧ hi ≤ 20) (hlo : -20 ≤ lo ∧ lo ≤ 20) {g : gm_T} {s : bst} (hx : exc W_bs J_bs g0 g) (hS : isS g s) (hs : -1 ≤ s.1 ∧ s.1 ≤ 1000) : ∃ g2, cp_searchTurned_l168 b t lo hi c3 y fz (gm_I g0 44 61 - lo) g = some g2 ∧ exc W_bs J_bs g0 g2 ∧ isS g2 (frow g0 W H D b m t lo hi y s) := by
  obtain ⟨w, hh, -, ⟨e1, -⟩, -, ⟨e3, x1, x2⟩, -⟩ := id h0
  by_cases c : 0 ≤ (W : Int) - hi + lo
  · have hd : ((((W : Int) - hi + lo).toNat : Nat) : Int) = (W : Int) - hi + lo := Int.toNat_of_nonneg c
    exact cp_cols VB h0 hb hm m5 ht hy hhi (c1 := lo) (c3 := c3) ((W : Int) - hi + lo).toNat fz (gm_I g0 44 61 - lo) g s (by omega) (Nat.lt_of_le_of_lt (show ((W : Int) - hi + lo).toNat ≤ 300 by omega) (fz_gt rfl)) (by omega) hx hS hs
  · have hd : ((W : Int) - hi + lo).toNat = 0 := by omega
    unfold frow
    rw [hd, show fz = 99999 + 1 from rfl]
    unfold cp_searchTurned_l168
    rw [hx.1 25 3 rfl, hx.1 25 1 rfl, e3, e1, jg_pos ⟨⟨by omega, by omega⟩, by omega, by omega⟩, if_neg (by omega)]
    exact ⟨g, rfl, hx, hS⟩
theorem cp_rows {n : Nat} {g0 : gm_T} (VB : ∀ g, exc W_bs J_bs g0 g → V_bit n g) {W H D : Nat} {M : Nat → Nat} (h0 : isPh g0 W H D M) {b m : Nat} (hb : b < n) (hm : gm_I g0 50 b = (m : Int)) (m5 : m ≤ 5) {t lo hi hiy : Int} (ht : 0 ≤ t ∧ t ≤ 3) (hhi : -20 ≤ hi ∧ hi ≤ 20) (hlo : -20 ≤ lo ∧ lo ≤ 20) (hhy : -20 ≤ hiy ∧ hiy ≤ 20) : ∀ (d fuel : Nat) (v : Int) (g : gm_T) (s : bst), v + (d : Int) = gm_I g0 44 62 + (H : Int) - hiy → d < fuel → -900 ≤ v → exc W_bs J_bs g0 g → isS g s → (-1 ≤ s.1 ∧ s.1 ≤ 1000) → ∃ g2, cp_searchTurned_l143 b t lo hi hiy fuel v g = some g2 ∧ exc W_bs J_bs g0 g2 ∧ isS g2 (fx (frow g0 W H D b m t lo hi) d v s) := by
  obtain ⟨w, hh, -, ⟨e1, -⟩, ⟨e2, -⟩, ⟨e3, x1, x2⟩, ⟨e4, y1, y2⟩, -⟩ := id h0
  intro d
  induction d with
  | zero =>
    intro fuel v g s hd hf hu hx hS hs
    obtain ⟨f, rfl⟩ : ∃ f, fuel = f + 1 := ⟨fuel - 1, by omega⟩
    unfold cp_searchTurned_l143
    rw [hx.1 25 4 rfl, hx.1 25 2 rfl, e4, e2, jg_pos ⟨⟨by omega, by omega⟩, by omega, by omega⟩, if_neg (by omega)]
    exact ⟨g, rfl, hx, hS⟩
  | succ d ih =>
    intro fuel v g s hd hf hu hx hS hs
    obtain ⟨f, rfl⟩ : ∃ f, fuel = f + 1 := ⟨fuel - 1, by omega⟩
    obtain ⟨g1, k1, k2, k3⟩ := cp_row1 VB h0 hb hm m5 (t := t) (y := v) (lo := lo) (hi := hi) (c3 := hiy) ht (by omega) hhi hlo hx hS hs
    obtain ⟨g2, r1, r2, r3⟩ := ih f (v + 1) g1 (frow g0 W H D b m t lo hi v s) (by omega) (by omega) (by omega) k2 k3 (frow_b m5 v s hs)
    unfold cp_searchTurned_l143
    rw [hx.1 25 4 rfl, hx.1 25 2 rfl, e4, e2, jg_pos ⟨⟨by omega, by omega⟩, by omega, by omega⟩, if_pos (by omega), hx.1 25 3 rfl, e3, jl_eq, k1, jb1_some]
    exact ⟨g2, r1, r2, r3⟩
