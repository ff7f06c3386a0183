/-! The photograph: best, one turn of the class's search. -/
theorem mkXY_bs {g g2 : gm_T} (x : exc W_bs J_bs g g2) (b : Nat) (t : Int) : mkX g2 b t = mkX g b t ∧ mkY g2 b t = mkY g b t := by
  constructor
  · funext k
    unfold mkX
    rw [x.1 51 (5 * b + k) rfl, x.1 52 (5 * b + k) rfl]
  · funext k
    unfold mkY
    rw [x.1 51 (5 * b + k) rfl, x.1 52 (5 * b + k) rfl]
theorem cp_turn {n : Nat} {g0 : gm_T} (VB : ∀ g, exc W_bs J_bs g0 g → V_bit n g) {W H D : Nat} {M : Nat → Nat} (h0 : isPh g0 W H D M) {b m : Nat} (hb : b < n) (hm : gm_I g0 50 b = (m : Int)) (m5 : 1 ≤ m ∧ m ≤ 5) {t : Int} (ht : 0 ≤ t ∧ t ≤ 3) {g : gm_T} {s : bst} (hx : exc W_bs J_bs g0 g) (hS : isS g s) (hs : -1 ≤ s.1 ∧ s.1 ≤ 1000) : ∃ lo loy hi hiy : Int, lea (mkX g0 b t) m lo ∧ lea (mkY g0 b t) m loy ∧ gre (mkX g0 b t) m hi ∧ gre (mkY g0 b t) m hiy ∧ ∃ g2, cp_searchTurned g b t = some g2 ∧ exc W_bs J_bs g0 g2 ∧ isS g2 (fx (frow g0 W H D b m t lo hi) ((H : Int) - hiy + loy).toNat (gm_I g0 44 62 - loy) s) := by
  obtain ⟨w, hh, -, ⟨e1, -⟩, ⟨e2, -⟩, ⟨e3, x1, x2⟩, ⟨e4, y1, y2⟩, -⟩ := id h0
  have VBg := VB g hx
  have hmg : gm_I g 50 b = (m : Int) := by rw [hx.1 50 b rfl]; exact hm
  obtain ⟨-, -, -, mk, -⟩ := VBg b hb
  obtain ⟨⟨q1, q2⟩, ⟨q3, q4⟩, -⟩ := mk 0 (by omega)
  have one : ∀ f : Nat → Int, lea f 1 (f 0) ∧ gre f 1 (f 0) := fun f => ⟨⟨fun j hj => by
    rw [show j = 0 by omega]
    exact Int.le_refl _, 0, by omega, rfl⟩, ⟨fun j hj => by
    rw [show j = 0 by omega]
    exact Int.le_refl _, 0, by omega, rfl⟩⟩
  obtain ⟨lo, loy, hi, hiy, r1, r2, r3, r4, r5⟩ := box_lp VBg hb hmg ht (m - 1) 1 fz (mkX g b t 0) (mkY g b t 0) (mkX g b t 0) (mkY g b t 0) (by omega) (Nat.lt_of_le_of_lt (show m - 1 ≤ 300 by omega) (fz_gt rfl)) (one _).1 (one _).1 (one _).2 (one _).2
  have bd : ∀ j, j < m → (-20 ≤ mkX g b t j ∧ mkX g b t j ≤ 19) ∧ -20 ≤ mkY g b t j ∧ mkY g b t j ≤ 19 := fun j hj => by
    obtain ⟨⟨-, z1, z2⟩, ⟨-, z3, z4⟩, -⟩ := mk j (by omega)
    exact c_20 ⟨z1, z2⟩ ⟨z3, z4⟩
  obtain ⟨j1, u1, v1⟩ := r2.2
  obtain ⟨j2, u2, v2⟩ := r3.2
  obtain ⟨j3, u3, v3⟩ := r4.2
  obtain ⟨j4, u4, v4⟩ := r5.2
  have w1 := bd j1 u1
  have w2 := bd j2 u2
  have w3 := bd j3 u3
  have w4 := bd j4 u4
  have hrows : ∃ g2, cp_searchTurned_l143 b t lo hi hiy fz (gm_I g0 44 62 - loy) g = some g2 ∧ exc W_bs J_bs g0 g2 ∧ isS g2 (fx (frow g0 W H D b m t lo hi) ((H : Int) - hiy + loy).toNat (gm_I g0 44 62 - loy) s) := by
    by_cases c : 0 ≤ (H : Int) - hiy + loy
    · have hd : ((((H : Int) - hiy + loy).toNat : Nat) : Int) = (H : Int) - hiy + loy := Int.toNat_of_nonneg c
      exact cp_rows VB h0 hb hm m5.2 ht (lo := lo) (hi := hi) (hiy := hiy) (by omega) (by omega) (by omega) ((H : Int) - hiy + loy).toNat fz (gm_I g0 44 62 - loy) g s (by omega) (Nat.lt_of_le_of_lt (show ((H : Int) - hiy + loy).toNat ≤ 300 by omega) (fz_gt rfl)) (by omega) hx hS hs
    · have hd : ((H : Int) - hiy + loy).toNat = 0 := by omega
      rw [hd, show fz = 99999 + 1 from rfl]
      unfold cp_searchTurned_l143
      rw [hx.1 25 4 rfl, hx.1 25 2 rfl, e4, e2, jg_pos ⟨⟨by omega, by omega⟩, by omega, by omega⟩, if_neg (by omega)]
      exact ⟨g, rfl, hx, hS⟩
  obtain ⟨g2, k1, k2, k3⟩ := hrows
  have hXY := mkXY_bs hx b t
  rw [hXY.1] at r2 r4
  rw [hXY.2] at r3 r5
  refine ⟨lo, loy, hi, hiy, r2, r3, r4, r5, g2, ?_, k2, k3⟩
  unfold cp_searchTurned
  rw [q1, q3, cc_cellX_eq ht, jb1_some, cc_cellY_eq ht, jb1_some, show cX t (gm_I g 51 (5 * b + 0)) (gm_I g 52 (5 * b + 0)) = mkX g b t 0 from rfl, show cY t (gm_I g 51 (5 * b + 0)) (gm_I g 52 (5 * b + 0)) = mkY g b t 0 from rfl, show cp_searchTurned_l45 g b t fz (mkX g b t 0) (mkY g b t 0) (mkX g b t 0) (mkY g b t 0) 1 = _ from r1, jb4_some, jl_eq, hx.1 25 4 rfl, e4, k1, jb1_some]
