/-! The class's call of bit: the new bit is made. -/
def W_mk (n a j : Nat) : Bool := W_nb n a j || (a == 10 && j == 1) || (a == 19 && j == n)
theorem mkB_eq {n L : Nat} {g7 : gm_T} {t : Nat → Int} (hE : endT t L) (hn : gm_I g7 10 1 = (n : Int)) (h30 : n < 30) (hR : rdB g7 t) (a b c : Int) : ∃ g1, mkB n g7 a b c = some ((n : Int), g1) ∧ exc (W_mk n) (W_nb n) g7 g1 ∧ nbI g7 g1 n a b c ∧ gm_I g1 (bA n) 11 = rar (bcor t).length (ptx (bcor t)) (pty (bcor t)) (bcor t).length ∧ gm_I g1 (bA n) 12 = ((cntM (winr (bcor t).length (ptx (bcor t)) (pty (bcor t))) : Nat) : Int) ∧ (∀ t' v, t' < 4 → v < 40 → rw1 g1 n t' v (winr (bcor t).length (ptx (bcor t)) (pty (bcor t)))) ∧ gm_I g1 10 1 = ((n + 1 : Nat) : Int) ∧ gm_I g1 19 n = ((2 ^ n : Nat) : Int) := by
  have B := bA_ge n
  obtain ⟨p5, P1, P2, P3, P4⟩ := hR
  have k1 := bcor_ok hE
  have hG := rG_of k1.1 p5 k1.2
  have hC := isC_of P1 P3
  have f14 : ∀ x j, x < bA n → gm_I (bw_g g7 (bA n) (fun _ => 0)) x j = gm_I g7 x j := fun x j hx => gI_bn (by omega)
  have hC14 : isC (bw_g g7 (bA n) (fun _ => 0)) (bcor t).length (ptx (bcor t)) (pty (bcor t)) := ⟨by rw [f14 _ _ (by omega)]; exact hC.1, fun k hk => by rw [f14 _ _ (by omega), f14 _ _ (by omega)]; exact hC.2 k hk⟩
  obtain ⟨g15, e15, x15, n15, a11, a12, R15⟩ := cb_init_eq (n := n) hG hC14 a b c
  have c15 : gm_I g15 10 1 = (n : Int) := by rw [x15.1 10 1 (decide_eq_false (by omega)), f14 _ _ (by omega)]; exact hn
  unfold mkB cf_addBit cj_addBit
  rw [jl_eq, jl_eq, e15, jb1_some, c15, jg_pos ⟨rfl, h30⟩, jl_eq, jb1_some, hn, jg_pos ⟨by omega, by omega⟩, jl_eq, jb1_some, Int.toNat_natCast, zSl_1 (by omega), jg_pos (by rw [gI_oth (by decide), gI_eq]; rfl)]
  have o : ∀ x j, ¬ x = 10 → ¬ x = 19 → gm_I (gm_wI (gm_wI g15 10 1 ((n : Int) + 1)) 19 n ((2 ^ n : Nat) : Int)) x j = gm_I g15 x j := fun x j h1 h2 => by rw [gI_oth h2, gI_oth h1]
  have m0 : ∀ x j, W_nb n x j = true → W_mk n x j = true := fun x j q => by unfold W_mk; rw [q]; rfl
  refine ⟨_, rfl, exc_wI (exc_wI (exc_tr (exc_bw exc_rf (fun j => m0 _ j (decide_eq_true (Nat.le_refl _))) (fun j => decide_eq_true (Nat.le_refl _))) (exc_mono x15 m0 (fun x j q => q))) ?_) ?_, ?_, ?_, ?_, ?_, ?_, gI_eq⟩
  · unfold W_mk; simp
  · unfold W_mk; simp
  · obtain ⟨⟨q1, q2, q3, q4, q5⟩, q6, q7⟩ := n15
    rw [f14 _ _ (by omega)] at q4 q5
    refine ⟨⟨?_, ?_, ?_, ?_, ?_⟩, fun j => ?_, fun j => ?_⟩
    · rw [o _ _ (by omega) (by omega)]; exact q1
    · rw [o _ _ (by omega) (by omega)]; exact q2
    · rw [o _ _ (by omega) (by omega)]; exact q3
    · rw [o _ _ (by omega) (by omega)]; exact q4
    · rw [o _ _ (by omega) (by omega)]; exact q5
    · have w := q6 j
      rw [f14 _ _ (by omega), f14 _ _ (by omega), f14 _ _ (by omega)] at w
      rw [o _ _ (by omega) (by omega), o _ _ (by omega) (by omega), o _ _ (by omega) (by omega)]
      exact w
    · have w := q7 j
      rw [f14 _ _ (by omega), f14 _ _ (by omega), f14 _ _ (by omega)] at w
      rw [o _ _ (by omega) (by omega), o _ _ (by omega) (by omega), o _ _ (by omega) (by omega)]
      exact w
  · rw [o _ _ (by omega) (by omega)]; exact a11
  · rw [o _ _ (by omega) (by omega)]; exact a12
  · exact R15
  · rw [gI_oth (by decide), gI_eq]; rfl
