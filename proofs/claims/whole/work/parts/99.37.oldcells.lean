/-! Old bits' cells are kept. -/
theorem cellsB_keep {b : Nat} {g h : gm_T} (C : cellsB g b) (N : gm_I g 57 b ≤ 1600) (e57 : gm_I h 57 b = gm_I g 57 b) (e : ∀ j, j < 1600 → gm_I h 59 (1600 * b + j) = gm_I g 59 (1600 * b + j) ∧ gm_I h 60 (1600 * b + j) = gm_I g 60 (1600 * b + j) ∧ gm_I h 61 (1600 * b + j) = gm_I g 61 (1600 * b + j)) (eJ : ∀ j, gm_J h (bA b + 1) j = gm_J g (bA b + 1) j) : cellsB h b := by
  obtain ⟨c1, c2, c3, c4⟩ := C
  have hK : Kc h b = Kc g b := by
    funext x y
    unfold Kc
    by_cases q : (-20 ≤ x ∧ x ≤ 19) ∧ -20 ≤ y ∧ y ≤ 19
    · rw [Nat.add_assoc, (e (40 * (y + 20).toNat + (x + 20).toNat) (by omega)).2.2]
    · rw [show decide ((-20 ≤ x ∧ x ≤ 19) ∧ -20 ≤ y ∧ y ≤ 19) = false from decide_eq_false q, Bool.false_and, Bool.false_and]
  refine ⟨fun k hk => by rw [(e k hk).2.2]; exact c1 k hk, fun i hi => ?_, fun f => ?_, fun t v ht hv => ?_⟩
  · rw [e57] at hi
    have w := e i (by omega)
    rw [w.1, w.2.1]
    exact c2 i hi
  · rw [e57, hK, ← c3 f]
    exact sm_cong (fun i hi => by
      have w := e i (by omega)
      rw [w.1, w.2.1])
  · obtain ⟨r, r1, r2, r3⟩ := c4 t v ht hv
    refine ⟨r, by rw [eJ]; exact r1, r2, fun u hu => ?_⟩
    rw [r3 u hu]
    unfold Kt
    rw [hK]
