/-! Old bits are kept. -/
theorem V_bit_keep {n : Nat} {g h : gm_T} (V : V_bit n g) (eb : ∀ b c j, b < n → c < 8 → gm_I h (bA b + c) j = gm_I g (bA b + c) j) (e1 : ∀ b, b < n → gm_I h 46 b = gm_I g 46 b ∧ gm_I h 50 b = gm_I g 50 b ∧ gm_I h 54 b = gm_I g 54 b ∧ gm_I h 55 b = gm_I g 55 b ∧ gm_I h 56 b = gm_I g 56 b ∧ gm_I h 57 b = gm_I g 57 b ∧ gm_I h 58 b = gm_I g 58 b) (e8 : ∀ j, j < 8 * n → gm_I h 47 j = gm_I g 47 j ∧ gm_I h 48 j = gm_I g 48 j ∧ gm_I h 49 j = gm_I g 49 j) (e5 : ∀ j, j < 5 * n → gm_I h 51 j = gm_I g 51 j ∧ gm_I h 52 j = gm_I g 52 j ∧ gm_I h 53 j = gm_I g 53 j) : V_bit n h := by
  intro b hb
  obtain ⟨⟨a1, a2, a3⟩, p, ⟨b1, b2, b3⟩, q, c0, c1, c2, c3, c4⟩ := V b hb
  obtain ⟨d1, d2, d3, d4, d5, d6, d7⟩ := e1 b hb
  have B : ∀ j, gm_I h (bA b) j = gm_I g (bA b) j := fun j => eb b 0 j hb (by decide)
  refine ⟨⟨by rw [B, d1]; exact a1, by rw [d1]; exact a2, by rw [d1]; exact a3⟩, fun k hk => ?_, ⟨by rw [B, d2]; exact b1, by rw [d2]; exact b2, by rw [d2]; exact b3⟩, fun k hk => ?_, by rw [B, d3]; exact c0, by rw [B, d4]; exact c1, by rw [B, d5]; exact c2, by rw [B, d6]; exact c3, by rw [B, d7]; exact c4⟩
  · rw [d1] at hk
    have w := e8 (8 * b + k) (by omega)
    rw [eb b 2 k hb (by decide), eb b 3 k hb (by decide), eb b 4 k hb (by decide), w.1, w.2.1, w.2.2]
    exact p k hk
  · rw [d2] at hk
    have w := e5 (5 * b + k) (by omega)
    rw [eb b 5 k hb (by decide), eb b 6 k hb (by decide), eb b 7 k hb (by decide), w.1, w.2.1, w.2.2]
    exact q k hk
