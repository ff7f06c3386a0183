/-! The table with the new bit; the cells of the new bit. -/
theorem V_tab_new {n : Nat} {g0 : gm_T} (h30 : n + 1 ≤ 30) (V : V_bit (n + 1) g0) (C : V_cell (n + 1) g0) (W : V_way (n + 1) g0) (h3 : gm_I g0 44 3 = ((n + 1 : Nat) : Int)) (T : ∀ a b k l : Nat, a < n → b < n → a ≠ b → (k : Int) < mE g0 a → (l : Int) < mE g0 b → tbE g0 g0 a k b l) : ∃ g', md_bit_l167 fz 0 g0 = some g' ∧ exc W_tb nob g0 g' ∧ V_tab (n + 1) g' := by
  have e8 : ∀ b k : Nat, b < n + 1 → (k : Int) < mE g0 b → k < 8 := fun b k hb hk => by have := (V b hb).1.2.2; unfold mE at hk; omega
  obtain ⟨g', e, f, t⟩ := md_bit_cmp h30 V C W h3 n 0 fz g0 (Nat.lt_of_le_of_lt (show n ≤ 30 by omega) (fz_gt rfl)) (Nat.zero_add n) exc_rf
  refine ⟨g', e, f.1, fun a b k l ha hb hab hk hl => ?_⟩
  have hk' : (k : Int) < mE g0 a := by unfold mE at *; rw [f.1.1 46 _ rfl] at hk; exact hk
  have hl' : (l : Int) < mE g0 b := by unfold mE at *; rw [f.1.1 46 _ rfl] at hl; exact hl
  have k8 := e8 a k ha hk'
  have l8 := e8 b l hb hl'
  have w : tbE g0 g' a k b l := by
    by_cases ea : a = n
    · subst ea
      exact (t b k l (Nat.zero_le _) (by omega)).2 hk' hl'
    · by_cases eb : b = n
      · subst eb
        exact (t a k l (Nat.zero_le _) (by omega)).1 hk' hl'
      · exact tbE_f f (fun ⟨i, k', l', q1, q2, q3, q4⟩ => by unfold at4 at q4; omega) (T a b k l (by omega) (by omega) hab hk' hl')
  obtain ⟨w1, w2⟩ := w
  rw [tn_tb f.1, (fX_tb f.1 a k b l).1, (fX_tb f.1 a k b l).2, ov_tb f.1]
  exact ⟨w1, w2⟩
/-- the cells of one bit, both sides -/
def cellsB (g : gm_T) (b : Nat) : Prop := (∀ k, k < 1600 → gm_I g 61 (1600 * b + k) = 0 ∨ gm_I g 61 (1600 * b + k) = 1) ∧ (∀ i : Nat, (i : Int) < gm_I g 57 b → (-20 ≤ gm_I g 59 (1600 * b + i) ∧ gm_I g 59 (1600 * b + i) ≤ 19) ∧ -20 ≤ gm_I g 60 (1600 * b + i) ∧ gm_I g 60 (1600 * b + i) ≤ 19) ∧ (∀ f : Int → Int → Nat, sm (fun i => f (gm_I g 59 (1600 * b + i)) (gm_I g 60 (1600 * b + i))) (gm_I g 57 b).toNat = s2 (fun x y => if Kc g b x y = true then f x y else 0)) ∧ ∀ t v : Nat, t < 4 → v < 40 → ∃ r : Nat, gm_J g (bA b + 1) (40 * t + v) = lN r ∧ r < 2 ^ 40 ∧ ∀ u, u < 40 → r.testBit u = Kt g b (t : Int) (gq u) (gq v)
theorem V_cell_of {n : Nat} {g : gm_T} : V_cell n g ↔ ∀ b, b < n → cellsB g b := Iff.rfl
theorem cellsB_new {n c : Nat} {X Y : Nat → Int} {g1 g : gm_T} (hG : rG c X Y) (I : lyI n c X Y g1 g 40 0) (R : ∀ t v, t < 4 → v < 40 → rw1 g n t v (winr c X Y)) : cellsB g n ∧ gm_I g 57 n = ((cntM (winr c X Y) : Nat) : Int) := by
  have c0 : 0 < c := by have := hG.1.1; omega
  obtain ⟨x2, i61, N, h57, hN, hr, hs⟩ := I
  have grid : ∀ v u, v < 40 → u < 40 → gm_I g 61 (1600 * n + (40 * v + u)) = if winr c X Y (gq u) (gq v) = true then 1 else 0 := fun v u hv hu => i61 v u hu (Or.inl hv)
  have hK : ∀ x y, Kc g n x y = winr c X Y x y := fun x y => by
    unfold Kc
    by_cases q : (-20 ≤ x ∧ x ≤ 19) ∧ -20 ≤ y ∧ y ≤ 19
    · have ex : gq (x + 20).toNat = x := by unfold gq; omega
      have ey : gq (y + 20).toNat = y := by unfold gq; omega
      have hd := grid (y + 20).toNat (x + 20).toNat (by omega) (by omega)
      rw [ex, ey, ← Nat.add_assoc] at hd
      rw [show decide ((-20 ≤ x ∧ x ≤ 19) ∧ -20 ≤ y ∧ y ≤ 19) = true from decide_eq_true q, Bool.true_and, hd]
      cases winr c X Y x y <;> rfl
    · rw [show decide ((-20 ≤ x ∧ x ≤ 19) ∧ -20 ≤ y ∧ y ≤ 19) = false from decide_eq_false q, Bool.false_and]
      refine (winr_out c0 ?_).symm
      by_cases q1 : x < -20
      · exact Or.inr (Or.inr (Or.inr (fun k hk => by have := hG.2 k hk; omega)))
      by_cases q2 : 19 < x
      · exact Or.inr (Or.inr (Or.inl (fun k hk => by have := hG.2 k hk; omega)))
      by_cases q3 : y < -20
      · exact Or.inl (fun k hk => by have := hG.2 k hk; omega)
      · exact Or.inr (Or.inl (fun k hk => by have := hG.2 k hk; omega))
  have hKf : Kc g n = winr c X Y := funext fun x => funext fun y => hK x y
  have hs' : ∀ f : Int → Int → Nat, sm (fun i => f (gm_I g 59 (1600 * n + i)) (gm_I g 60 (1600 * n + i))) N = s2 (fun x y => if winr c X Y x y = true then f x y else 0) := fun f => by
    rw [hs f]
    exact Nat.add_zero _
  have hN2 : N = cntM (winr c X Y) := by
    have w := hs' (fun _ _ => 1)
    have e1 : sm (fun _ => 1) N = N := by
      clear w hs' hKf hK grid hs hr hN h57 i61
      induction N with
      | zero => rfl
      | succ N ih => rw [sm_succ, ih]
    rw [e1] at w
    exact w
  refine ⟨⟨fun k hk => ?_, fun i hi => hr i (by omega), fun f => ?_, fun t v ht hv => ?_⟩, by rw [h57, hN2]⟩
  · have := grid (k / 40) (k % 40) (by omega) (by omega)
    rw [show 40 * (k / 40) + k % 40 = k by omega] at this
    rw [this]
    cases winr c X Y (gq (k % 40)) (gq (k / 40))
    · exact Or.inl rfl
    · exact Or.inr rfl
  · rw [h57, Int.toNat_natCast, hs' f, hKf]
  · obtain ⟨r, r1, r2, r3⟩ := R t v ht hv
    refine ⟨r, r1, r2, fun u hu => ?_⟩
    rw [r3 u hu]
    unfold Kt
    rw [hKf]
