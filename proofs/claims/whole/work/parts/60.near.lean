/-! The photograph taken: colours near each cell. -/
def W_26 (a k : Nat) : Bool := a == 26
def isN (g : gm_T) (M : Nat → Nat) : Prop := ∀ k, k < 484 → gm_I g 26 k = ((M k : Nat) : Int) ∧ M k < 2 ^ 10
theorem spr_row {c : Nat} (hc : c < 10) {R A B x D : Nat} (hR : R < 22) (hA : A + D = x + 3) (hB : B = x + D + 3) (hB22 : B < 22) {y : Int} : ∀ (d a fuel : Nat) (M : Nat → Nat) (g : gm_T), a + d = B + 1 → d < fuel → isN g M → ∃ g2, cp_spreadColour_l21 (x : Int) y ((2 ^ c : Nat) : Int) (D : Int) ((R : Int) - 3) fuel ((a : Int) - 3) g = some g2 ∧ exc W_26 nob g g2 ∧ isN g2 (fun k => if k / 22 = R ∧ a ≤ k % 22 ∧ k % 22 ≤ B then M k ||| 2 ^ c else M k) := by
  intro d
  induction d with
  | zero =>
    intro a fuel M g hd hf hM
    obtain ⟨f, rfl⟩ : ∃ f, fuel = f + 1 := ⟨fuel - 1, by omega⟩
    unfold cp_spreadColour_l21
    rw [jg_pos ⟨⟨by omega, by omega⟩, by omega, by omega⟩, if_neg (by omega)]
    refine ⟨g, rfl, exc_rf, fun k hk => ?_⟩
    dsimp only
    rw [if_neg (by omega)]
    exact hM k hk
  | succ d ih =>
    intro a fuel M g hd hf hM
    obtain ⟨f, rfl⟩ : ∃ f, fuel = f + 1 := ⟨fuel - 1, by omega⟩
    have hi : 22 * R + a < 484 := by omega
    have e26 : (((((R : Int) - 3 + 3) * 22) + ((a : Int) - 3)) + 3).toNat = 22 * R + a := by omega
    have hp : 2 ^ c < 2 ^ 10 := Nat.pow_lt_pow_right (by decide) hc
    obtain ⟨m1, m2⟩ := hM (22 * R + a) hi
    obtain ⟨g2, r1, r2, r3⟩ := ih (a + 1) f (fun k => if k = 22 * R + a then M k ||| 2 ^ c else M k) (gm_wI g 26 (22 * R + a) ((M (22 * R + a) ||| 2 ^ c : Nat) : Int)) (by omega) (by omega) (fun k hk => by
      dsimp only
      by_cases z : k = 22 * R + a
      · rw [if_pos z, z, gI_eq]
        exact ⟨rfl, Nat.or_lt_two_pow m2 hp⟩
      · rw [if_neg z, gI_ne z]
        exact hM k hk)
    unfold cp_spreadColour_l21
    rw [jg_pos ⟨⟨by omega, by omega⟩, by omega, by omega⟩, if_pos (by omega), jg_pos (by omega), e26, m1, zO_n (Nat.lt_trans m2 (by decide)) (Nat.lt_trans hp (by decide)), jl_eq, show (a : Int) - 3 + 1 = ((a + 1 : Nat) : Int) - 3 by omega, r1]
    refine ⟨g2, rfl, exc_tr (exc_wI exc_rf rfl) r2, fun k hk => ?_⟩
    have := r3 k hk
    dsimp only at this ⊢
    by_cases z : k = 22 * R + a
    · rw [if_neg (by omega), if_pos z] at this
      rw [if_pos (by omega)]
      exact this
    · rw [if_neg z] at this
      by_cases z2 : k / 22 = R ∧ a + 1 ≤ k % 22 ∧ k % 22 ≤ B
      · rw [if_pos z2] at this
        rw [if_pos (by omega)]
        exact this
      · rw [if_neg z2] at this
        rw [if_neg (by omega)]
        exact this
theorem spr_all {c : Nat} (hc : c < 10) {A B x D y Rb : Nat} (hA : A + D = x + 3) (hB : B = x + D + 3) (hB22 : B < 22) (hRb : Rb = y + D + 3) (hR22 : Rb < 22) : ∀ (d R fuel : Nat) (M : Nat → Nat) (g : gm_T), R + d = Rb + 1 → d < fuel → isN g M → ∃ g2, cp_spreadColour_l6 (x : Int) (y : Int) ((2 ^ c : Nat) : Int) (D : Int) fuel ((R : Int) - 3) g = some g2 ∧ exc W_26 nob g g2 ∧ isN g2 (fun k => if R ≤ k / 22 ∧ k / 22 ≤ Rb ∧ A ≤ k % 22 ∧ k % 22 ≤ B then M k ||| 2 ^ c else M k) := by
  intro d
  induction d with
  | zero =>
    intro R fuel M g hd hf hM
    obtain ⟨f, rfl⟩ : ∃ f, fuel = f + 1 := ⟨fuel - 1, by omega⟩
    unfold cp_spreadColour_l6
    rw [jg_pos ⟨⟨by omega, by omega⟩, by omega, by omega⟩, if_neg (by omega)]
    refine ⟨g, rfl, exc_rf, fun k hk => ?_⟩
    dsimp only
    rw [if_neg (by omega)]
    exact hM k hk
  | succ d ih =>
    intro R fuel M g hd hf hM
    obtain ⟨f, rfl⟩ : ∃ f, fuel = f + 1 := ⟨fuel - 1, by omega⟩
    obtain ⟨g1, q1, q2, q3⟩ := spr_row hc (R := R) (A := A) (B := B) (x := x) (D := D) (by omega) hA hB hB22 (y := (y : Int)) (B + 1 - A) A fz M g (by omega) (Nat.lt_of_le_of_lt (show B + 1 - A ≤ 300 by omega) (fz_gt rfl)) hM
    obtain ⟨g2, r1, r2, r3⟩ := ih (R + 1) f _ g1 (by omega) (by omega) q3
    unfold cp_spreadColour_l6
    rw [jg_pos ⟨⟨by omega, by omega⟩, by omega, by omega⟩, if_pos (by omega), jl_eq, show (x : Int) - (D : Int) = (A : Int) - 3 by omega, q1, jb1_some, show (R : Int) - 3 + 1 = ((R + 1 : Nat) : Int) - 3 by omega, r1]
    refine ⟨g2, rfl, exc_tr q2 r2, fun k hk => ?_⟩
    have := r3 k hk
    dsimp only at this ⊢
    by_cases z : k / 22 = R ∧ A ≤ k % 22 ∧ k % 22 ≤ B
    · rw [if_neg (by omega), if_pos z] at this
      rw [if_pos (by omega)]
      exact this
    · rw [if_neg z] at this
      by_cases z2 : R + 1 ≤ k / 22 ∧ k / 22 ≤ Rb ∧ A ≤ k % 22 ∧ k % 22 ≤ B
      · rw [if_pos z2] at this
        rw [if_pos (by omega)]
        exact this
      · rw [if_neg z2] at this
        rw [if_neg (by omega)]
        exact this
/-- within the doubt: place k of the 22 by 22, and cell x, y -/
def nr (D x y k : Nat) : Bool := decide (y + 3 ≤ k / 22 + D ∧ k / 22 ≤ y + D + 3 ∧ x + 3 ≤ k % 22 + D ∧ k % 22 ≤ x + D + 3)
theorem nr_iff {D x y k : Nat} : nr D x y k = true ↔ (y + 3 ≤ k / 22 + D ∧ k / 22 ≤ y + D + 3 ∧ x + 3 ≤ k % 22 + D ∧ k % 22 ≤ x + D + 3) := by
  unfold nr
  exact decide_eq_true_iff
theorem spread_eq {g : gm_T} {M : Nat → Nat} (hM : isN g M) {c x y D : Nat} (hc : c < 10) (hx : x < 16) (hy : y < 16) (hD : D ≤ 3) : ∃ g2, cp_spreadColour g (x : Int) (y : Int) ((2 ^ c : Nat) : Int) (D : Int) = some g2 ∧ exc W_26 nob g g2 ∧ isN g2 (fun k => if nr D x y k = true then M k ||| 2 ^ c else M k) := by
  obtain ⟨g2, r1, r2, r3⟩ := spr_all hc (A := x + 3 - D) (B := x + D + 3) (x := x) (D := D) (y := y) (Rb := y + D + 3) (by omega) rfl (by omega) rfl (by omega) (2 * D + 1) (y + 3 - D) fz M g (by omega) (Nat.lt_of_le_of_lt (show 2 * D + 1 ≤ 300 by omega) (fz_gt rfl)) hM
  unfold cp_spreadColour
  rw [jl_eq, show (y : Int) - (D : Int) = ((y + 3 - D : Nat) : Int) - 3 by omega, r1, jb1_some]
  refine ⟨g2, rfl, r2, fun k hk => ?_⟩
  have := r3 k hk
  dsimp only at this ⊢
  by_cases z : nr D x y k = true
  · rw [if_pos (by
      have := nr_iff.mp z
      omega)] at this
    rw [if_pos z]
    exact this
  · rw [if_neg (fun q => z (nr_iff.mpr (by omega)))] at this
    rw [if_neg z]
    exact this
