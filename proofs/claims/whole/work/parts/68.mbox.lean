/-! The photograph: best, the box of the turned marks. -/
def mkX (g : gm_T) (b : Nat) (t : Int) (k : Nat) : Int := cX t (gm_I g 51 (5 * b + k)) (gm_I g 52 (5 * b + k))
def mkY (g : gm_T) (b : Nat) (t : Int) (k : Nat) : Int := cY t (gm_I g 51 (5 * b + k)) (gm_I g 52 (5 * b + k))
def lea (f : Nat → Int) (k : Nat) (a : Int) : Prop := (∀ j, j < k → a ≤ f j) ∧ ∃ j, j < k ∧ f j = a
def gre (f : Nat → Int) (k : Nat) (a : Int) : Prop := (∀ j, j < k → f j ≤ a) ∧ ∃ j, j < k ∧ f j = a
theorem lea_s {f : Nat → Int} {k : Nat} {a : Int} (h : lea f k a) : lea f (k + 1) (zmin a (f k)) := by
  obtain ⟨h1, j, h2, h3⟩ := h
  unfold zmin
  by_cases c : f k < a
  · rw [if_pos c]
    refine ⟨fun i hi => ?_, k, by omega, rfl⟩
    by_cases z : i = k
    · rw [z]
      exact Int.le_refl _
    · have := h1 i (by omega)
      omega
  · rw [if_neg c]
    refine ⟨fun i hi => ?_, j, by omega, h3⟩
    by_cases z : i = k
    · rw [z]
      omega
    · exact h1 i (by omega)
theorem gre_s {f : Nat → Int} {k : Nat} {a : Int} (h : gre f k a) : gre f (k + 1) (zmax a (f k)) := by
  obtain ⟨h1, j, h2, h3⟩ := h
  unfold zmax
  by_cases c : a < f k
  · rw [if_pos c]
    refine ⟨fun i hi => ?_, k, by omega, rfl⟩
    by_cases z : i = k
    · rw [z]
      exact Int.le_refl _
    · have := h1 i (by omega)
      omega
  · rw [if_neg c]
    refine ⟨fun i hi => ?_, j, by omega, h3⟩
    by_cases z : i = k
    · rw [z]
      omega
    · exact h1 i (by omega)
theorem box_lp {n : Nat} {g : gm_T} (VB : V_bit n g) {b m : Nat} (hb : b < n) (hm : gm_I g 50 b = (m : Int)) {t : Int} (ht : 0 ≤ t ∧ t ≤ 3) : ∀ (d k fuel : Nat) (a1 a2 a3 a4 : Int), k + d = m → d < fuel → lea (mkX g b t) k a1 → lea (mkY g b t) k a2 → gre (mkX g b t) k a3 → gre (mkY g b t) k a4 → ∃ b1 b2 b3 b4, cp_searchTurned_l45 g b t fuel a1 a2 a3 a4 (k : Int) = some (b1, b2, b3, b4) ∧ lea (mkX g b t) m b1 ∧ lea (mkY g b t) m b2 ∧ gre (mkX g b t) m b3 ∧ gre (mkY g b t) m b4 := by
  obtain ⟨-, -, ⟨m1, m2, m3⟩, mk, -⟩ := VB b hb
  have bd : ∀ j, j < m → (-20 ≤ mkX g b t j ∧ mkX g b t j ≤ 19) ∧ -20 ≤ mkY g b t j ∧ mkY g b t j ≤ 19 := fun j hj => by
    obtain ⟨⟨-, q1, q2⟩, ⟨-, q3, q4⟩, -⟩ := mk j (by omega)
    exact c_20 ⟨q1, q2⟩ ⟨q3, q4⟩
  intro d
  induction d with
  | zero =>
    intro k fuel a1 a2 a3 a4 hd hf h1 h2 h3 h4
    obtain ⟨f, rfl⟩ : ∃ f, fuel = f + 1 := ⟨fuel - 1, by omega⟩
    have hk : k = m := by omega
    unfold cp_searchTurned_l45
    rw [m1, hm, jg_pos ⟨rgn (by omega), rgn (by omega)⟩, if_neg (by omega)]
    rw [hk] at h1 h2 h3 h4
    exact ⟨a1, a2, a3, a4, rfl, h1, h2, h3, h4⟩
  | succ d ih =>
    intro k fuel a1 a2 a3 a4 hd hf h1 h2 h3 h4
    obtain ⟨f, rfl⟩ : ∃ f, fuel = f + 1 := ⟨fuel - 1, by omega⟩
    obtain ⟨⟨q1, -⟩, ⟨q2, -⟩, -⟩ := mk k (by omega)
    obtain ⟨j1, u1, v1⟩ := h1.2
    obtain ⟨j2, u2, v2⟩ := h2.2
    obtain ⟨j3, u3, v3⟩ := h3.2
    obtain ⟨j4, u4, v4⟩ := h4.2
    have w1 := bd j1 (by omega)
    have w2 := bd j2 (by omega)
    have w3 := bd j3 (by omega)
    have w4 := bd j4 (by omega)
    have wk := bd k (by omega)
    have next := ih (k + 1) f _ _ _ _ (by omega) (by omega) (lea_s h1) (lea_s h2) (gre_s h3) (gre_s h4)
    unfold cp_searchTurned_l45
    rw [m1, hm, jg_pos ⟨rgn (by omega), rgn (by omega)⟩, if_pos (by omega), jg_pos (by omega), Int.toNat_natCast, q1, q2, cc_cellX_eq ht, jb1_some, cc_cellY_eq ht, jb1_some, show cX t (gm_I g 51 (5 * b + k)) (gm_I g 52 (5 * b + k)) = mkX g b t k from rfl, show cY t (gm_I g 51 (5 * b + k)) (gm_I g 52 (5 * b + k)) = mkY g b t k from rfl, jg_pos ⟨⟨by omega, by omega⟩, by omega, by omega⟩, jl_eq, jg_pos ⟨⟨by omega, by omega⟩, by omega, by omega⟩, jl_eq, jg_pos ⟨by omega, by omega⟩, jl_eq, jg_pos ⟨by omega, by omega⟩, jl_eq]
    exact next
