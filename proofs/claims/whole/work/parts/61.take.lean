/-! The class's take. -/
def isPr (t : Nat → Int) (W H D : Nat) (g : gm_T) (Q : Nat → Nat → Prop) : Prop := ∃ (M : Nat → Nat) (K : Nat), isN g M ∧ (gm_I g 25 5 = (K : Int) ∧ K < 2 ^ 10) ∧ (∀ c : Nat, K.testBit c = true ↔ ∃ i x, Q i x ∧ cvl (t (i * (W + 1) + x)) = (c : Int)) ∧ ∀ k, k < 484 → ∀ c : Nat, (M k).testBit c = true ↔ ∃ i x, Q i x ∧ cvl (t (i * (W + 1) + x)) = (c : Int) ∧ nr D x (H - 1 - i) k = true
theorem isPr_cong {t : Nat → Int} {W H D : Nat} {g : gm_T} {Q Q' : Nat → Nat → Prop} (e : ∀ i x, Q i x ↔ Q' i x) (h : isPr t W H D g Q) : isPr t W H D g Q' := by
  have : Q = Q' := funext fun i => funext fun x => propext (e i x)
  rw [← this]
  exact h
theorem cvl_sp {v : Int} (h : isc v = true) : cvl v = -1 ∨ ∃ c : Nat, c < 10 ∧ cvl v = (c : Int) := by
  have hi := isc_iff.mp h
  unfold cvl
  by_cases z : v = 46
  · rw [if_pos z]
    exact Or.inl rfl
  · rw [if_neg z]
    exact Or.inr ⟨(v - 48).toNat, by omega, by omega⟩
theorem ct_digit_cvl {g : gm_T} {L : Nat} {t : Nat → Int} (h : isTc g L t) {p : Nat} (hl : p ≤ L) (hi : isc (t p) = true) : ct_digit g (p : Int) = some (cvl (t p)) := by
  rw [ct_digit_eq h hl]
  have := isc_iff.mp hi
  unfold cvl
  by_cases z : t p = 46
  · rw [if_neg (by omega), if_pos z]
  · rw [if_pos (by omega), if_neg z]
def W_tc (a k : Nat) : Bool := a == 26 || (a == 25 && k == 5)
def W_tk (a k : Nat) : Bool := a == 26 || (a == 25 && (k == 1 || k == 2 || k == 3 || k == 4 || k == 5))
theorem tk_tc {g g2 : gm_T} (h : exc W_tc nob g g2) : exc W_tk nob g g2 := exc_mono h (fun a k q => by
  simp only [W_tc, Bool.or_eq_true, Bool.and_eq_true, beq_iff_eq] at q
  rcases q with rfl | ⟨rfl, rfl⟩ <;> rfl) (fun _ _ q => q)
theorem tc_26 {g g2 : gm_T} (h : exc W_26 nob g g2) : exc W_tc nob g g2 := exc_mono h (fun a k q => by
  simp only [W_26, beq_iff_eq] at q
  subst q
  rfl) (fun _ _ q => q)
theorem isTc_tk {g g2 : gm_T} (x : exc W_tk nob g g2) {L : Nat} {t : Nat → Int} (h : isTc g L t) : isTc g2 L t := ⟨by rw [x.1 1 0 rfl]; exact h.1, h.2.1, fun k hk => by rw [x.1 2 k rfl]; exact h.2.2.1 k hk, h.2.2.2⟩
theorem take_cell {g : gm_T} {L : Nat} {t : Nat → Int} (hT : isTc g L t) {W H D : Nat} (h1 : gm_I g 25 1 = (W : Int)) (h2 : gm_I g 25 2 = (H : Int)) (hW : W ≤ 16) (hH : H ≤ 16) (hD : D ≤ 3) {i x : Nat} (hi : i < H) (hx : x < W) (hl : i * (W + 1) + x ≤ L) (hc : isc (t (i * (W + 1) + x)) = true) {Q : Nat → Nat → Prop} (hP : isPr t W H D g Q) (f : Nat) : ∃ g2, cp_take_l114 (D : Int) (i : Int) (f + 1) (x : Int) g = cp_take_l114 (D : Int) (i : Int) f ((x + 1 : Nat) : Int) g2 ∧ exc W_tc nob g g2 ∧ isPr t W H D g2 (fun i' x' => Q i' x' ∨ (i' = i ∧ x' = x)) := by
  obtain ⟨M, K, p1, ⟨p2, p3⟩, p4, p5⟩ := hP
  have epos : ((i : Int) * ((W : Int) + 1)) + (x : Int) = ((i * (W + 1) + x : Nat) : Int) := by
    rw [Int.natCast_add, Int.natCast_mul]
    rfl
  have step : ∀ g2, cp_take_l114 (D : Int) (i : Int) f ((x : Int) + 1) g2 = cp_take_l114 (D : Int) (i : Int) f ((x + 1 : Nat) : Int) g2 := fun g2 => rfl
  rcases cvl_sp hc with z | ⟨c, c1, c2⟩
  · refine ⟨g, ?_, exc_rf, M, K, p1, ⟨p2, p3⟩, fun c => ?_, fun k hk c => ?_⟩
    · conv => lhs; unfold cp_take_l114
      rw [h1, jg_pos ⟨rgn (by omega), rgn (by omega)⟩, if_pos (by omega), epos, ct_digit_cvl hT hl hc, z, jb1_some, jg_pos (rgk rfl), if_pos (by decide), step]
    · rw [p4 c]
      constructor
      · rintro ⟨i', x', q1, q2⟩
        exact ⟨i', x', Or.inl q1, q2⟩
      · rintro ⟨i', x', q1 | ⟨rfl, rfl⟩, q2⟩
        · exact ⟨i', x', q1, q2⟩
        · omega
    · rw [p5 k hk c]
      constructor
      · rintro ⟨i', x', q1, q2⟩
        exact ⟨i', x', Or.inl q1, q2⟩
      · rintro ⟨i', x', q1 | ⟨rfl, rfl⟩, q2, q3⟩
        · exact ⟨i', x', q1, q2, q3⟩
        · omega
  · have hp : 2 ^ c < 2 ^ 10 := Nat.pow_lt_pow_right (by decide) c1
    have hN : isN (gm_wI g 25 5 ((K ||| 2 ^ c : Nat) : Int)) M := fun k hk => by
      rw [gI_oth (by decide)]
      exact p1 k hk
    obtain ⟨g2, r1, r2, r3⟩ := spread_eq hN (c := c) (x := x) (y := H - 1 - i) (D := D) c1 (by omega) (by omega) hD
    refine ⟨g2, ?_, exc_tr (exc_wI exc_rf rfl) (tc_26 r2), _, K ||| 2 ^ c, r3, ⟨by rw [r2.1 25 5 rfl, gI_eq], Nat.or_lt_two_pow p3 hp⟩, fun c' => ?_, fun k hk c' => ?_⟩
    · conv => lhs; unfold cp_take_l114
      rw [h1, jg_pos ⟨rgn (by omega), rgn (by omega)⟩, if_pos (by omega), epos, ct_digit_cvl hT hl hc, c2, jb1_some, jg_pos (rgn (by omega)), if_neg (by omega), zSl_1 (by omega), p2, zO_n (Nat.lt_trans p3 (by decide)) (Nat.lt_trans hp (by decide)), jl_eq, gI_ne (by decide), h2, show (H : Int) - 1 - (i : Int) = ((H - 1 - i : Nat) : Int) by omega, r1, jb1_some, step]
    · rw [Nat.testBit_or, Nat.testBit_two_pow, Bool.or_eq_true, p4 c', decide_eq_true_eq]
      constructor
      · rintro (⟨i', x', q1, q2⟩ | rfl)
        · exact ⟨i', x', Or.inl q1, q2⟩
        · exact ⟨i, x, Or.inr ⟨rfl, rfl⟩, c2⟩
      · rintro ⟨i', x', q1 | ⟨rfl, rfl⟩, q2⟩
        · exact Or.inl ⟨i', x', q1, q2⟩
        · right
          omega
    · dsimp only
      by_cases hn : nr D x (H - 1 - i) k = true
      · rw [if_pos hn, Nat.testBit_or, Nat.testBit_two_pow, Bool.or_eq_true, p5 k hk c', decide_eq_true_eq]
        constructor
        · rintro (⟨i', x', q1, q2⟩ | rfl)
          · exact ⟨i', x', Or.inl q1, q2⟩
          · exact ⟨i, x, Or.inr ⟨rfl, rfl⟩, c2, hn⟩
        · rintro ⟨i', x', q1 | ⟨rfl, rfl⟩, q2, q3⟩
          · exact Or.inl ⟨i', x', q1, q2, q3⟩
          · right
            omega
      · rw [if_neg hn, p5 k hk c']
        constructor
        · rintro ⟨i', x', q1, q2⟩
          exact ⟨i', x', Or.inl q1, q2⟩
        · rintro ⟨i', x', q1 | ⟨rfl, rfl⟩, q2, q3⟩
          · exact ⟨i', x', q1, q2, q3⟩
          · exact absurd q3 hn
theorem take_row {L : Nat} {t : Nat → Int} {W H D : Nat} (hW : W ≤ 16) (hH : H ≤ 16) (hD : D ≤ 3) {i : Nat} (hi : i < H) (hc : ∀ x, x < W → isc (t (i * (W + 1) + x)) = true) (hl : i * (W + 1) + W ≤ L) : ∀ (d x fuel : Nat) (g : gm_T), x + d = W → d < fuel → isTc g L t → gm_I g 25 1 = (W : Int) → gm_I g 25 2 = (H : Int) → isPr t W H D g (fun i' x' => (i' < i ∧ x' < W) ∨ (i' = i ∧ x' < x)) → ∃ g2, cp_take_l114 (D : Int) (i : Int) fuel (x : Int) g = some g2 ∧ exc W_tc nob g g2 ∧ isPr t W H D g2 (fun i' x' => i' < i + 1 ∧ x' < W) := by
  intro d
  induction d with
  | zero =>
    intro x fuel g hd hf hT h1 h2 hP
    obtain ⟨f, rfl⟩ : ∃ f, fuel = f + 1 := ⟨fuel - 1, by omega⟩
    unfold cp_take_l114
    rw [h1, jg_pos ⟨rgn (by omega), rgn (by omega)⟩, if_neg (by omega)]
    exact ⟨g, rfl, exc_rf, isPr_cong (fun i' x' => by omega) hP⟩
  | succ d ih =>
    intro x fuel g hd hf hT h1 h2 hP
    obtain ⟨f, rfl⟩ : ∃ f, fuel = f + 1 := ⟨fuel - 1, by omega⟩
    obtain ⟨g1, r1, r2, r3⟩ := take_cell hT h1 h2 hW hH hD hi (x := x) (by omega) (by omega) (hc x (by omega)) hP f
    obtain ⟨g2, q1, q2, q3⟩ := ih (x + 1) f g1 (by omega) (by omega) (isTc_tk (tk_tc r2) hT) (by rw [r2.1 25 1 rfl]; exact h1) (by rw [r2.1 25 2 rfl]; exact h2) (isPr_cong (fun i' x' => by omega) r3)
    exact ⟨g2, r1.trans q1, exc_tr r2 q2, q3⟩
theorem take_rows {L : Nat} {t : Nat → Int} {W H D : Nat} (hW : W ≤ 16) (hH : H ≤ 16) (hD : D ≤ 3) (hc : ∀ i x, i < H → x < W → isc (t (i * (W + 1) + x)) = true) (hl : ∀ i, i < H → i * (W + 1) + W ≤ L) : ∀ (d i fuel : Nat) (g : gm_T), i + d = H → d < fuel → isTc g L t → gm_I g 25 1 = (W : Int) → gm_I g 25 2 = (H : Int) → isPr t W H D g (fun i' x' => i' < i ∧ x' < W) → ∃ g2, cp_take_l102 (D : Int) fuel (i : Int) g = some g2 ∧ exc W_tc nob g g2 ∧ isPr t W H D g2 (fun i' x' => i' < H ∧ x' < W) := by
  intro d
  induction d with
  | zero =>
    intro i fuel g hd hf hT h1 h2 hP
    obtain ⟨f, rfl⟩ : ∃ f, fuel = f + 1 := ⟨fuel - 1, by omega⟩
    have hk : i = H := by omega
    unfold cp_take_l102
    rw [h2, jg_pos ⟨rgn (by omega), rgn (by omega)⟩, if_neg (by omega)]
    rw [hk] at hP
    exact ⟨g, rfl, exc_rf, hP⟩
  | succ d ih =>
    intro i fuel g hd hf hT h1 h2 hP
    obtain ⟨f, rfl⟩ : ∃ f, fuel = f + 1 := ⟨fuel - 1, by omega⟩
    obtain ⟨g1, r1, r2, r3⟩ := take_row hW hH hD (i := i) (by omega) (fun x hx => hc i x (by omega) hx) (hl i (by omega)) W 0 fz g (by omega) (Nat.lt_of_le_of_lt (show W ≤ 300 by omega) (fz_gt rfl)) hT h1 h2 (isPr_cong (fun i' x' => by omega) hP)
    obtain ⟨g2, q1, q2, q3⟩ := ih (i + 1) f g1 (by omega) (by omega) (isTc_tk (tk_tc r2) hT) (by rw [r2.1 25 1 rfl]; exact h1) (by rw [r2.1 25 2 rfl]; exact h2) r3
    unfold cp_take_l102
    rw [h2, jg_pos ⟨rgn (by omega), rgn (by omega)⟩, if_pos (by omega), show cp_take_l114 (D : Int) (i : Int) fz 0 g = some g1 from r1, jb1_some]
    exact ⟨g2, q1, exc_tr r2 q2, q3⟩
