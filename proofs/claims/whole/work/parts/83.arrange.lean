/-! Arrangements: the operations arrange and arranged. -/
theorem ct_01 {p : Nat → Bool} : ∀ {n : Nat}, ct p n = 0 → ∀ i, i < n → p i = false
  | 0, _, i, hi => absurd hi (Nat.not_lt_zero i)
  | n + 1, h, i, hi => by
    rw [ct_succ] at h
    have h1 : ct p n = 0 := by omega
    by_cases z : i = n
    · rw [z]
      cases hp : p n with
      | false => rfl
      | true =>
        rw [if_pos hp] at h
        omega
    · exact ct_01 h1 i (by omega)
/-- the last of some bits -/
theorem ct_last {p : Nat → Bool} {m : Nat} : ∀ {n : Nat}, ct p n = m + 1 → ∃ k, k < n ∧ p k = true ∧ ct p k = m ∧ ∀ i, k < i → i < n → p i = false
  | 0, h => by
    have : (0 : Nat) = m + 1 := h
    omega
  | n + 1, h => by
    rw [ct_succ] at h
    cases hp : p n with
    | true =>
      rw [if_pos hp] at h
      exact ⟨n, by omega, hp, by omega, fun i h1 h2 => by omega⟩
    | false =>
      rw [if_neg (by rw [hp]; decide)] at h
      obtain ⟨k, k1, k2, k3, k4⟩ := ct_last (n := n) (p := p) (m := m) (by omega)
      exact ⟨k, by omega, k2, k3, fun i h1 h2 => by
        by_cases z : i = n
        · rw [z]
          exact hp
        · exact k4 i h1 (by omega)⟩
theorem bits_2 {S n : Nat} (hS : S < 2 ^ n) (h : ct S.testBit n = 2) : ∃ A B, (A < B ∧ B < n) ∧ (∀ i, S.testBit i = true ↔ i = A ∨ i = B) ∧ ct S.testBit A = 0 ∧ ct S.testBit B = 1 := by
  obtain ⟨B, b1, b2, b3, b4⟩ := ct_last (m := 1) h
  obtain ⟨A, a1, a2, a3, a4⟩ := ct_last (m := 0) b3
  refine ⟨A, B, ⟨a1, b1⟩, fun i => ⟨fun z => ?_, fun z => ?_⟩, a3, b3⟩
  · have hi : i < n := by
      rcases Nat.lt_or_ge i n with q | q
      · exact q
      · rw [Nat.testBit_lt_two_pow (Nat.lt_of_lt_of_le hS (Nat.pow_le_pow_right (n := 2) (by decide) q))] at z
        cases z
    rcases Nat.lt_trichotomy i B with q | q | q
    · rcases Nat.lt_trichotomy i A with r | r | r
      · rw [ct_01 a3 i r] at z
        cases z
      · exact Or.inl r
      · rw [a4 i r q] at z
        cases z
    · exact Or.inr q
    · rw [b4 i q hi] at z
      cases z
  · rcases z with rfl | rfl
    · exact a2
    · exact b2
theorem bits_3 {S n : Nat} (hS : S < 2 ^ n) (h : ct S.testBit n = 3) : ∃ A B C, (A < B ∧ B < C ∧ C < n) ∧ (∀ i, S.testBit i = true ↔ i = A ∨ i = B ∨ i = C) ∧ ct S.testBit A = 0 ∧ ct S.testBit B = 1 ∧ ct S.testBit C = 2 := by
  obtain ⟨C, c1, c2, c3, c4⟩ := ct_last (m := 2) h
  obtain ⟨B, b1, b2, b3, b4⟩ := ct_last (m := 1) c3
  obtain ⟨A, a1, a2, a3, a4⟩ := ct_last (m := 0) b3
  refine ⟨A, B, C, ⟨a1, b1, c1⟩, fun i => ⟨fun z => ?_, fun z => ?_⟩, a3, b3, c3⟩
  · have hi : i < n := by
      rcases Nat.lt_or_ge i n with q | q
      · exact q
      · rw [Nat.testBit_lt_two_pow (Nat.lt_of_lt_of_le hS (Nat.pow_le_pow_right (n := 2) (by decide) q))] at z
        cases z
    rcases Nat.lt_trichotomy i C with q | q | q
    · rcases Nat.lt_trichotomy i B with r | r | r
      · rcases Nat.lt_trichotomy i A with t | t | t
        · rw [ct_01 a3 i t] at z
          cases z
        · exact Or.inl t
        · rw [a4 i t r] at z
          cases z
      · exact Or.inr (Or.inl r)
      · rw [b4 i r q] at z
        cases z
    · exact Or.inr (Or.inr q)
    · rw [c4 i q hi] at z
      cases z
  · rcases z with rfl | rfl | rfl
    · exact a2
    · exact b2
    · exact c2
def W_90 (a k : Nat) : Bool := a == 90
theorem md_arr_lp {n : Nat} {g : gm_T} (hn : gm_I g 44 3 = (n : Int)) (h30 : n ≤ 30) {S : Nat} (hS : S < 2147483648) : ∀ (d b fuel : Nat) (g1 : gm_T), b + d = n → d < fuel → exc W_90 nob g g1 → (∀ c, c < b → S.testBit c = true → ct S.testBit c < 3 → gm_I g1 90 (ct S.testBit c) = (c : Int)) → ∃ g2, md_arrange_l26 (S : Int) fuel ((ct S.testBit b : Nat) : Int) (b : Int) g1 = some (((ct S.testBit n : Nat) : Int), g2) ∧ exc W_90 nob g g2 ∧ ∀ c, c < n → S.testBit c = true → ct S.testBit c < 3 → gm_I g2 90 (ct S.testBit c) = (c : Int) := by
  intro d
  induction d with
  | zero =>
    intro b fuel g1 hd hf x h
    obtain ⟨f, rfl⟩ : ∃ f, fuel = f + 1 := ⟨fuel - 1, by omega⟩
    unfold md_arrange_l26
    rw [x.1 44 3 rfl, hn, jg_pos ⟨rgn (by omega), rgn (by omega)⟩, if_neg (by omega), show n = b by omega]
    exact ⟨g1, rfl, x, h⟩
  | succ d ih =>
    intro b fuel g1 hd hf x h
    obtain ⟨f, rfl⟩ : ∃ f, fuel = f + 1 := ⟨fuel - 1, by omega⟩
    have hle := ct_le S.testBit b
    unfold md_arrange_l26
    rw [x.1 44 3 rfl, hn, jg_pos ⟨rgn (by omega), rgn (by omega)⟩, if_pos (by omega), zbit hS (by omega)]
    by_cases c : S.testBit b = true
    · rw [if_pos c, if_pos rfl, jg_pos (rgn (by omega))]
      by_cases c3 : ct S.testBit b < 3
      · obtain ⟨g2, r1, r2, r3⟩ := ih (b + 1) f (gm_wI g1 90 (ct S.testBit b) (b : Int)) (by omega) (by omega) (exc_wI x rfl) (fun e he hb h3 => by
          by_cases z : e = b
          · rw [z, gI_eq]
          · have hlt : ct S.testBit e < ct S.testBit b := by
              have h1 : ct S.testBit (e + 1) = ct S.testBit e + 1 := by rw [ct_succ, if_pos hb]
              have h2 : ∀ u v : Nat, u ≤ v → ct S.testBit u ≤ ct S.testBit v := fun u v huv => by
                obtain ⟨w, rfl⟩ : ∃ w, v = u + w := ⟨v - u, by omega⟩
                rw [ct_split]
                omega
              have := h2 (e + 1) b (by omega)
              omega
            rw [gI_ne (by omega)]
            exact h e (by omega) hb h3)
        rw [← ct_s1 c] at r1
        rw [if_pos (by omega), jg_pos (by omega), jl_eq, Int.toNat_natCast]
        exact ⟨g2, r1, r2, r3⟩
      · obtain ⟨g2, r1, r2, r3⟩ := ih (b + 1) f g1 (by omega) (by omega) x (fun e he hb h3 => by
          by_cases z : e = b
          · rw [z] at h3
            omega
          · exact h e (by omega) hb h3)
        rw [← ct_s1 c] at r1
        rw [if_neg (by omega)]
        exact ⟨g2, r1, r2, r3⟩
    · obtain ⟨g2, r1, r2, r3⟩ := ih (b + 1) f g1 (by omega) (by omega) x (fun e he hb h3 => by
        by_cases z : e = b
        · rw [z] at hb
          exact absurd hb c
        · exact h e (by omega) hb h3)
      rw [← ct_s0 c] at r1
      rw [if_neg c, if_neg (by decide)]
      exact ⟨g2, r1, r2, r3⟩
/-- what is told of the last arrangement: the class and the reference -/
def V_arr (n : Nat) (g : gm_T) : Prop := ∃ (S m : Nat) (bt : Nat → Nat) (P : Nat → plc), (S < 2 ^ 30 ∧ m ≤ 3) ∧ (gm_I g 27 8 = (S : Int) ∧ gm_I g 44 77 = (m : Int)) ∧ (∀ i, i < m → (gm_I g 97 i = ((bt i : Nat) : Int) ∧ bt i < n) ∧ ((gm_I g 98 i, gm_I g 99 i, gm_I g 100 i) : plc) = P i ∧ bpl 200 (P i) ∧ ct S.testBit (bt i) = i) ∧ (∀ b, S.testBit b = true ↔ ∃ i, i < m ∧ bt i = b) ∧ (0 < m → P 0 = p0) ∧ (1 < m → gm_J g 27 9 = pp (P 1)) ∧ (2 < m → gm_J g 27 10 = pp (P 2))
def W_arr (a k : Nat) : Bool := W_sv a k || a == 97 || a == 98 || a == 99 || a == 100 || (a == 44 && k == 77)
def R_arr (a k : Nat) : Bool := (a == 27 && k == 8) || (a == 44 && k == 77) || a == 97 || a == 98 || a == 99 || a == 100
def RJ_arr (a k : Nat) : Bool := a == 27 && (k == 9 || k == 10)
theorem V_arr_tr {n m : Nat} (hnm : n ≤ m) {W J : Nat → Nat → Bool} {g g2 : gm_T} (x : exc W J g g2) (hW : ∀ a k, R_arr a k = true → W a k = false) (hJ : ∀ a k, RJ_arr a k = true → J a k = false) (h : V_arr n g) : V_arr m g2 := by
  obtain ⟨S, q, bt, P, h1, ⟨h2, h3⟩, h4, h5, h6, h7, h8⟩ := h
  refine ⟨S, q, bt, P, h1, ⟨by rw [x.1 27 8 (hW _ _ rfl)]; exact h2, by rw [x.1 44 77 (hW _ _ rfl)]; exact h3⟩, fun i hi => ?_, h5, h6, fun z => by rw [x.2 27 9 (hJ _ _ rfl)]; exact h7 z, fun z => by rw [x.2 27 10 (hJ _ _ rfl)]; exact h8 z⟩
  obtain ⟨⟨a1, a2⟩, a3⟩ := h4 i hi
  rw [x.1 97 i (hW _ _ rfl), x.1 98 i (hW _ _ rfl), x.1 99 i (hW _ _ rfl), x.1 100 i (hW _ _ rfl)]
  exact ⟨⟨a1, by omega⟩, a3⟩
theorem md_fin_lp {g : gm_T} {m : Nat} (m3 : m ≤ 3) : ∀ (d i fuel : Nat) (g1 : gm_T), i + d = m → d < fuel → exc (fun a _ => a == 97 || a == 98 || a == 99 || a == 100) nob g g1 → (∀ j, j < i → gm_I g1 97 j = gm_I g 90 j ∧ ((gm_I g1 98 j, gm_I g1 99 j, gm_I g1 100 j) : plc) = gQ g j) → ∃ g2, md_arrange_l165 (m : Int) fuel (i : Int) g1 = some g2 ∧ exc (fun a _ => a == 97 || a == 98 || a == 99 || a == 100) nob g g2 ∧ ∀ j, j < m → gm_I g2 97 j = gm_I g 90 j ∧ ((gm_I g2 98 j, gm_I g2 99 j, gm_I g2 100 j) : plc) = gQ g j := by
  intro d
  induction d with
  | zero =>
    intro i fuel g1 hd hf x h
    obtain ⟨f, rfl⟩ : ∃ f, fuel = f + 1 := ⟨fuel - 1, by omega⟩
    unfold md_arrange_l165
    rw [jg_pos ⟨rgn (by omega), rgn (by omega)⟩, if_neg (by omega)]
    exact ⟨g1, rfl, x, fun j hj => h j (by omega)⟩
  | succ d ih =>
    intro i fuel g1 hd hf x h
    obtain ⟨f, rfl⟩ : ∃ f, fuel = f + 1 := ⟨fuel - 1, by omega⟩
    obtain ⟨g2, r1, r2, r3⟩ := ih (i + 1) f (gm_wI (gm_wI (gm_wI (gm_wI g1 97 i (gm_I g1 90 i)) 98 i (gm_I g1 94 i)) 99 i (gm_I g1 95 i)) 100 i (gm_I g1 96 i)) (by omega) (by omega) (exc_wI (exc_wI (exc_wI (exc_wI x rfl) rfl) rfl) rfl) (fun j hj => by
      rw [gI_oth (show 97 ≠ 100 by decide), gI_oth (show 97 ≠ 99 by decide), gI_oth (show 97 ≠ 98 by decide), gI_oth (show 98 ≠ 100 by decide), gI_oth (show 98 ≠ 99 by decide), gI_oth (show 99 ≠ 100 by decide)]
      by_cases z : j = i
      · rw [z, gI_eq, gI_eq, gI_eq, gI_eq, x.1 90 i rfl, x.1 94 i rfl, x.1 95 i rfl, x.1 96 i rfl]
        exact ⟨rfl, rfl⟩
      · rw [gI_ne z, gI_ne z, gI_ne z, gI_ne z, gI_oth (show 98 ≠ 97 by decide), gI_oth (show 99 ≠ 98 by decide), gI_oth (show 99 ≠ 97 by decide), gI_oth (show 100 ≠ 99 by decide), gI_oth (show 100 ≠ 98 by decide), gI_oth (show 100 ≠ 97 by decide)]
        exact h j (by omega))
    unfold md_arrange_l165
    rw [jg_pos ⟨rgn (by omega), rgn (by omega)⟩, if_pos (by omega), jg_pos (by omega), jl_eq, jl_eq, jl_eq, jl_eq, Int.toNat_natCast, gI_oth (show 94 ≠ 97 by decide), gI_oth (show 95 ≠ 98 by decide), gI_oth (show 95 ≠ 97 by decide), gI_oth (show 96 ≠ 99 by decide), gI_oth (show 96 ≠ 98 by decide), gI_oth (show 96 ≠ 97 by decide)]
    exact ⟨g2, r1, r2, r3⟩
