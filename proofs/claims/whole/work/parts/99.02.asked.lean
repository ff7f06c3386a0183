/-! Questions: the operation asked. -/
theorem ct_mono {p : Nat → Bool} {a b : Nat} (h : a ≤ b) : ct p a ≤ ct p b := by
  obtain ⟨w, rfl⟩ : ∃ w, b = a + w := ⟨b - a, by omega⟩
  rw [ct_split]
  omega
theorem ct_lt2 {p : Nat → Bool} {a b : Nat} (ha : p a = true) (h : a < b) : ct p a < ct p b := by
  have h1 : ct p (a + 1) = ct p a + 1 := by rw [ct_succ, if_pos ha]
  have h2 := ct_mono (p := p) (a := a + 1) (b := b) (by omega)
  omega
theorem ct_nth {p : Nat → Bool} {k : Nat} : ∀ n, k < ct p n → ∃ b, b < n ∧ p b = true ∧ ct p b = k
  | 0, h => by
    have : k < 0 := h
    omega
  | n + 1, h => by
    rw [ct_succ] at h
    cases hp : p n with
    | true =>
      rw [if_pos hp] at h
      by_cases z : k < ct p n
      · obtain ⟨b, b1, b2, b3⟩ := ct_nth n z
        exact ⟨b, by omega, b2, b3⟩
      · exact ⟨n, by omega, hp, by omega⟩
    | false =>
      rw [if_neg (by rw [hp]; decide)] at h
      obtain ⟨b, b1, b2, b3⟩ := ct_nth n (by omega)
      exact ⟨b, by omega, b2, b3⟩
/-- the mask without its k lowest bits -/
def isDr (A k M : Nat) : Prop := M < 2147483648 ∧ ∀ b, M.testBit b = (A.testBit b && decide (k ≤ ct A.testBit b))
theorem dr_low {A k M : Nat} (h : isDr A k M) {b : Nat} (hb : A.testBit b = true) (hk : ct A.testBit b = k) : M.testBit b = true ∧ ∀ j, j < b → M.testBit j = false := by
  refine ⟨by rw [h.2, hb, decide_eq_true (by omega)]; rfl, fun j hj => ?_⟩
  rw [h.2]
  cases q : A.testBit j with
  | false => rfl
  | true =>
    have := ct_lt2 (p := A.testBit) q hj
    rw [decide_eq_false (by omega)]
    rfl
theorem cw_asked_lp {g : gm_T} {A m a : Nat} (hA : ct A.testBit 30 = m) (ham : a < m) (hm : m ≤ 30) : ∀ (d k fuel M : Nat), k + d = a → d < fuel → isDr A k M → ∃ M2 : Nat, cw_asked_l24 g (a : Int) fuel (M : Int) (k : Int) = some (M2 : Int) ∧ isDr A a M2 := by
  intro d
  induction d with
  | zero =>
    intro k fuel M hd hf h
    obtain ⟨f, rfl⟩ : ∃ f, fuel = f + 1 := ⟨fuel - 1, by omega⟩
    unfold cw_asked_l24
    rw [jg_pos ⟨rgn (by omega), rgn (by omega)⟩, if_neg (by omega)]
    have e : k = a := by omega
    rw [e] at h
    exact ⟨M, rfl, h⟩
  | succ d ih =>
    intro k fuel M hd hf h
    obtain ⟨f, rfl⟩ : ∃ f, fuel = f + 1 := ⟨fuel - 1, by omega⟩
    obtain ⟨b, b1, b2, b3⟩ := ct_nth (p := A.testBit) (k := k) 30 (by omega)
    obtain ⟨l1, l2⟩ := dr_low h b2 b3
    obtain ⟨M2, e1, e2, e3⟩ := low_off h.1 l1 l2
    unfold cw_asked_l24
    rw [jg_pos ⟨rgn (by omega), rgn (by omega)⟩, if_pos (by omega), jl_eq, e1]
    refine ih (k + 1) f M2 (by omega) (by omega) ⟨e2, fun i => ?_⟩
    rw [e3, h.2]
    cases q : A.testBit i with
    | false => rfl
    | true =>
      by_cases z : i = b
      · rw [z, b3, decide_eq_true rfl, decide_eq_false (show ¬ k + 1 ≤ k by omega)]
        cases decide (k ≤ k) <;> rfl
      · have hne : ct A.testBit i ≠ k := fun y => by
          rcases Nat.lt_trichotomy i b with w | w | w
          · have := ct_lt2 (p := A.testBit) q w
            omega
          · exact z w
          · have := ct_lt2 (p := A.testBit) b2 w
            omega
        rw [decide_eq_false z, Bool.not_false, Bool.and_true]
        by_cases y : k ≤ ct A.testBit i
        · rw [decide_eq_true y, decide_eq_true (show k + 1 ≤ ct A.testBit i by omega)]
        · rw [decide_eq_false y, decide_eq_false (show ¬ k + 1 ≤ ct A.testBit i by omega)]
theorem op_asked {g : gm_T} (hA : V_ask g) {a : Int} (ha : rg a) : ∃ r, cw_asked g a = some r ∧ md_asked g a = some r := by
  obtain ⟨A, m, ⟨q1, q2⟩, q3, q4, q5⟩ := hA
  have hm : m ≤ 30 := by rw [← q4]; exact ct_le _ 30
  have hc31 : ct A.testBit 31 = m := by
    rw [← q4]
    exact ct_more (fun i hi => Nat.testBit_lt_two_pow (Nat.lt_of_lt_of_le q3 (Nat.pow_le_pow_right (n := 2) (by decide) hi))) 31 (by decide)
  have hmd : md_asked g a = if 0 ≤ a ∧ a ≤ (m : Int) - 1 then jg (0 ≤ a ∧ a < 30) (some (gm_I g 103 a.toNat)) else some (-1) := by
    unfold md_asked
    rw [q2, md_in_eq ha (rgk rfl) ⟨by omega, by omega⟩, jb_tst]
  rw [hmd]
  unfold cw_asked
  rw [q1, jl_eq, jg_pos ha, jd_bitCount_n g (by omega), hc31, jb1_some, jg_pos (rgn (by omega))]
  by_cases c1 : a < 0
  · rw [if_pos c1, if_neg (by omega)]
    exact ⟨_, rfl, rfl⟩
  · rw [if_neg c1]
    by_cases c2 : a < (m : Int)
    · obtain ⟨k, rfl⟩ : ∃ k : Nat, a = (k : Int) := ⟨_, (Int.toNat_of_nonneg (by omega)).symm⟩
      obtain ⟨M2, e1, e2⟩ := cw_asked_lp (g := g) (a := k) q4 (by omega) hm k 0 fz A (by omega) (Nat.lt_of_le_of_lt (show k ≤ 300 by omega) (fz_gt rfl)) ⟨by omega, fun b => by rw [decide_eq_true (Nat.zero_le _), Bool.and_true]⟩
      obtain ⟨b, b1, b2, b3⟩ := ct_nth (p := A.testBit) (k := k) 30 (by omega)
      obtain ⟨l1, l2⟩ := dr_low e2 b2 b3
      have h5 := q5 b b2
      rw [b3] at h5
      rw [if_pos c2, if_pos (by omega), show cw_asked_l24 g (k : Int) fz (A : Int) 0 = _ from e1, jb1_some, jd_ntz_n g e2.1 l1 l2, jb1_some, jg_pos (by omega), Int.toNat_natCast, h5]
      exact ⟨_, rfl, rfl⟩
    · rw [if_neg c2, if_neg (by omega)]
      exact ⟨_, rfl, rfl⟩
