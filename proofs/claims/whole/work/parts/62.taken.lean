/-! The class's take, whole; the reference's taking. -/
theorem take_w {L : Nat} {t : Nat → Int} {W : Nat} {a2 a3 a4 : Int} (hc : ∀ x, x < W → isc (t x) = true) (hWL : W ≤ L) (he : W = L ∨ t W = 47) : ∀ (d x fuel : Nat) (g : gm_T), x + d = W → d < fuel → isTc g L t → gm_I g 25 1 = (x : Int) → ∃ g2, cp_take_l5 a2 a3 a4 fuel g = some g2 ∧ exc W_tk nob g g2 ∧ gm_I g2 25 1 = (W : Int) := by
  intro d
  induction d with
  | zero =>
    intro x fuel g hd hf hT h1
    obtain ⟨f, rfl⟩ : ∃ f, fuel = f + 1 := ⟨fuel - 1, by omega⟩
    have l2 := hT.2.1
    have hk : x = W := by omega
    unfold cp_take_l5
    rw [h1, hT.1, jg_pos ⟨rgn (by omega), rgn (by omega)⟩]
    by_cases c : x < L
    · have h47 : t x = 47 := by
        rw [hk]
        exact he.resolve_left (by omega)
      rw [if_pos (by omega), ct_peek_eq hT (by omega), h47, jb1_some, jg_pos (rgk rfl), if_pos rfl]
      exact ⟨g, rfl, exc_rf, by rw [h1, hk]⟩
    · rw [if_neg (by omega)]
      exact ⟨g, rfl, exc_rf, by rw [h1, hk]⟩
  | succ d ih =>
    intro x fuel g hd hf hT h1
    obtain ⟨f, rfl⟩ : ∃ f, fuel = f + 1 := ⟨fuel - 1, by omega⟩
    have l2 := hT.2.1
    have hi := isc_iff.mp (hc x (by omega))
    obtain ⟨g2, r1, r2, r3⟩ := ih (x + 1) f (gm_wI g 25 1 ((x : Int) + 1)) (by omega) (by omega) (isTc_tk (exc_wI exc_rf rfl) hT) gI_eq
    unfold cp_take_l5
    rw [h1, hT.1, jg_pos ⟨rgn (by omega), rgn (by omega)⟩, if_pos (by omega), ct_peek_eq hT (by omega), jb1_some, jg_pos ⟨by omega, by omega⟩, if_neg (by omega), jl_eq, r1]
    exact ⟨g2, rfl, exc_tr (exc_wI exc_rf rfl) r2, r3⟩
theorem take_0 {a4 : Int} : ∀ (d j fuel : Nat) (g : gm_T), j + d = 484 → d < fuel → (∀ k, k < j → gm_I g 26 k = 0) → ∃ g2, cp_take_l77 a4 fuel (j : Int) g = some g2 ∧ exc W_26 nob g g2 ∧ ∀ k, k < 484 → gm_I g2 26 k = 0 := by
  intro d
  induction d with
  | zero =>
    intro j fuel g hd hf h0
    obtain ⟨f, rfl⟩ : ∃ f, fuel = f + 1 := ⟨fuel - 1, by omega⟩
    unfold cp_take_l77
    rw [jg_pos (rgn (by omega)), if_neg (by omega)]
    exact ⟨g, rfl, exc_rf, fun k hk => h0 k (by omega)⟩
  | succ d ih =>
    intro j fuel g hd hf h0
    obtain ⟨f, rfl⟩ : ∃ f, fuel = f + 1 := ⟨fuel - 1, by omega⟩
    obtain ⟨g2, r1, r2, r3⟩ := ih (j + 1) f (gm_wI g 26 j 0) (by omega) (by omega) (fun k hk => by
      by_cases z : k = j
      · rw [z, gI_eq]
      · rw [gI_ne z]
        exact h0 k (by omega))
    unfold cp_take_l77
    rw [jg_pos (rgn (by omega)), if_pos (by omega), jg_pos (by omega), jl_eq, Int.toNat_natCast]
    exact ⟨g2, r1, exc_tr (exc_wI exc_rf rfl) r2, r3⟩
theorem take_eq {g gs : gm_T} {L : Nat} {t : Nat → Int} (hT : isTc g L t) {W H D : Nat} (ph : phOk gs L t W H) (hD : D ≤ 3) {X Y : Int} : ∃ g2, cp_take g X Y (D : Int) = some g2 ∧ exc W_tk nob g g2 ∧ gm_I g2 25 1 = (W : Int) ∧ gm_I g2 25 2 = (H : Int) ∧ gm_I g2 25 3 = X ∧ gm_I g2 25 4 = Y ∧ isPr t W H D g2 (fun i x => i < H ∧ x < W) := by
  obtain ⟨⟨w1, w2⟩, ⟨b1, b2⟩, hL, hr, hbr⟩ := ph
  have l2 := hT.2.1
  have hrow : ∀ i, i < H → i * (W + 1) + W ≤ L := fun i hi => by
    have h1 : (i + 1) * (W + 1) ≤ H * (W + 1) := Nat.mul_le_mul_right _ hi
    rw [Nat.succ_mul] at h1
    omega
  have h0 := hrow 0 (by omega)
  rw [Nat.zero_mul, Nat.zero_add] at h0
  have hcell : ∀ x, x < W → isc (t x) = true := fun x hx => by
    have := (hr 0 x (by omega) hx).1
    rw [Nat.zero_mul, Nat.zero_add] at this
    exact this
  have hend : W = L ∨ t W = 47 := by
    by_cases z : H = 1
    · left
      rw [z, Nat.one_mul] at hL
      omega
    · right
      have := hbr 0 (by omega)
      rw [Nat.zero_mul, Nat.zero_add] at this
      exact this
  obtain ⟨g1, r1, r2, r3⟩ := take_w (a2 := X) (a3 := Y) (a4 := (D : Int)) hcell h0 hend W 0 fz (gm_wI g 25 1 0) (by omega) (Nat.lt_of_le_of_lt (show W ≤ 300 by omega) (fz_gt rfl)) (isTc_tk (exc_wI exc_rf rfl) hT) gI_eq
  have x1 : exc W_tk nob g g1 := exc_tr (exc_wI exc_rf rfl) r2
  have T1 := isTc_tk x1 hT
  have hdiv : ((L : Int) + 1) / ((W : Int) + 1) = (H : Int) := by
    show ((L + 1 : Nat) : Int) / ((W + 1 : Nat) : Int) = (H : Int)
    rw [← Int.natCast_ediv, hL, Nat.mul_div_cancel _ (by omega)]
  obtain ⟨g3, hg3⟩ : ∃ g3, g3 = gm_wI (gm_wI (gm_wI (gm_wI g1 25 2 (H : Int)) 25 3 X) 25 4 Y) 25 5 0 := ⟨_, rfl⟩
  have x3 : exc W_tk nob g g3 := by
    rw [hg3]
    exact exc_wI (exc_wI (exc_wI (exc_wI x1 rfl) rfl) rfl) rfl
  obtain ⟨g4, q1, q2, q3⟩ := take_0 (a4 := (D : Int)) 484 0 fz g3 rfl (fz_gt rfl) (fun k hk => by omega)
  have x4 := exc_tr x3 (tk_tc (tc_26 q2))
  have o25 : ∀ k, gm_I g4 25 k = gm_I g3 25 k := fun k => q2.1 25 k rfl
  have e1 : gm_I g4 25 1 = (W : Int) := by rw [o25, hg3, gI_ne (by decide), gI_ne (by decide), gI_ne (by decide), gI_ne (by decide), r3]
  have e2 : gm_I g4 25 2 = (H : Int) := by rw [o25, hg3, gI_ne (by decide), gI_ne (by decide), gI_ne (by decide), gI_eq]
  have e3 : gm_I g4 25 3 = X := by rw [o25, hg3, gI_ne (by decide), gI_ne (by decide), gI_eq]
  have e4 : gm_I g4 25 4 = Y := by rw [o25, hg3, gI_ne (by decide), gI_eq]
  have e5 : gm_I g4 25 5 = 0 := by rw [o25, hg3, gI_eq]
  obtain ⟨g5, p1, p2, p3⟩ := take_rows (W := W) (H := H) (D := D) (L := L) (t := t) w2 b2 hD (fun i x hi hx => (hr i x hi hx).1) hrow H 0 fz g4 (by omega) (Nat.lt_of_le_of_lt (show H ≤ 300 by omega) (fz_gt rfl)) (isTc_tk x4 hT) e1 e2 ⟨fun _ => 0, 0, fun k hk => ⟨q3 k hk, show (0 : Nat) < 2 ^ 10 from by decide⟩, ⟨e5, by decide⟩, fun c => by
    rw [Nat.zero_testBit]
    exact ⟨fun z => absurd z (by decide), fun ⟨i, x, z, _⟩ => by omega⟩, fun k hk c => by
    dsimp only
    rw [Nat.zero_testBit]
    exact ⟨fun z => absurd z (by decide), fun ⟨i, x, z, _⟩ => by omega⟩⟩
  unfold cp_take
  rw [jl_eq, r1, jb1_some, T1.1, r3, jg_pos ⟨⟨by omega, by omega⟩, by omega, by omega⟩, hdiv, jl_eq, jl_eq, jl_eq, jl_eq, ← hg3, show cp_take_l77 (D : Int) fz 0 g3 = some g4 from q1, jb1_some, show cp_take_l102 (D : Int) fz 0 g4 = some g5 from p1, jb1_some]
  exact ⟨g5, rfl, exc_tr x4 (tk_tc p2), by rw [p2.1 25 1 rfl, e1], by rw [p2.1 25 2 rfl, e2], by rw [p2.1 25 3 rfl, e3], by rw [p2.1 25 4 rfl, e4], p3⟩
-- the reference
theorem ct_or1 (K c : Nat) : ∀ n, ct (K ||| 2 ^ c).testBit n = ct K.testBit n + (if c < n ∧ K.testBit c = false then 1 else 0)
  | 0 => by
    rw [if_neg (by omega)]
    rfl
  | n + 1 => by
    have ih := ct_or1 K c n
    rw [ct_succ, ct_succ, ih, Nat.testBit_or, Nat.testBit_two_pow]
    by_cases z : c = n
    · subst z
      rw [decide_eq_true rfl, Bool.or_true, if_neg (show ¬ (c < c ∧ K.testBit c = false) by omega)]
      cases q : K.testBit c with
      | false => simp
      | true => simp
    · rw [decide_eq_false z, Bool.or_false]
      by_cases z2 : c < n ∧ K.testBit c = false
      · have A : (if c < n ∧ K.testBit c = false then (1 : Nat) else 0) = 1 := if_pos z2
        have B : (if c < n + 1 ∧ K.testBit c = false then (1 : Nat) else 0) = 1 := if_pos ⟨by omega, z2.2⟩
        rw [A, B]
        omega
      · have A : (if c < n ∧ K.testBit c = false then (1 : Nat) else 0) = 0 := if_neg z2
        have B : (if c < n + 1 ∧ K.testBit c = false then (1 : Nat) else 0) = 0 := if_neg (fun y => z2 ⟨by omega, y.2⟩)
        rw [A, B]
        omega
def W_88 (a k : Nat) : Bool := a == 88
def isRf (col : Nat → Nat → Int) (g : gm_T) (K : Nat) (Q : Nat → Nat → Prop) : Prop := K < 2 ^ 10 ∧ (∀ c : Nat, K.testBit c = true ↔ ∃ y x, Q y x ∧ col y x = (c : Int)) ∧ ∀ y x, Q y x → gm_I g 88 (16 * y + x) = col y x
theorem isRf_cong {col : Nat → Nat → Int} {g : gm_T} {K : Nat} {Q Q' : Nat → Nat → Prop} (e : ∀ i x, Q i x ↔ Q' i x) (h : isRf col g K Q) : isRf col g K Q' := by
  have : Q = Q' := funext fun i => funext fun x => propext (e i x)
  rw [← this]
  exact h
theorem ref_row {col : Nat → Nat → Int} {W H y : Nat} (hW : W ≤ 16) (hH : H ≤ 16) (hy : y < H) (hcol : ∀ x, x < W → col y x = -1 ∨ ∃ c : Nat, c < 10 ∧ col y x = (c : Int)) : ∀ (d x fuel K : Nat) (g : gm_T), x + d = W → d < fuel → gm_I g 44 59 = (W : Int) → gm_I g 44 60 = (H : Int) → (∀ x, x < W → gm_I g 89 (16 * (H - 1 - y) + x) = col y x) → isRf col g K (fun y' x' => (y' < y ∧ x' < W) ∨ (y' = y ∧ x' < x)) → ∃ (K2 : Nat) (g2 : gm_T), md_photograph_l114 (y : Int) fuel ((ct K.testBit 31 : Nat) : Int) (K : Int) (x : Int) g = some (((ct K2.testBit 31 : Nat) : Int), (K2 : Int), g2) ∧ exc W_88 nob g g2 ∧ isRf col g2 K2 (fun y' x' => y' < y + 1 ∧ x' < W) := by
  intro d
  induction d with
  | zero =>
    intro x fuel K g hd hf h1 h2 h89 hP
    obtain ⟨f, rfl⟩ : ∃ f, fuel = f + 1 := ⟨fuel - 1, by omega⟩
    unfold md_photograph_l114
    rw [h1, jg_pos ⟨rgn (by omega), rgn (by omega)⟩, if_neg (by omega)]
    exact ⟨K, g, rfl, exc_rf, isRf_cong (fun i' x' => by omega) hP⟩
  | succ d ih =>
    intro x fuel K g hd hf h1 h2 h89 hP
    obtain ⟨f, rfl⟩ : ∃ f, fuel = f + 1 := ⟨fuel - 1, by omega⟩
    have hx : x < W := by omega
    have e89 : ((16 * (((H : Int) - 1) - (y : Int))) + (x : Int)).toNat = 16 * (H - 1 - y) + x := by omega
    have e88 : ((16 * (y : Int)) + (x : Int)).toNat = 16 * y + x := by omega
    obtain ⟨p1, p2, p3⟩ := hP
    have o : ∀ K2 : Nat, K2 < 2 ^ 10 → (∀ c : Nat, K2.testBit c = true ↔ (K.testBit c = true ∨ col y x = (c : Int))) → ∃ (K3 : Nat) (g2 : gm_T), md_photograph_l114 (y : Int) f ((ct K2.testBit 31 : Nat) : Int) (K2 : Int) ((x : Int) + 1) (gm_wI g 88 (16 * y + x) (col y x)) = some (((ct K3.testBit 31 : Nat) : Int), (K3 : Int), g2) ∧ exc W_88 nob g g2 ∧ isRf col g2 K3 (fun y' x' => y' < y + 1 ∧ x' < W) := fun K2 k1 k2 => by
      obtain ⟨K3, g3, q1, q2, q3⟩ := ih (x + 1) f K2 (gm_wI g 88 (16 * y + x) (col y x)) (by omega) (by omega) (by rw [gI_oth (by decide)]; exact h1) (by rw [gI_oth (by decide)]; exact h2) (fun x' hx' => by rw [gI_oth (by decide)]; exact h89 x' hx') ⟨k1, fun c => by
        rw [k2 c, p2 c]
        constructor
        · rintro (⟨y', x', s1, s2⟩ | s)
          · exact ⟨y', x', by omega, s2⟩
          · exact ⟨y, x, by omega, s⟩
        · rintro ⟨y', x', s1, s2⟩
          by_cases z : y' = y ∧ x' = x
          · rw [z.1, z.2] at s2
            exact Or.inr s2
          · exact Or.inl ⟨y', x', by omega, s2⟩, fun y' x' s => by
        by_cases z : y' = y ∧ x' = x
        · rw [z.1, z.2, gI_eq]
        · rw [gI_ne (by omega)]
          exact p3 y' x' (by omega)⟩
      exact ⟨K3, g3, q1, exc_tr (exc_wI exc_rf rfl) q2, q3⟩
    unfold md_photograph_l114
    rw [h1, h2, jg_pos ⟨rgn (by omega), rgn (by omega)⟩, if_pos (by omega), jg_pos (by omega), e89, h89 x hx, jl_eq, jg_pos (by omega), e88, jl_eq]
    rcases hcol x hx with z | ⟨c, c1, c2⟩
    · have n1 := o K p1 (fun c => by
        rw [z]
        exact ⟨Or.inl, fun q => q.resolve_right (by omega)⟩)
      rw [z] at n1 ⊢
      rw [jg_pos (rgk rfl), if_pos rfl, jb1_some, jl_eq, jg_pos (rgk rfl), if_pos rfl, jl_eq, Int.add_zero, show zO (K : Int) 0 = (K : Int) from (zO_n (b := 0) (Nat.lt_trans p1 (by decide)) (by decide)).trans (by rw [Nat.or_zero])]
      exact n1
    · have hp : 2 ^ c < 2 ^ 10 := Nat.pow_lt_pow_right (by decide) c1
      have n1 := o (K ||| 2 ^ c) (Nat.or_lt_two_pow p1 hp) (fun c' => by
        rw [Nat.testBit_or, Nat.testBit_two_pow, Bool.or_eq_true, decide_eq_true_eq, c2]
        exact or_congr Iff.rfl ⟨fun z => (by omega), fun z => (by omega)⟩)
      rw [ct_or1, c2] at n1
      rw [c2, jg_pos (rgn (by omega)), if_neg (by omega), zbit (Nat.lt_trans p1 (by decide)) (by omega)]
      cases q : K.testBit c with
      | false =>
        rw [if_pos ⟨by omega, q⟩] at n1
        simp only [Bool.false_eq_true, if_false, if_true]
        rw [jb1_some, jl_eq, jg_pos (rgn (by omega)), if_neg (by omega), zSl_1 (by omega), zO_n (Nat.lt_trans p1 (by decide)) (Nat.lt_trans hp (by decide)), jl_eq]
        exact n1
      | true =>
        rw [if_neg (fun z => by
          rw [q] at z
          exact absurd z.2 (by decide))] at n1
        simp only [if_true]
        rw [if_neg n10, jb1_some, jl_eq, jg_pos (rgn (by omega)), if_neg (by omega), zSl_1 (by omega), zO_n (Nat.lt_trans p1 (by decide)) (Nat.lt_trans hp (by decide)), jl_eq]
        exact n1
theorem ref_rows {col : Nat → Nat → Int} {W H : Nat} (hW : W ≤ 16) (hH : H ≤ 16) (hcol : ∀ y x, y < H → x < W → col y x = -1 ∨ ∃ c : Nat, c < 10 ∧ col y x = (c : Int)) : ∀ (d y fuel K : Nat) (g : gm_T), y + d = H → d < fuel → gm_I g 44 59 = (W : Int) → gm_I g 44 60 = (H : Int) → (∀ y x, y < H → x < W → gm_I g 89 (16 * (H - 1 - y) + x) = col y x) → isRf col g K (fun y' x' => y' < y ∧ x' < W) → ∃ (K2 : Nat) (g2 : gm_T), md_photograph_l102 fuel ((ct K.testBit 31 : Nat) : Int) (K : Int) (y : Int) g = some (((ct K2.testBit 31 : Nat) : Int), g2) ∧ exc W_88 nob g g2 ∧ isRf col g2 K2 (fun y' x' => y' < H ∧ x' < W) := by
  intro d
  induction d with
  | zero =>
    intro y fuel K g hd hf h1 h2 h89 hP
    obtain ⟨f, rfl⟩ : ∃ f, fuel = f + 1 := ⟨fuel - 1, by omega⟩
    have hk : y = H := by omega
    unfold md_photograph_l102
    rw [h2, jg_pos ⟨rgn (by omega), rgn (by omega)⟩, if_neg (by omega)]
    rw [hk] at hP
    exact ⟨K, g, rfl, exc_rf, hP⟩
  | succ d ih =>
    intro y fuel K g hd hf h1 h2 h89 hP
    obtain ⟨f, rfl⟩ : ∃ f, fuel = f + 1 := ⟨fuel - 1, by omega⟩
    obtain ⟨K1, g1, r1, r2, r3⟩ := ref_row hW hH (y := y) (by omega) (fun x hx => hcol y x (by omega) hx) W 0 fz K g (by omega) (Nat.lt_of_le_of_lt (show W ≤ 300 by omega) (fz_gt rfl)) h1 h2 (fun x hx => h89 y x (by omega) hx) (isRf_cong (fun i' x' => by omega) hP)
    obtain ⟨K2, g2, q1, q2, q3⟩ := ih (y + 1) f K1 g1 (by omega) (by omega) (by rw [r2.1 44 59 rfl]; exact h1) (by rw [r2.1 44 60 rfl]; exact h2) (fun y x hy hx => by rw [r2.1 89 _ rfl]; exact h89 y x hy hx) r3
    unfold md_photograph_l102
    rw [h2, jg_pos ⟨rgn (by omega), rgn (by omega)⟩, if_pos (by omega), show md_photograph_l114 (y : Int) fz ((ct K.testBit 31 : Nat) : Int) (K : Int) 0 g = _ from r1, jb3_some]
    exact ⟨K2, g2, q1, exc_tr r2 q2, q3⟩
