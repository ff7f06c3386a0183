/-! Groups as masks: reach and regroup of the class. -/
theorem two_and {R a b : Nat} : R &&& (2 ^ a ||| 2 ^ b) = 0 ↔ R.testBit a = false ∧ R.testBit b = false := by
  constructor
  · intro h
    have h1 : (R &&& (2 ^ a ||| 2 ^ b)).testBit a = false := by rw [h]; exact Nat.zero_testBit a
    have h2 : (R &&& (2 ^ a ||| 2 ^ b)).testBit b = false := by rw [h]; exact Nat.zero_testBit b
    rw [Nat.testBit_and, Nat.testBit_or, Nat.testBit_two_pow_self] at h1 h2
    simp only [Bool.true_or, Bool.or_true, Bool.and_true] at h1 h2
    exact ⟨h1, h2⟩
  · rintro ⟨h1, h2⟩
    apply Nat.eq_of_testBit_eq
    intro i
    rw [Nat.testBit_and, Nat.testBit_or, Nat.testBit_two_pow, Nat.testBit_two_pow, Nat.zero_testBit]
    by_cases ha : a = i
    · subst ha; rw [h1]; rfl
    · by_cases hb : b = i
      · subst hb; rw [h2]; rfl
      · simp [ha, hb]
theorem or_lt30 {R a b : Nat} (hR : R < 2 ^ 30) (ha : a < 30) (hb : b < 30) : R ||| (2 ^ a ||| 2 ^ b) < 2 ^ 30 := Nat.or_lt_two_pow hR (Nat.or_lt_two_pow (Nat.pow_lt_pow_right (by decide) ha) (Nat.pow_lt_pow_right (by decide) hb))
theorem p30 {a : Nat} (ha : a < 30) : 2 ^ a < 2147483648 := Nat.lt_trans (Nat.pow_lt_pow_right (by decide) ha) (show 2 ^ 30 < 2147483648 by decide)
theorem ct_gr {R S : Nat} (hS : S < 2 ^ 30) (h : ∀ c, R.testBit c = true → S.testBit c = true) (hne : S ≠ R) : ct R.testBit 30 + 1 ≤ ct S.testBit 30 := by
  refine ct_more1 (fun i _ q => h i q) ?_
  apply Classical.byContradiction
  intro hno
  apply hne
  apply Nat.eq_of_testBit_eq
  intro i
  cases hs : S.testBit i with
  | true =>
    cases hr : R.testBit i with
    | true => rfl
    | false =>
      exfalso
      refine hno ⟨i, ?_, hs, hr⟩
      rcases Nat.lt_or_ge i 30 with q | q
      · exact q
      · rw [Nat.testBit_lt_two_pow (Nat.lt_of_lt_of_le hS (Nat.pow_le_pow_right (by decide) q))] at hs
        cases hs
  | false =>
    cases hr : R.testBit i with
    | true => rw [h i hr] at hs; cases hs
    | false => rfl
/-- the class's cells of the joins alone -/
def V_jc (n : Nat) (g : gm_T) (A B : Nat → Nat) (m : Nat) : Prop := (m ≤ 60 ∧ gm_I g 14 4 = (m : Int)) ∧ ∀ j, j < m → gm_I g 15 j = ((A j : Nat) : Int) ∧ gm_I g 17 j = ((B j : Nat) : Int) ∧ A j < n ∧ B j < n
def isMm (m T : Nat) (E : Nat → Bool) : Prop := T < 2 ^ 60 ∧ ∀ j, j < m → T.testBit j = E j
theorem V_jc_of {n : Nat} {g : gm_T} (V : V_jn n g) : V_jc n g (jA g) (jB g) (jm g) := by
  obtain ⟨m60, m1, m2⟩ := jm_60 V
  refine ⟨⟨m60, m2⟩, fun j hj => ?_⟩
  obtain ⟨⟨a1, a2, a3⟩, -, ⟨b1, b2, b3⟩, -⟩ := V.2.1 j hj
  exact ⟨by rw [a1, a2], by rw [b1, b2], a3, b3⟩
theorem cj_reach_in {n : Nat} {g : gm_T} (h30 : n ≤ 30) {A B : Nat → Nat} {m : Nat} (V : V_jc n g A B m) {T : Nat} {E : Nat → Bool} (hT : isMm m T E) {c12 c13 : Int} : ∀ (d J fuel R : Nat), J + d = m → d < fuel → R < 2 ^ 30 → ∃ S : Nat, cj_reach_l20 g (lN T) c12 c13 fuel (R : Int) (J : Int) = some (S : Int) ∧ S < 2 ^ 30 ∧ (∀ c, R.testBit c = true → S.testBit c = true) ∧ (∀ c, S.testBit c = true → ∃ b, R.testBit b = true ∧ gC (A) (B) E (m) b c) ∧ (R = 0 → S = 0) ∧ (S = R → ∀ j, J ≤ j → j < m → E j = true → (R.testBit (A j) = true ↔ R.testBit (B j) = true)) := by
  obtain ⟨⟨m60, m2⟩, hV⟩ := V
  intro d
  induction d with
  | zero =>
    intro J fuel R hd hf hR
    obtain ⟨f, rfl⟩ : ∃ f, fuel = f + 1 := ⟨fuel - 1, by omega⟩
    unfold cj_reach_l20
    rw [m2, jg_pos ⟨rgn (by omega), rgn (by omega)⟩, if_neg (by omega)]
    exact ⟨R, rfl, hR, fun _ h => h, fun c h => ⟨c, h, gC_rf c⟩, fun h => h, fun _ j h1 h2 => by omega⟩
  | succ d ih =>
    intro J fuel R hd hf hR
    obtain ⟨f, rfl⟩ : ∃ f, fuel = f + 1 := ⟨fuel - 1, by omega⟩
    obtain ⟨q15, q17, a3, b3⟩ := hV J (by omega)
    have skip : (E J = true → (R.testBit (A J) = true ↔ R.testBit (B J) = true)) → ∃ S : Nat, cj_reach_l20 g (lN T) c12 c13 f (R : Int) ((J : Int) + 1) = some (S : Int) ∧ S < 2 ^ 30 ∧ (∀ c, R.testBit c = true → S.testBit c = true) ∧ (∀ c, S.testBit c = true → ∃ b, R.testBit b = true ∧ gC (A) (B) E (m) b c) ∧ (R = 0 → S = 0) ∧ (S = R → ∀ j, J ≤ j → j < m → E j = true → (R.testBit (A j) = true ↔ R.testBit (B j) = true)) := by
      intro hq
      obtain ⟨S, s1, s2, s3, s4, s5, s6⟩ := ih (J + 1) f R (by omega) (by omega) hR
      refine ⟨S, s1, s2, s3, s4, s5, fun he j h1 h2 h3 => ?_⟩
      by_cases hj : j = J
      · rw [hj] at h3 ⊢
        exact hq h3
      · exact s6 he j (by omega) h2 h3
    unfold cj_reach_l20
    rw [m2, jg_pos ⟨rgn (by omega), rgn (by omega)⟩, if_pos (by omega), jg_pos (by omega), jl_eq, Int.toNat_natCast, q15, q17, zSl_1 (by omega), zSl_1 (by omega), zO_n (p30 (by omega)) (p30 (by omega)), isIn_eq g (Nat.lt_trans hT.1 (by decide)) (by omega), jb_tst, hT.2 J (by omega)]
    by_cases hE : E J = true
    · rw [if_pos hE, zA_n _ (by omega)]
      by_cases c1 : R &&& (2 ^ A J ||| 2 ^ B J) = 0
      · rw [if_pos (by rw [c1]; rfl)]
        rw [two_and] at c1
        exact skip (fun _ => by rw [c1.1, c1.2])
      · have hends : 2 ^ A J ||| 2 ^ B J < 2147483648 := Nat.lt_trans (Nat.or_lt_two_pow (n := 30) (Nat.pow_lt_pow_right (by decide) (by omega)) (Nat.pow_lt_pow_right (by decide) (by omega))) (by decide)
        rw [if_neg (by omega), jl_eq, zO_n (by omega) hends]
        have hbit : ∀ c, (R ||| (2 ^ A J ||| 2 ^ B J)).testBit c = true ↔ R.testBit c = true ∨ c = A J ∨ c = B J := by
          intro c
          rw [Nat.testBit_or, Nat.testBit_or, Nat.testBit_two_pow, Nat.testBit_two_pow, Bool.or_eq_true, Bool.or_eq_true, decide_eq_true_eq, decide_eq_true_eq]
          constructor
          · rintro (h | h | h)
            · exact Or.inl h
            · exact Or.inr (Or.inl h.symm)
            · exact Or.inr (Or.inr h.symm)
          · rintro (h | h | h)
            · exact Or.inl h
            · exact Or.inr (Or.inl h.symm)
            · exact Or.inr (Or.inr h.symm)
        have hone : R.testBit (A J) = true ∨ R.testBit (B J) = true := by
          rw [two_and] at c1
          cases hA : R.testBit (A J) with
          | true => exact Or.inl rfl
          | false =>
            cases hB : R.testBit (B J) with
            | true => exact Or.inr rfl
            | false => exact absurd ⟨hA, hB⟩ c1
        obtain ⟨S, s1, s2, s3, s4, s5, s6⟩ := ih (J + 1) f (R ||| (2 ^ A J ||| 2 ^ B J)) (by omega) (by omega) (or_lt30 hR (by omega) (by omega))
        have s3' : ∀ c, R.testBit c = true → S.testBit c = true := fun c h => s3 c ((hbit c).mpr (Or.inl h))
        refine ⟨S, s1, s2, s3', fun c h => ?_, fun h => ?_, fun he j h1 h2 h3 => ?_⟩
        · obtain ⟨b, h1, h2⟩ := s4 c h
          rcases (hbit b).mp h1 with h1 | h1 | h1
          · exact ⟨b, h1, h2⟩
          · subst h1
            rcases hone with hone | hone
            · exact ⟨_, hone, h2⟩
            · exact ⟨_, hone, gC_tr (gC_BA (by omega) hE (gC_rf _)) h2⟩
          · subst h1
            rcases hone with hone | hone
            · exact ⟨_, hone, gC_tr (gC_AB (by omega) hE (gC_rf _)) h2⟩
            · exact ⟨_, hone, h2⟩
        · subst h
          simp at hone
        · have hR1 : R ||| (2 ^ A J ||| 2 ^ B J) = R := by
            apply Nat.eq_of_testBit_eq
            intro i
            cases hi : R.testBit i with
            | true => exact (hbit i).mpr (Or.inl hi)
            | false =>
              cases hi2 : (R ||| (2 ^ A J ||| 2 ^ B J)).testBit i with
              | false => rfl
              | true =>
                have := s3 i hi2
                rw [he, hi] at this
                cases this
          by_cases hj : j = J
          · rw [hj]
            exact ⟨fun _ => by rw [← hR1]; exact (hbit _).mpr (Or.inr (Or.inr rfl)), fun _ => by rw [← hR1]; exact (hbit _).mpr (Or.inr (Or.inl rfl))⟩
          · rw [hR1] at s6
            exact s6 he j (by omega) h2 h3
    · rw [if_neg hE]
      exact skip (fun q => absurd q hE)
theorem cj_reach_lp {n : Nat} {g : gm_T} (h30 : n ≤ 30) {A B : Nat → Nat} {m : Nat} (V : V_jc n g A B m) {T : Nat} {E : Nat → Bool} (hT : isMm m T E) (F : Nat) : ∀ (d k fuel R : Nat), k + d = 30 → d < fuel → R < 2 ^ 30 → (∀ c, F.testBit c = true → R.testBit c = true) → (∀ c, R.testBit c = true → ∃ b, F.testBit b = true ∧ gC (A) (B) E (m) b c) → (k = 0 ∨ k + 1 ≤ ct R.testBit 30) → ∃ S : Nat, cj_reach_l6 g (lN T) fuel (R : Int) (k : Int) = some (S : Int) ∧ S < 2 ^ 30 ∧ ∀ c, S.testBit c = true ↔ ∃ b, F.testBit b = true ∧ gC (A) (B) E (m) b c := by
  obtain ⟨⟨m60, m2⟩, hV⟩ := id V
  intro d
  induction d with
  | zero =>
    intro k fuel R hd hf hR h1 h2 h3
    have := ct_le R.testBit 30
    omega
  | succ d ih =>
    intro k fuel R hd hf hR h1 h2 h3
    obtain ⟨f, rfl⟩ : ∃ f, fuel = f + 1 := ⟨fuel - 1, by omega⟩
    obtain ⟨S, s1, s2, s3, s4, s5, s6⟩ := cj_reach_in h30 V hT (c12 := (k : Int)) (c13 := (R : Int)) (m) 0 fz R (by omega) (Nat.lt_of_le_of_lt m60 (fz_gt rfl)) hR
    rw [show ((0 : Nat) : Int) = 0 from rfl] at s1
    unfold cj_reach_l6
    rw [jg_pos (rgn (by omega)), if_pos (by omega), s1, jb1_some, jg_pos ⟨⟨by omega, by omega⟩, by omega, by omega⟩]
    have hS2 : ∀ c, S.testBit c = true → ∃ b, F.testBit b = true ∧ gC (A) (B) E (m) b c := by
      intro c h
      obtain ⟨b, q1, q2⟩ := s4 c h
      obtain ⟨b2, q3, q4⟩ := h2 b q1
      exact ⟨b2, q3, gC_tr q4 q2⟩
    by_cases hq : S = R
    · rw [if_pos (by rw [hq])]
      refine ⟨S, rfl, s2, fun c => ⟨hS2 c, ?_⟩⟩
      rintro ⟨b, q1, q2⟩
      rw [hq]
      exact gC_closed (S := fun x => R.testBit x = true) (fun j hj hE => s6 hq j (Nat.zero_le _) hj hE) (h1 b q1) q2
    · rw [if_neg (by omega)]
      have hg := ct_gr s2 s3 hq
      have hp : 1 ≤ ct R.testBit 30 := by
        rcases Nat.eq_zero_or_pos R with h0 | h0
        · exact absurd (by rw [s5 h0, h0]) hq
        · obtain ⟨i, hi, -⟩ := low_bit (m := R) (by omega)
          have hi30 : i < 30 := by
            rcases Nat.lt_or_ge i 30 with q | q
            · exact q
            · rw [Nat.testBit_lt_two_pow (Nat.lt_of_lt_of_le hR (Nat.pow_le_pow_right (by decide) q))] at hi
              cases hi
          have h0 : ct (fun _ => false) 30 = 0 := ct_none (fun _ _ => rfl)
          have := ct_more1 (p := fun _ => false) (q := R.testBit) (n := 30) (fun _ _ q => by cases q) ⟨i, hi30, hi, rfl⟩
          omega
      exact ih (k + 1) f S (by omega) (by omega) s2 (fun c h => s3 c (h1 c h)) hS2 (Or.inr (by rcases h3 with h3 | h3 <;> omega))
theorem cj_reach_eq {n : Nat} {g : gm_T} (h30 : n ≤ 30) {A B : Nat → Nat} {m : Nat} (V : V_jc n g A B m) {T : Nat} {E : Nat → Bool} (hT : isMm m T E) {F : Nat} (hF : F < 2 ^ 30) : ∃ S : Nat, cj_reach g (F : Int) (lN T) = some (S : Int) ∧ S < 2 ^ 30 ∧ ∀ c, S.testBit c = true ↔ ∃ b, F.testBit b = true ∧ gC (A) (B) E (m) b c := by
  obtain ⟨S, s1, s2⟩ := cj_reach_lp h30 V hT F 30 0 fz F (by omega) (fz_gt rfl) hF (fun _ h => h) (fun c h => ⟨c, h, gC_rf c⟩) (Or.inl rfl)
  exact ⟨S, s1, s2⟩
/-- groups: the class's masks -/
def cn (g : gm_T) (b c : Nat) : Prop := gC (jA g) (jB g) (jE g) (jm g) b c
def isG (g : gm_T) (b : Nat) (M : Nat) : Prop := M < 2 ^ 30 ∧ ∀ c, M.testBit c = true ↔ cn g b c
def V_grp (n : Nat) (g : gm_T) : Prop := ∀ b, b < n → ∃ M : Nat, gm_I g 19 b = (M : Int) ∧ isG g b M
theorem V_grp_k (n : Nat) (g : gm_T) : V_grp n (keepA g) ↔ V_grp n g := Iff.rfl
theorem isM_jE {n : Nat} {g : gm_T} (V : V_jn n g) : ∃ T, gm_J g 14 5 = lN T ∧ isM g T (jE g) := by
  obtain ⟨-, -, T, t1, t2, t3⟩ := V
  refine ⟨T, t1, t2, fun j hj => ?_⟩
  rw [t3 j, decide_eq_true hj, Bool.true_and]
theorem cn_lt {n : Nat} {g : gm_T} (V : V_jn n g) {b c : Nat} (hb : b < n) (h : cn g b c) : c < n := gC_lt (jend V).1 hb h
def W_19 (a k : Nat) : Bool := a == 19
def isGm (A B : Nat → Nat) (E : Nat → Bool) (m b : Nat) (M : Nat) : Prop := M < 2 ^ 30 ∧ ∀ c, M.testBit c = true ↔ gC A B E m b c
/-- regroup: the bits of the set get their groups anew -/
theorem cj_regroup_lp {n : Nat} {g : gm_T} (h30 : n ≤ 30) {A B : Nat → Nat} {m : Nat} (V : V_jc n g A B m) {T : Nat} {E : Nat → Bool} (hT : isMm m T E) (hTg : gm_J g 14 5 = lN T) {Q : Nat} (hQ : Q < 2 ^ 30) : ∀ (d b fuel : Nat) (g1 : gm_T), b + d = 30 → d < fuel → exc W_19 nob g g1 → (∀ c, c < b → if Q.testBit c = true then ∃ M : Nat, gm_I g1 19 c = (M : Int) ∧ isGm A B E m c M else gm_I g1 19 c = gm_I g 19 c) → (∀ c, b ≤ c → gm_I g1 19 c = gm_I g 19 c) → ∃ g2, cj_regroup_l2 (Q : Int) fuel (b : Int) g1 = some g2 ∧ exc W_19 nob g g2 ∧ ∀ c, c < 30 → if Q.testBit c = true then ∃ M : Nat, gm_I g2 19 c = (M : Int) ∧ isGm A B E m c M else gm_I g2 19 c = gm_I g 19 c := by
  intro d
  induction d with
  | zero =>
    intro b fuel g1 hd hf hx h1 h2
    obtain ⟨f, rfl⟩ : ∃ f, fuel = f + 1 := ⟨fuel - 1, by omega⟩
    have hb : b = 30 := by omega
    subst hb
    unfold cj_regroup_l2
    rw [jg_pos (rgn (by omega)), if_neg (by omega)]
    exact ⟨g1, rfl, hx, h1⟩
  | succ d ih =>
    intro b fuel g1 hd hf hx h1 h2
    obtain ⟨f, rfl⟩ : ∃ f, fuel = f + 1 := ⟨fuel - 1, by omega⟩
    have V1 : V_jc n g1 A B m := by
      obtain ⟨⟨v1, v2⟩, v3⟩ := V
      refine ⟨⟨v1, by rw [hx.1 14 4 rfl]; exact v2⟩, fun j hj => ?_⟩
      rw [hx.1 15 j rfl, hx.1 17 j rfl]
      exact v3 j hj
    unfold cj_regroup_l2
    rw [jg_pos (rgn (by omega)), if_pos (by omega), zbit (by omega) (by omega)]
    by_cases hq : Q.testBit b = true
    · rw [if_pos hq, if_neg n10, zSl_1 (by omega)]
      have t1 : gm_J g1 14 5 = lN T := by rw [hx.2 14 5 rfl]; exact hTg
      obtain ⟨S, s1, s2, s3⟩ := cj_reach_eq h30 V1 hT (F := 2 ^ b) (Nat.pow_lt_pow_right (by decide) (by omega))
      rw [t1, s1, jb1_some, jg_pos (by omega), jl_eq, Int.toNat_natCast]
      refine ih (b + 1) f (gm_wI g1 19 b (S : Int)) (by omega) (by omega) (exc_wI hx rfl) (fun c hc => ?_) (fun c hc => ?_)
      · by_cases h : c = b
        · rw [h, if_pos hq, gI_eq]
          refine ⟨S, rfl, s2, fun x => ?_⟩
          rw [s3 x]
          constructor
          · rintro ⟨y, q1, q2⟩
            rw [Nat.testBit_two_pow, decide_eq_true_eq] at q1
            rw [q1]
            exact q2
          · intro q2
            exact ⟨b, Nat.testBit_two_pow_self, q2⟩
        · rw [gI_ne h]
          exact h1 c (by omega)
      · rw [gI_ne (by omega)]
        exact h2 c (by omega)
    · rw [if_neg hq, if_pos rfl]
      refine ih (b + 1) f g1 (by omega) (by omega) hx (fun c hc => ?_) (fun c hc => h2 c (by omega))
      by_cases h : c = b
      · rw [h, if_neg hq]
        exact h2 b (Nat.le_refl _)
      · exact h1 c (by omega)
theorem cj_regroup_eq {n : Nat} {g : gm_T} (h30 : n ≤ 30) {A B : Nat → Nat} {m : Nat} (V : V_jc n g A B m) {T : Nat} {E : Nat → Bool} (hT : isMm m T E) (hTg : gm_J g 14 5 = lN T) {Q : Nat} (hQ : Q < 2 ^ 30) : ∃ g2, cj_regroup g (Q : Int) = some g2 ∧ exc W_19 nob g g2 ∧ ∀ c, c < 30 → if Q.testBit c = true then ∃ M : Nat, gm_I g2 19 c = (M : Int) ∧ isGm A B E m c M else gm_I g2 19 c = gm_I g 19 c := by
  obtain ⟨g2, e1, e2, e3⟩ := cj_regroup_lp h30 V hT hTg hQ 30 0 fz g (by omega) (fz_gt rfl) exc_rf (fun c hc => by omega) (fun _ _ => rfl)
  rw [show ((0 : Nat) : Int) = 0 from rfl] at e1
  unfold cj_regroup
  rw [e1, jb1_some]
  exact ⟨g2, rfl, e2, e3⟩
