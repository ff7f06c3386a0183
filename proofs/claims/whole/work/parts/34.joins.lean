/-! The joins' cells; how far bits are: measure of the class, reckons of the reference. -/
/-- what is there for one call alone -/
def scr (a k : Nat) : Bool := (Nat.ble 3 a && Nat.ble a 9) || a == 13 || a == 20 || a == 21 || (a == 25 && (k == 6 || k == 7)) || (a == 27 && k == 7) || (Nat.ble 29 a && Nat.ble a 31) || a == 37 || a == 39 || (a == 40 && (k == 6 || k == 7 || k == 8 || k == 9)) || (Nat.ble 41 a && Nat.ble a 43) || (a == 44 && (k == 40 || k == 41 || k == 42 || k == 49 || k == 50 || k == 51 || k == 55 || k == 66 || k == 67 || k == 72 || k == 73 || k == 86)) || (Nat.ble 76 a && Nat.ble a 87) || (Nat.ble 89 a && Nat.ble a 96) || a == 101 || a == 102 || (Nat.ble 108 a && Nat.ble a 110)
def scrJ (a k : Nat) : Bool := (a == 25 && k == 8) || (a == 27 && (k == 5 || k == 6)) || a == 28
def keepA (g : gm_T) : gm_T := (fun a k => if scr a k = true then 0 else g.1 a k, fun a k => if scrJ a k = true then 0 else g.2 a k)
theorem keepA_exc {W WJ : Nat → Nat → Bool} {g g2 : gm_T} (h : exc W WJ g g2) (hw : ∀ a k, W a k = true → scr a k = true) (hj : ∀ a k, WJ a k = true → scrJ a k = true) : keepA g2 = keepA g := by
  unfold keepA
  refine Prod.ext ?_ ?_
  · funext a k
    dsimp only
    split
    · rfl
    · rename_i q
      exact h.1 a k (by
        cases hq : W a k with
        | false => rfl
        | true => exact absurd (hw a k hq) q)
  · funext a k
    dsimp only
    split
    · rfl
    · rename_i q
      exact h.2 a k (by
        cases hq : WJ a k with
        | false => rfl
        | true => exact absurd (hj a k hq) q)
theorem keepA_scr {g g2 : gm_T} (h : exc scr scrJ g g2) : keepA g2 = keepA g := keepA_exc h (fun _ _ q => q) (fun _ _ q => q)
theorem keepF_keepA (g : gm_T) : keepF (keepA g) = keepF g := by
  unfold keepF keepA
  refine Prod.ext ?_ ?_
  · funext a k
    dsimp only
    split
    · rename_i q
      split
      · rename_i q2
        exfalso
        simp only [R_fit, scr, Bool.or_eq_true, Bool.and_eq_true, beq_iff_eq, Nat.ble_eq] at q q2
        omega
      · rfl
    · rfl
  · funext a k
    dsimp only
    split
    · rename_i q
      split
      · rename_i q2
        exfalso
        simp only [scrJ, Bool.or_eq_true, Bool.and_eq_true, beq_iff_eq, Nat.ble_eq] at q q2
        omega
      · rfl
    · rfl
theorem keepF_A {g g2 : gm_T} (e : keepA g2 = keepA g) : keepF g2 = keepF g := by
  rw [← keepF_keepA g2, e, keepF_keepA]
theorem scr_list {g g2 : gm_T} (h : exc W_list nob g g2) : exc scr scrJ g g2 := exc_mono h (fun a k q => by
  simp only [W_list, Bool.or_eq_true, Bool.and_eq_true, beq_iff_eq] at q
  rcases q with ((rfl | ⟨rfl, rfl⟩) | rfl) | rfl <;> rfl) (fun _ _ q => by cases q)
/-- the joins' and the wall's cells of the class -/
def cls (a : Nat) : Bool := Nat.ble 14 a && Nat.ble a 24
def keepC (g : gm_T) : gm_T := (fun a k => if (scr a k || cls a) = true then 0 else g.1 a k, fun a k => if (scrJ a k || cls a) = true then 0 else g.2 a k)
theorem keepC_exc {W WJ : Nat → Nat → Bool} {g g2 : gm_T} (h : exc W WJ g g2) (hw : ∀ a k, W a k = true → (scr a k || cls a) = true) (hj : ∀ a k, WJ a k = true → (scrJ a k || cls a) = true) : keepC g2 = keepC g := by
  unfold keepC
  refine Prod.ext ?_ ?_
  · funext a k
    dsimp only
    split
    · rfl
    · rename_i q
      exact h.1 a k (by
        cases hq : W a k with
        | false => rfl
        | true => exact absurd (hw a k hq) q)
  · funext a k
    dsimp only
    split
    · rfl
    · rename_i q
      exact h.2 a k (by
        cases hq : WJ a k with
        | false => rfl
        | true => exact absurd (hj a k hq) q)
theorem keepC_scr {g g2 : gm_T} (h : exc scr scrJ g g2) : keepC g2 = keepC g := keepC_exc h (fun _ _ q => by rw [q]; rfl) (fun _ _ q => by rw [q]; rfl)
theorem keepC_A {g g2 : gm_T} (e : keepA g2 = keepA g) : keepC g2 = keepC g := by
  have h1 : ∀ g, keepC (keepA g) = keepC g := by
    intro g
    unfold keepC keepA
    refine Prod.ext ?_ ?_
    · funext a k
      dsimp only
      cases h : scr a k <;> cases h2 : cls a <;> rfl
    · funext a k
      dsimp only
      cases h : scrJ a k <;> cases h2 : cls a <;> rfl
  rw [← h1 g2, e, h1]
theorem keepF_keepC (g : gm_T) : keepF (keepC g) = keepF g := by
  have hc : ∀ a k, R_fit a k = true → cls a = false := by
    intro a k q
    cases h : cls a with
    | false => rfl
    | true =>
      exfalso
      simp only [R_fit, cls, Bool.or_eq_true, Bool.and_eq_true, beq_iff_eq, Nat.ble_eq] at q h
      omega
  have hk := keepF_keepA g
  have h1 : keepF (keepC g) = keepF (keepA g) := by
    unfold keepF keepC keepA
    refine Prod.ext ?_ ?_
    · funext a k
      dsimp only
      cases q : R_fit a k with
      | false => rfl
      | true => rw [hc a k q, Bool.or_false]
    · funext a k
      dsimp only
      cases q : Nat.ble 111 a with
      | false => rfl
      | true =>
        have hz : cls a = false := by
          cases h : cls a with
          | false => rfl
          | true =>
            exfalso
            simp only [cls, Bool.and_eq_true, Nat.ble_eq] at q h
            omega
        rw [hz, Bool.or_false]
  rw [h1, hk]
theorem keepF_C {g g2 : gm_T} (e : keepC g2 = keepC g) : keepF g2 = keepF g := by
  rw [← keepF_keepC g2, e, keepF_keepC]
-- the joins
def jm (g : gm_T) : Nat := (gm_I g 44 24).toNat
def jA (g : gm_T) (j : Nat) : Nat := (gm_I g 65 j).toNat
def jK (g : gm_T) (j : Nat) : Nat := (gm_I g 66 j).toNat
def jB (g : gm_T) (j : Nat) : Nat := (gm_I g 67 j).toNat
def jL (g : gm_T) (j : Nat) : Nat := (gm_I g 68 j).toNat
def jE (g : gm_T) (j : Nat) : Bool := decide (gm_I g 69 j ≠ 0)
/-- joins: the class's cells and the reference's -/
def V_jn (n : Nat) (g : gm_T) : Prop := (gm_I g 14 4 = gm_I g 44 24 ∧ 0 ≤ gm_I g 44 24 ∧ gm_I g 44 24 ≤ 60) ∧ (∀ j, j < jm g → (gm_I g 15 j = gm_I g 65 j ∧ gm_I g 65 j = ((jA g j : Nat) : Int) ∧ jA g j < n) ∧ (gm_I g 16 j = gm_I g 66 j ∧ gm_I g 66 j = ((jK g j : Nat) : Int) ∧ ((jK g j : Nat) : Int) < mE g (jA g j)) ∧ (gm_I g 17 j = gm_I g 67 j ∧ gm_I g 67 j = ((jB g j : Nat) : Int) ∧ jB g j < n) ∧ (gm_I g 18 j = gm_I g 68 j ∧ gm_I g 68 j = ((jL g j : Nat) : Int) ∧ ((jL g j : Nat) : Int) < mE g (jB g j)) ∧ (gm_I g 69 j = 0 ∨ gm_I g 69 j = 1) ∧ jA g j ≠ jB g j ∧ tn g (jA g j) (jK g j) (jB g j) (jL g j) ≠ -1) ∧ ∃ T : Nat, gm_J g 14 5 = lN T ∧ T < 2 ^ 60 ∧ ∀ j, T.testBit j = (decide (j < jm g) && jE g j)
theorem V_jn_k (n : Nat) (g : gm_T) : V_jn n (keepA g) ↔ V_jn n g := Iff.rfl
theorem jm_60 {n : Nat} {g : gm_T} (h : V_jn n g) : jm g ≤ 60 ∧ gm_I g 44 24 = ((jm g : Nat) : Int) ∧ gm_I g 14 4 = ((jm g : Nat) : Int) := by
  obtain ⟨⟨h1, h2, h3⟩, -⟩ := h
  unfold jm
  omega
/-- the reference's part of it, told in the same order -/
def V_jm (n : Nat) (g : gm_T) : Prop := (True ∧ 0 ≤ gm_I g 44 24 ∧ gm_I g 44 24 ≤ 60) ∧ (∀ j, j < jm g → (True ∧ gm_I g 65 j = ((jA g j : Nat) : Int) ∧ jA g j < n) ∧ (True ∧ gm_I g 66 j = ((jK g j : Nat) : Int) ∧ ((jK g j : Nat) : Int) < mE g (jA g j)) ∧ (True ∧ gm_I g 67 j = ((jB g j : Nat) : Int) ∧ jB g j < n) ∧ (True ∧ gm_I g 68 j = ((jL g j : Nat) : Int) ∧ ((jL g j : Nat) : Int) < mE g (jB g j)) ∧ (gm_I g 69 j = 0 ∨ gm_I g 69 j = 1) ∧ jA g j ≠ jB g j ∧ tn g (jA g j) (jK g j) (jB g j) (jL g j) ≠ -1) ∧ True
theorem V_jm_tr {n : Nat} {g g2 : gm_T} (e : keepC g2 = keepC g) (h : V_jm n g) : V_jm n g2 := by
  have h1 : V_jm n (keepC g) := h
  rw [← e] at h1
  exact h1
theorem vm {n : Nat} {g : gm_T} (h : V_jn n g) : V_jm n g := by
  obtain ⟨⟨-, h1⟩, h2, -⟩ := h
  refine ⟨⟨trivial, h1⟩, fun j hj => ?_, trivial⟩
  obtain ⟨⟨-, a⟩, ⟨-, b⟩, ⟨-, c⟩, ⟨-, d⟩, e⟩ := h2 j hj
  exact ⟨⟨trivial, a⟩, ⟨trivial, b⟩, ⟨trivial, c⟩, ⟨trivial, d⟩, e⟩
theorem jm_60m {n : Nat} {g : gm_T} (h : V_jm n g) : jm g ≤ 60 ∧ gm_I g 44 24 = ((jm g : Nat) : Int) ∧ True := by
  obtain ⟨⟨-, h2, h3⟩, -⟩ := h
  unfold jm
  exact ⟨by omega, by omega, trivial⟩
theorem jendm {n : Nat} {g : gm_T} (V : V_jm n g) : (∀ j, j < jm g → jA g j < n ∧ jB g j < n) ∧ ∀ j, j < jm g → jA g j ≠ jB g j := ⟨fun j hj => ⟨(V.2.1 j hj).1.2.2, (V.2.1 j hj).2.2.1.2.2⟩, fun j hj => (V.2.1 j hj).2.2.2.2.2.1⟩
theorem lC_0 {x y : Int64} : lC x y = 0 ↔ x = y := by
  unfold lC
  rw [show ((lg_cmp x y).toInt = 0) ↔ lg_cmp x y = 0 from by rw [← Int32.toInt_inj]; rfl]
  exact lg_cmp_eq x y
theorem isIn_eq (g : gm_T) {T j : Nat} (hT : T < 2 ^ 63) (hj : j < 64) : cj_isIn g (lN T) (j : Int) = some (if T.testBit j = true then 1 else 0) := by
  unfold cj_isIn
  rw [lSr_n hT hj, wb_a1 (Nat.lt_of_le_of_lt (Nat.div_le_self _ _) (by omega))]
  have h1 : T.testBit j = decide (T / 2 ^ j % 2 = 1) := Nat.testBit_eq_decide_div_mod_eq
  rw [h1]
  rcases Nat.mod_two_eq_zero_or_one (T / 2 ^ j) with h | h
  · rw [h, if_pos (show lC (lN 0) 0 = 0 from lC_0.mpr rfl)]
    rfl
  · rw [h, if_neg (show ¬ lC (lN 1) 0 = 0 by rw [lC_0]; decide)]
    rfl
/-- values that stand for how far -/
theorem grd_in (A B : Nat → Nat) (E : Nat → Bool) (m a r J b : Nat) : -1 ≤ grd A B E r J (gbf A B E m a r) b ∧ grd A B E r J (gbf A B E m a r) b ≤ (r : Int) + 1 := by
  rcases grd_Q (gbf_P (A := A) (B := B) (E := E) (m := m) a r) J b with ⟨d, h1, h2, -⟩ | ⟨h1, -⟩ | ⟨h1, -⟩ <;> omega
theorem wup_at (w : Nat → Int) (i : Nat) (v : Int) (k : Nat) : wup w i v k = if k = i then v else w k := rfl
theorem cj_spread_eq {g : gm_T} {a b r : Nat} (ha : a < 30) (hb : b < 30) (hr : r < 30) (h1 : rg (gm_I g 20 a)) (h2 : rg (gm_I g 20 b)) : cj_spread g (a : Int) (b : Int) (r : Int) = some (if gm_I g 20 a = (r : Int) ∧ gm_I g 20 b < 0 then gm_wI g 20 b ((r : Int) + 1) else g) := by
  unfold cj_spread
  rw [jg_pos (by omega), Int.toNat_natCast, jg_pos ⟨h1, rgn (by omega)⟩]
  by_cases c : gm_I g 20 a = (r : Int)
  · rw [if_pos c, jg_pos (by omega), Int.toNat_natCast, jg_pos h2]
    by_cases c2 : gm_I g 20 b < 0
    · rw [if_pos c2, if_pos ⟨c, c2⟩]
      rfl
    · rw [if_neg c2, if_neg (fun q => c2 q.2)]
  · rw [if_neg c, if_neg (fun q => c q.1)]
def W_20 (a k : Nat) : Bool := a == 20
def W_83 (a k : Nat) : Bool := a == 83
theorem scr_20 {g g2 : gm_T} (h : exc W_20 nob g g2) : exc scr scrJ g g2 := exc_mono h (fun a k q => by
  simp only [W_20, beq_iff_eq] at q
  subst q
  rfl) (fun _ _ q => by cases q)
theorem scr_83 {g g2 : gm_T} (h : exc W_83 nob g g2) : exc scr scrJ g g2 := exc_mono h (fun a k q => by
  simp only [W_83, beq_iff_eq] at q
  subst q
  rfl) (fun _ _ q => by cases q)
/-- a set of joins, as the class has it -/
def isM (g : gm_T) (T : Nat) (E : Nat → Bool) : Prop := T < 2 ^ 60 ∧ ∀ j, j < jm g → T.testBit j = E j
theorem cj_meas_row {n : Nat} {g : gm_T} (h30 : n ≤ 30) (V : V_jn n g) {T : Nat} {E : Nat → Bool} (hT : isM g T E) {a r : Nat} (hr : r < 30) : ∀ (d J fuel : Nat) (g1 : gm_T), J + d = jm g → d < fuel → exc W_20 nob g g1 → (∀ b, b < 30 → gm_I g1 20 b = grd (jA g) (jB g) E r J (gbf (jA g) (jB g) E (jm g) a r) b) → ∃ g2, cj_measure_l44 (lN T) (r : Int) fuel (J : Int) g1 = some g2 ∧ exc W_20 nob g g2 ∧ ∀ b, b < 30 → gm_I g2 20 b = gbf (jA g) (jB g) E (jm g) a (r + 1) b := by
  obtain ⟨m60, m1, m2⟩ := jm_60 V
  intro d
  induction d with
  | zero =>
    intro J fuel g1 hd hf he hw
    obtain ⟨f, rfl⟩ : ∃ f, fuel = f + 1 := ⟨fuel - 1, by omega⟩
    unfold cj_measure_l44
    have hJ : J = jm g := by omega
    rw [show gm_I g1 14 4 = gm_I g 14 4 from he.1 14 4 rfl, m2, jg_pos ⟨rgn (by omega), rgn (by omega)⟩, if_neg (by omega)]
    subst hJ
    exact ⟨g1, rfl, he, hw⟩
  | succ d ih =>
    intro J fuel g1 hd hf he hw
    obtain ⟨f, rfl⟩ : ∃ f, fuel = f + 1 := ⟨fuel - 1, by omega⟩
    obtain ⟨⟨a1, a2, a3⟩, -, ⟨b1, b2, b3⟩, -, -, hne, -⟩ := V.2.1 J (by omega)
    have q15 : gm_I g1 15 J = ((jA g J : Nat) : Int) := by rw [he.1 15 J rfl, a1, a2]
    have q17 : gm_I g1 17 J = ((jB g J : Nat) : Int) := by rw [he.1 17 J rfl, b1, b2]
    have wA := hw (jA g J) (by omega)
    have wB := hw (jB g J) (by omega)
    have rA := grd_in (jA g) (jB g) E (jm g) a r J (jA g J)
    have rB := grd_in (jA g) (jB g) E (jm g) a r J (jB g J)
    rw [← wA] at rA
    rw [← wB] at rB
    have step : ∀ g', exc W_20 nob g g' → (∀ b, b < 30 → gm_I g' 20 b = gst (jA g) (jB g) E r J (grd (jA g) (jB g) E r J (gbf (jA g) (jB g) E (jm g) a r)) b) → ∃ g2, cj_measure_l44 (lN T) (r : Int) f ((J : Int) + 1) g' = some g2 ∧ exc W_20 nob g g2 ∧ ∀ b, b < 30 → gm_I g2 20 b = gbf (jA g) (jB g) E (jm g) a (r + 1) b := fun g' e' h' => ih (J + 1) f g' (by omega) (by omega) e' h'
    unfold cj_measure_l44
    rw [show gm_I g1 14 4 = gm_I g 14 4 from he.1 14 4 rfl, m2, jg_pos ⟨rgn (by omega), rgn (by omega)⟩, if_pos (by omega), isIn_eq g1 (Nat.lt_trans hT.1 (by decide)) (by omega), jb_tst, hT.2 J (by omega)]
    by_cases hE : E J = true
    · rw [if_pos hE, jg_pos (by omega), Int.toNat_natCast, q15, q17, cj_spread_eq (by omega) (by omega) hr ⟨by omega, by omega⟩ ⟨by omega, by omega⟩, jb1_some]
      by_cases c1 : gm_I g1 20 (jA g J) = (r : Int) ∧ gm_I g1 20 (jB g J) < 0
      · rw [if_pos c1, gI_oth (by decide), gI_oth (by decide), q15, q17, cj_spread_eq (by omega) (by omega) hr (by rw [gI_eq]; exact ⟨by omega, by omega⟩) (by rw [gI_ne hne]; exact ⟨by omega, by omega⟩), jb1_some, if_neg (by rw [gI_eq]; omega)]
        refine step _ (exc_wI he rfl) (fun b hb => ?_)
        unfold gst
        rw [if_pos hE, if_pos (by rw [← wA, ← wB]; exact c1), wup_at]
        by_cases hbb : b = jB g J
        · rw [if_pos hbb, hbb, gI_eq]
        · rw [if_neg hbb, gI_ne hbb, hw b hb]
      · rw [if_neg c1, q15, q17, cj_spread_eq (by omega) (by omega) hr ⟨by omega, by omega⟩ ⟨by omega, by omega⟩, jb1_some]
        by_cases c2 : gm_I g1 20 (jB g J) = (r : Int) ∧ gm_I g1 20 (jA g J) < 0
        · rw [if_pos c2]
          refine step _ (exc_wI he rfl) (fun b hb => ?_)
          unfold gst
          rw [if_pos hE, if_neg (by rw [← wA, ← wB]; exact c1), if_pos (by rw [← wA, ← wB]; exact c2), wup_at]
          by_cases hbb : b = jA g J
          · rw [if_pos hbb, hbb, gI_eq]
          · rw [if_neg hbb, gI_ne hbb, hw b hb]
        · rw [if_neg c2]
          refine step _ he (fun b hb => ?_)
          unfold gst
          rw [if_pos hE, if_neg (by rw [← wA, ← wB]; exact c1), if_neg (by rw [← wA, ← wB]; exact c2)]
          exact hw b hb
    · rw [if_neg hE]
      refine step _ he (fun b hb => ?_)
      unfold gst
      rw [if_neg hE]
      exact hw b hb
theorem cj_meas_lp {n : Nat} {g : gm_T} (h30 : n ≤ 30) (V : V_jn n g) {T : Nat} {E : Nat → Bool} (hT : isM g T E) {a : Nat} : ∀ (d r fuel : Nat) (g1 : gm_T), r + d = 30 → d < fuel → exc W_20 nob g g1 → (∀ b, b < 30 → gm_I g1 20 b = gbf (jA g) (jB g) E (jm g) a r b) → ∃ g2, cj_measure_l34 (lN T) fuel (r : Int) g1 = some g2 ∧ exc W_20 nob g g2 ∧ ∀ b, b < 30 → gm_I g2 20 b = gbf (jA g) (jB g) E (jm g) a 30 b := by
  obtain ⟨m60, -⟩ := jm_60 V
  intro d
  induction d with
  | zero =>
    intro r fuel g1 hd hf he hw
    obtain ⟨f, rfl⟩ : ∃ f, fuel = f + 1 := ⟨fuel - 1, by omega⟩
    have hr : r = 30 := by omega
    subst hr
    unfold cj_measure_l34
    rw [jg_pos (rgn (by omega)), if_neg (by omega)]
    exact ⟨g1, rfl, he, hw⟩
  | succ d ih =>
    intro r fuel g1 hd hf he hw
    obtain ⟨f, rfl⟩ : ∃ f, fuel = f + 1 := ⟨fuel - 1, by omega⟩
    unfold cj_measure_l34
    obtain ⟨g2, e1, e2, e3⟩ := cj_meas_row h30 V hT (a := a) (r := r) (by omega) (jm g) 0 fz g1 (by omega) (Nat.lt_of_le_of_lt m60 (fz_gt rfl)) he hw
    rw [show ((0 : Nat) : Int) = 0 from rfl] at e1
    rw [jg_pos (rgn (by omega)), if_pos (by omega), e1, jb1_some]
    exact ih (r + 1) f g2 (by omega) (by omega) e2 e3
theorem cj_meas_0 {g : gm_T} {c1 : Int} {c2 : Int64} : ∀ (d b fuel : Nat) (g1 : gm_T), b + d = 30 → d < fuel → exc W_20 nob g g1 → (∀ c, c < b → gm_I g1 20 c = -1) → ∃ g2, cj_measure_l3 c1 c2 fuel (b : Int) g1 = some g2 ∧ exc W_20 nob g g2 ∧ ∀ c, c < 30 → gm_I g2 20 c = -1 := by
  intro d
  induction d with
  | zero =>
    intro b fuel g1 hd hf he hw
    obtain ⟨f, rfl⟩ : ∃ f, fuel = f + 1 := ⟨fuel - 1, by omega⟩
    have hr : b = 30 := by omega
    subst hr
    unfold cj_measure_l3
    rw [jg_pos (rgn (by omega)), if_neg (by omega)]
    exact ⟨g1, rfl, he, hw⟩
  | succ d ih =>
    intro b fuel g1 hd hf he hw
    obtain ⟨f, rfl⟩ : ∃ f, fuel = f + 1 := ⟨fuel - 1, by omega⟩
    unfold cj_measure_l3
    rw [jg_pos (rgn (by omega)), if_pos (by omega), jg_pos (by omega), jl_eq, Int.toNat_natCast]
    exact ih (b + 1) f (gm_wI g1 20 b (-1)) (by omega) (by omega) (exc_wI he rfl) (fun c hc => by
      by_cases h : c = b
      · rw [h, gI_eq]
      · rw [gI_ne h]
        exact hw c (by omega))
theorem cj_measure_eq {n : Nat} {g : gm_T} (h30 : n ≤ 30) (V : V_jn n g) {T : Nat} {E : Nat → Bool} (hT : isM g T E) {a : Nat} (ha : a < n) : ∃ g2, cj_measure g (a : Int) (lN T) = some g2 ∧ exc W_20 nob g g2 ∧ ∀ b, b < 30 → gm_I g2 20 b = gbf (jA g) (jB g) E (jm g) a n b := by
  obtain ⟨g1, e1, e2, e3⟩ := cj_meas_0 (g := g) (c1 := (a : Int)) (c2 := lN T) 30 0 fz g (by omega) (fz_gt rfl) exc_rf (fun c hc => by omega)
  obtain ⟨g2, f1, f2, f3⟩ := cj_meas_lp h30 V hT (a := a) 30 0 fz (gm_wI g1 20 a 0) (by omega) (fz_gt rfl) (exc_wI e2 rfl) (fun b hb => by
    show _ = if b = a then (0 : Int) else -1
    by_cases h : b = a
    · rw [if_pos h, h, gI_eq]
    · rw [if_neg h, gI_ne h]
      exact e3 b hb)
  rw [show ((0 : Nat) : Int) = 0 from rfl] at e1 f1
  unfold cj_measure
  rw [e1, jb1_some, jg_pos (by omega), jl_eq, Int.toNat_natCast, f1, jb1_some]
  refine ⟨g2, rfl, f2, fun b hb => ?_⟩
  rw [f3 b hb]
  exact gbf_more (fun j hj => ⟨(V.2.1 j hj).1.2.2, (V.2.1 j hj).2.2.1.2.2⟩) ha (by omega) (by omega) b
