/-! Edges that fit: turnFor and fitting of the class, the reference's table; score, turned. -/
theorem ite_dup {α : Type} {A B : Prop} [i1 : Decidable A] [i2 : Decidable B] {x R : α} : (if A then (if B then x else R) else R) = if A ∧ B then x else R := by
  by_cases h : A
  · by_cases h2 : B
    · rw [if_pos h, if_pos h2, if_pos ⟨h, h2⟩]
    · rw [if_pos h, if_neg h2, if_neg (fun q => h2 q.2)]
  · rw [if_neg h, if_neg (fun q => h q.1)]
def mE (g : gm_T) (b : Nat) : Int := gm_I g 46 b
def nx (g : gm_T) (b k : Nat) : Nat := if ((k : Int) + 1 < mE g b) then k + 1 else 0
def mX (g : gm_T) (b k : Nat) : Int := gm_I g 47 (8 * b + k)
def mY (g : gm_T) (b k : Nat) : Int := gm_I g 48 (8 * b + k)
def wX (g : gm_T) (b k : Nat) : Int := mX g b (nx g b k) - mX g b k
def wY (g : gm_T) (b k : Nat) : Int := mY g b (nx g b k) - mY g b k
/-- the turn by which the edge l of b goes the way of a's edge k backward, or -1 -/
def tf (g : gm_T) (a k b l : Nat) : Int := if wX g b l = -wX g a k ∧ wY g b l = -wY g a k then 0 else if -wY g b l = -wX g a k ∧ wX g b l = -wY g a k then 1 else if -wX g b l = -wX g a k ∧ -wY g b l = -wY g a k then 2 else if wY g b l = -wX g a k ∧ -wX g b l = -wY g a k then 3 else -1
def tn (g : gm_T) (a k b l : Nat) : Int := if gm_I g 56 a = gm_I g 56 b then tf g a k b l else -1
def fX (g : gm_T) (a k b l : Nat) : Int := mX g a (nx g a k) - tX (tn g a k b l) (mX g b l) (mY g b l)
def fY (g : gm_T) (a k b l : Nat) : Int := mY g a (nx g a k) - tY (tn g a k b l) (mX g b l) (mY g b l)
/-- the placing by a fit -/
def fpl (g : gm_T) (a k b l : Nat) : plc := (tn g a k b l, fX g a k b l, fY g a k b l)
def isF (g : gm_T) (a k b l : Nat) : Prop := a ≠ b ∧ tn g a k b l ≠ -1 ∧ ((ov g a b (tn g a k b l) (fX g a k b l) (fY g a k b l) : Nat) : Int) ≤ gm_I g 44 20
def at4 (a k b l : Nat) : Nat := 240 * (8 * a + k) + 8 * b + l
def V_tab (n : Nat) (g : gm_T) : Prop := ∀ a b k l : Nat, a < n → b < n → a ≠ b → (k : Int) < mE g a → (l : Int) < mE g b → gm_I g 63 (at4 a k b l) = tn g a k b l ∧ (tn g a k b l ≠ -1 → gm_I g 64 (at4 a k b l) = ((ov g a b (tn g a k b l) (fX g a k b l) (fY g a k b l) : Nat) : Int))
theorem tf_in (g : gm_T) (a k b l : Nat) : -1 ≤ tf g a k b l ∧ tf g a k b l ≤ 3 := by
  unfold tf
  split
  · decide
  · split
    · decide
    · split
      · decide
      · split <;> decide
theorem tn_in (g : gm_T) (a k b l : Nat) : -1 ≤ tn g a k b l ∧ tn g a k b l ≤ 3 := by
  unfold tn
  split
  · exact tf_in g a k b l
  · decide
theorem nx_lt {n : Nat} {g : gm_T} (h : V_bit n g) {b k : Nat} (hb : b < n) (hk : (k : Int) < mE g b) : ((nx g b k : Nat) : Int) < mE g b ∧ nx g b k < 8 := by
  obtain ⟨⟨-, c2, c3⟩, -⟩ := h b hb
  unfold nx mE at *
  split <;> omega
theorem xy_in {n : Nat} {g : gm_T} (h : V_bit n g) {b k : Nat} (hb : b < n) (hk : (k : Int) < mE g b) : (-20 ≤ mX g b k ∧ mX g b k ≤ 20) ∧ (-20 ≤ mY g b k ∧ mY g b k ≤ 20) ∧ gm_I g (bA b + 2) k = mX g b k ∧ gm_I g (bA b + 3) k = mY g b k := by
  obtain ⟨-, c4, -⟩ := h b hb
  obtain ⟨⟨d1, d2⟩, ⟨d3, d4⟩, -⟩ := c4 k hk
  exact ⟨d2, d4, d1, d3⟩
theorem cb_next_eq {n : Nat} {g : gm_T} (h : V_bit n g) {b k : Nat} (hb : b < n) (hk : (k : Int) < mE g b) : cb_next g b (k : Int) = some ((nx g b k : Nat) : Int) := by
  obtain ⟨⟨c1, c2, c3⟩, -⟩ := h b hb
  unfold cb_next nx mE at *
  rw [c1, jg_pos (show rg ((k : Int) + 1) ∧ rg (gm_I g 46 b) from ⟨⟨by omega, by omega⟩, by omega, by omega⟩)]
  by_cases hq : (k : Int) + 1 < gm_I g 46 b
  · rw [if_pos hq, if_pos hq]
    rfl
  · rw [if_neg hq, if_neg hq]
    rfl
theorem cb_turnFor_eq {n : Nat} {g : gm_T} (h : V_bit n g) {a b k l : Nat} (ha : a < n) (hb : b < n) (hk : (k : Int) < mE g a) (hl : (l : Int) < mE g b) : cb_turnFor g a (k : Int) b (l : Int) = some (tf g a k b l) := by
  obtain ⟨n1, n2⟩ := nx_lt h ha hk
  obtain ⟨m1, m2⟩ := nx_lt h hb hl
  obtain ⟨x1, y1, e1, f1⟩ := xy_in h ha hk
  obtain ⟨x2, y2, e2, f2⟩ := xy_in h ha n1
  obtain ⟨x3, y3, e3, f3⟩ := xy_in h hb hl
  obtain ⟨x4, y4, e4, f4⟩ := xy_in h hb m1
  have k8 : k < 8 := by have := (h a ha).1.2.2; unfold mE at hk; omega
  have l8 : l < 8 := by have := (h b hb).1.2.2; unfold mE at hl; omega
  unfold cb_turnFor
  rw [cb_next_eq h ha hk, jb1_some, cb_next_eq h hb hl, jb1_some, jg_pos (by omega), jg_pos (by omega)]
  simp only [Int.toNat_natCast, e1, e2, e3, e4, f1, f2, f3, f4]
  rw [jl_eq, jl_eq, jg_pos (by omega), jg_pos (by omega), jl_eq, jl_eq]
  unfold tf wX wY
  rw [show -(mX g a (nx g a k) - mX g a k) = mX g a k - mX g a (nx g a k) by omega, show -(mY g a (nx g a k) - mY g a k) = mY g a k - mY g a (nx g a k) by omega]
  generalize hv9 : mX g b (nx g b l) - mX g b l = v9
  generalize hv10 : mY g b (nx g b l) - mY g b l = v10
  generalize hv5 : mX g a k - mX g a (nx g a k) = v5
  generalize hv6 : mY g a k - mY g a (nx g a k) = v6
  have r1 : rg v9 ∧ rg v5 := ⟨⟨by omega, by omega⟩, by omega, by omega⟩
  have r2 : rg v10 ∧ rg v6 := ⟨⟨by omega, by omega⟩, by omega, by omega⟩
  have r3 : rg (-v10) := ⟨by omega, by omega⟩
  have r4 : rg (-v9) := ⟨by omega, by omega⟩
  simp only [jg_pos r1, jg_pos r2, jg_pos r3, jg_pos r4, jg_pos r2.1, jg_pos r2.2, ite_dup, ite_some2]
theorem s2_le {f : Int → Int → Nat} (h : ∀ x y, f x y ≤ 1) : s2 f ≤ 1600 := by
  have sb : ∀ (f : Nat → Nat) (c : Nat), (∀ i, f i ≤ c) → ∀ n, sm f n ≤ n * c := by
    intro f c hf n
    induction n with
    | zero => exact Nat.le_of_eq (Nat.zero_mul c).symm
    | succ n ih =>
      rw [sm_succ, Nat.succ_mul]
      have := hf n
      omega
  unfold s2
  exact sb _ 40 (fun v => sb _ 1 (fun u => h _ _) 40) 40
theorem ov_le (g : gm_T) (a b : Nat) (t x y : Int) : ov g a b t x y ≤ 1600 := by
  unfold ov
  exact s2_le fun p q => by
    split
    · split <;> decide
    · decide
theorem fxy_in {n : Nat} {g : gm_T} (h : V_bit n g) {a b k l : Nat} (ha : a < n) (hb : b < n) (hk : (k : Int) < mE g a) (hl : (l : Int) < mE g b) : (-40 ≤ fX g a k b l ∧ fX g a k b l ≤ 40) ∧ -40 ≤ fY g a k b l ∧ fY g a k b l ≤ 40 := by
  obtain ⟨n1, n2⟩ := nx_lt h ha hk
  obtain ⟨x2, y2, -, -⟩ := xy_in h ha n1
  obtain ⟨x3, y3, -, -⟩ := xy_in h hb hl
  have ht := tn_in g a k b l
  unfold fX fY tX tY
  refine ⟨?_, ?_⟩
  · split
    · omega
    · split
      · omega
      · split <;> omega
  · split
    · omega
    · split
      · omega
      · split <;> omega
/-- the long that the class's fitting gives -/
noncomputable def fit64 (g : gm_T) (a k b l : Nat) : Int64 := @ite _ (isF g a k b l) (gd _) (pp (fpl g a k b l)) (-1)
theorem cf_fitting_eq {n : Nat} {g : gm_T} (h30 : n ≤ 30) (h : V_bit n g) (hc : V_cell n g) (ht : V_tol g) {a b k l : Nat} (ha : a < n) (hb : b < n) (hk : (k : Int) < mE g a) (hl : (l : Int) < mE g b) : cf_fitting n g (a : Int) (k : Int) (b : Int) (l : Int) = some (fit64 g a k b l) := by
  obtain ⟨n1, n2⟩ := nx_lt h ha hk
  obtain ⟨x2, y2, e2, f2⟩ := xy_in h ha n1
  obtain ⟨x3, y3, e3, f3⟩ := xy_in h hb hl
  have l8 : l < 8 := by have := (h b hb).1.2.2; unfold mE at hl; omega
  obtain ⟨-, -, -, -, -, -, ⟨p1, p2, p3⟩, -⟩ := h a ha
  obtain ⟨-, -, -, -, -, -, ⟨q1, q2, q3⟩, -⟩ := h b hb
  have hti := tn_in g a k b l
  have D : (jg (rg (a : Int) ∧ rg (b : Int)) (if (a : Int) = (b : Int) then some (-1) else jg (rg (gm_I g (bA (a : Int).toNat) 2) ∧ rg (gm_I g (bA (b : Int).toNat) 2)) (if gm_I g (bA (a : Int).toNat) 2 = gm_I g (bA (b : Int).toNat) 2 then jb1 (cb_turnFor g (a : Int).toNat (k : Int) (b : Int).toNat (l : Int)) fun (v6 : Int) => some v6 else some (-1)))) = some (if a = b then -1 else tn g a k b l) := by
    rw [jg_pos ⟨⟨by omega, by omega⟩, by omega, by omega⟩, Int.toNat_natCast, Int.toNat_natCast, p1, q1, jg_pos ⟨⟨by omega, by omega⟩, by omega, by omega⟩, cb_turnFor_eq h ha hb hk hl, jb1_some]
    unfold tn
    by_cases hab : a = b
    · rw [if_pos (by omega), if_pos hab]
    · rw [if_neg (by omega), if_neg hab]
      split <;> rfl
  unfold cf_fitting
  rw [jg_pos (by omega), jg_pos (by omega), D, jb1_some]
  unfold fit64
  by_cases hab : a = b
  · rw [if_pos hab, jg_pos (rgk rfl), if_pos (by decide), @if_neg _ (gd _) (fun q => q.1 hab)]
  · rw [if_neg hab, jg_pos ⟨by omega, by omega⟩]
    by_cases hm : tn g a k b l = -1
    · rw [if_pos (by omega), @if_neg _ (gd _) (fun q => q.2.1 hm)]
    · have ht3 : 0 ≤ tn g a k b l ∧ tn g a k b l ≤ 3 := by omega
      obtain ⟨g1, g2⟩ := fxy_in h ha hb hk hl
      rw [if_neg (by omega), Int.toNat_natCast, cb_next_eq h ha hk, jb1_some, jg_pos (by omega), jg_pos (by omega)]
      simp only [Int.toNat_natCast, e2, e3, f2, f3]
      rw [cc_turnedX_eq ⟨ht3.1, by omega⟩, jb1_some, jl_eq, cc_turnedY_eq ⟨ht3.1, by omega⟩, jb1_some, jl_eq, show tn g a k b l % 4 = tn g a k b l by omega]
      rw [show mX g a (nx g a k) - tX (tn g a k b l) (mX g b l) (mY g b l) = fX g a k b l from rfl, show mY g a (nx g a k) - tY (tn g a k b l) (mX g b l) (mY g b l) = fY g a k b l from rfl]
      rw [cb_common_eq hc ha hb ⟨by omega, by omega⟩ ht3 ⟨by omega, by omega⟩ ⟨by omega, by omega⟩, ov_common g a b ht3, jb1_some]
      have hov := ov_le g a b (tn g a k b l) (fX g a k b l) (fY g a k b l)
      obtain ⟨w1, w2, w3⟩ := ht
      rw [w1, jg_pos ⟨⟨by omega, by omega⟩, by omega, by omega⟩, cc_of_eq ⟨ht3.1, by omega⟩ ⟨by omega, by omega⟩ ⟨by omega, by omega⟩, jb1_some, show tn g a k b l % 4 = tn g a k b l by omega]
      by_cases hq : ((ov g a b (tn g a k b l) (fX g a k b l) (fY g a k b l) : Nat) : Int) ≤ gm_I g 44 20
      · rw [if_pos hq, @if_pos _ (gd _) ⟨hab, hm, hq⟩]
        rfl
      · rw [if_neg hq, @if_neg _ (gd _) (fun q => hq q.2.2)]
theorem md_isFit_eq {n : Nat} {g : gm_T} (h30 : n ≤ 30) (h : V_bit n g) (ht : V_tol g) (htb : V_tab n g) {a b k l : Nat} (ha : a < n) (hb : b < n) (hk : (k : Int) < mE g a) (hl : (l : Int) < mE g b) : md_isFit g (a : Int) (k : Int) (b : Int) (l : Int) = some (@ite _ (isF g a k b l) (gd _) 1 0) := by
  have k8 : k < 8 := by have := (h a ha).1.2.2; unfold mE at hk; omega
  have l8 : l < 8 := by have := (h b hb).1.2.2; unfold mE at hl; omega
  have hti := tn_in g a k b l
  unfold md_isFit md_entry
  rw [jb1_some, jg_pos ⟨⟨by omega, by omega⟩, by omega, by omega⟩]
  by_cases hab : a = b
  · rw [if_pos (by omega), @if_neg _ (gd _) (fun q => q.1 hab)]
  · obtain ⟨t1, t2⟩ := htb a b k l ha hb hab hk hl
    rw [if_neg (by omega), jg_pos (by omega), show (240 * (8 * (a : Int) + (k : Int)) + 8 * (b : Int) + (l : Int)).toNat = at4 a k b l by unfold at4; omega, t1, jg_pos ⟨by omega, by omega⟩]
    by_cases hm : tn g a k b l = -1
    · rw [if_pos hm, @if_neg _ (gd _) (fun q => q.2.1 hm)]
    · have hov := ov_le g a b (tn g a k b l) (fX g a k b l) (fY g a k b l)
      obtain ⟨w1, w2, w3⟩ := ht
      rw [if_neg hm, t2 hm, jg_pos ⟨⟨by omega, by omega⟩, by omega, by omega⟩]
      by_cases hq : ((ov g a b (tn g a k b l) (fX g a k b l) (fY g a k b l) : Nat) : Int) ≤ gm_I g 44 20
      · rw [if_pos hq, @if_pos _ (gd _) ⟨hab, hm, hq⟩]
      · rw [if_neg hq, @if_neg _ (gd _) (fun q => hq q.2.2)]
-- scores
def mC (g : gm_T) (b k : Nat) : Int := gm_I g 49 (8 * b + k)
/-- the score with the turn t -/
def scv (g : gm_T) (a k b l : Nat) (t : Int) : Int := 2 * gm_I g 62 (10 * mC g a k + mC g b l).toNat + zmax 0 (9 - zabs (gm_I g 54 a - gm_I g 54 b)) + (if gm_I g 55 a < 0 ∨ gm_I g 55 b < 0 then 0 else if gm_I g 55 a = zA (gm_I g 55 b + 2 * t) 3 then 5 else 0)
theorem scv_in {n : Nat} {g : gm_T} (h : V_bit n g) (hl : V_like g) {a b k l : Nat} (ha : a < n) (hb : b < n) (hk : (k : Int) < mE g a) (hll : (l : Int) < mE g b) (t : Int) : 0 ≤ scv g a k b l t ∧ scv g a k b l t ≤ 32 := by
  obtain ⟨-, c4, -, -, ⟨-, t1, t2⟩, -⟩ := h a ha
  obtain ⟨-, d4, -, -, ⟨-, u1, u2⟩, -⟩ := h b hb
  obtain ⟨-, -, ⟨-, c5, c6⟩⟩ := c4 k hk
  obtain ⟨-, -, ⟨-, d5, d6⟩⟩ := d4 l hll
  obtain ⟨-, l1, l2⟩ := hl (10 * mC g a k + mC g b l).toNat (by unfold mC; omega)
  unfold scv
  have hz : 0 ≤ zmax 0 (9 - zabs (gm_I g 54 a - gm_I g 54 b)) ∧ zmax 0 (9 - zabs (gm_I g 54 a - gm_I g 54 b)) ≤ 9 := by
    unfold zmax zabs
    split <;> split <;> omega
  have hs : 0 ≤ (if gm_I g 55 a < 0 ∨ gm_I g 55 b < 0 then (0 : Int) else if gm_I g 55 a = zA (gm_I g 55 b + 2 * t) 3 then 5 else 0) ∧ (if gm_I g 55 a < 0 ∨ gm_I g 55 b < 0 then (0 : Int) else if gm_I g 55 a = zA (gm_I g 55 b + 2 * t) 3 then 5 else 0) ≤ 5 := by
    split
    · decide
    · split <;> decide
  omega
theorem cf_scoreOf_eq {n : Nat} {g : gm_T} (h : V_bit n g) (hl : V_like g) {a b k l : Nat} (ha : a < n) (hb : b < n) (hk : (k : Int) < mE g a) (hll : (l : Int) < mE g b) (t : Int) : cf_scoreOf n g (a : Int) (k : Int) (b : Int) (l : Int) t = some (scv g a k b l t) := by
  obtain ⟨⟨-, -, a8⟩, c4, -, -, ⟨t0, t1, t2⟩, ⟨s0, s1, s2_⟩, -⟩ := h a ha
  obtain ⟨⟨-, -, b8⟩, d4, -, -, ⟨u0, u1, u2⟩, ⟨v0, v1, v2⟩, -⟩ := h b hb
  obtain ⟨-, -, ⟨c7, c5, c6⟩⟩ := c4 k hk
  obtain ⟨-, -, ⟨d7, d5, d6⟩⟩ := d4 l hll
  unfold mE at hk hll
  obtain ⟨l0, -, -⟩ := hl (10 * mC g a k + mC g b l).toNat (by unfold mC; omega)
  unfold cf_scoreOf
  rw [jg_pos (by omega), jg_pos (by omega), jg_pos (by omega), jg_pos (by omega)]
  simp only [Int.toNat_natCast, c7, d7, t0, u0, s0, v0]
  rw [jg_pos (by omega), jl_eq, jg_pos ⟨by omega, by omega⟩]
  have hza : 0 ≤ zabs (gm_I g 54 a - gm_I g 54 b) ∧ zabs (gm_I g 54 a - gm_I g 54 b) ≤ 98 := by
    unfold zabs
    split <;> omega
  rw [jg_pos ⟨by omega, by omega⟩, jl_eq, jg_pos ⟨by omega, by omega⟩, jg_pos ⟨by omega, by omega⟩]
  unfold scv
  rw [← l0]
  unfold mC
  by_cases h1 : gm_I g 55 a < 0
  · rw [if_pos h1, if_pos (Or.inl h1), Int.add_zero]
  · rw [if_neg h1]
    by_cases h2 : gm_I g 55 b < 0
    · rw [if_pos h2, if_pos (Or.inr h2), Int.add_zero]
    · have h3 : ¬ (gm_I g 55 a < 0 ∨ gm_I g 55 b < 0) := by omega
      rw [if_neg h2, if_neg h3]
      by_cases h4 : gm_I g 55 a = zA (gm_I g 55 b + 2 * t) 3
      · rw [if_pos h4, if_pos h4]
      · rw [if_neg h4, if_neg h4, Int.add_zero]
theorem md_scoreOf_eq {n : Nat} {g : gm_T} (h30 : n ≤ 30) (h : V_bit n g) (hl : V_like g) (htb : V_tab n g) {a b k l : Nat} (ha : a < n) (hb : b < n) (hab : a ≠ b) (hk : (k : Int) < mE g a) (hll : (l : Int) < mE g b) (hm : tn g a k b l ≠ -1) : md_scoreOf g (a : Int) (k : Int) (b : Int) (l : Int) = some (scv g a k b l (tn g a k b l)) := by
  obtain ⟨⟨-, -, a8⟩, c4, -, -, ⟨t0, t1, t2⟩, ⟨s0, s1, s2_⟩, -⟩ := h a ha
  obtain ⟨⟨-, -, b8⟩, d4, -, -, ⟨u0, u1, u2⟩, ⟨v0, v1, v2⟩, -⟩ := h b hb
  obtain ⟨-, -, ⟨c7, c5, c6⟩⟩ := c4 k hk
  obtain ⟨-, -, ⟨d7, d5, d6⟩⟩ := d4 l hll
  obtain ⟨e1, -⟩ := htb a b k l ha hb hab hk hll
  have hti := tn_in g a k b l
  unfold mE at hk hll
  have D1 : (jg (rg (gm_I g 54 (a : Int).toNat) ∧ rg (gm_I g 54 (b : Int).toNat)) (if gm_I g 54 (a : Int).toNat < gm_I g 54 (b : Int).toNat then some (gm_I g 54 (b : Int).toNat - gm_I g 54 (a : Int).toNat) else some (gm_I g 54 (a : Int).toNat - gm_I g 54 (b : Int).toNat))) = some (zabs (gm_I g 54 a - gm_I g 54 b)) := by
    rw [Int.toNat_natCast, Int.toNat_natCast, jg_pos ⟨⟨by omega, by omega⟩, by omega, by omega⟩]
    unfold zabs
    by_cases q : gm_I g 54 a < gm_I g 54 b
    · rw [if_pos q, if_neg (by omega)]
      congr 1
      omega
    · rw [if_neg q, if_pos (by omega)]
  have hza : 0 ≤ zabs (gm_I g 54 a - gm_I g 54 b) ∧ zabs (gm_I g 54 a - gm_I g 54 b) ≤ 98 := by
    unfold zabs
    split <;> omega
  unfold md_scoreOf md_entry
  rw [jg_pos (by omega), jg_pos (by omega), D1, jb1_some, Int.toNat_natCast, Int.toNat_natCast]
  have hat : (240 * (8 * (a : Int) + (k : Int)) + 8 * (b : Int) + (l : Int)).toNat = at4 a k b l := by unfold at4; omega
  rw [jb1_some, jg_pos (show (0 : Int) ≤ 240 * (8 * (a : Int) + (k : Int)) + 8 * (b : Int) + (l : Int) ∧ 240 * (8 * (a : Int) + (k : Int)) + 8 * (b : Int) + (l : Int) < 57600 by omega), hat, e1]
  have D2 : (jg (rg (gm_I g 55 a)) (if gm_I g 55 a = -1 then some (0 : Int) else jg (rg (gm_I g 55 b)) (if gm_I g 55 b = -1 then some 0 else jg (0 ≤ gm_I g 55 b + 2 * tn g a k b l ∧ gm_I g 55 b + 2 * tn g a k b l ≤ 2147483647) (jg (rg ((gm_I g 55 b + 2 * tn g a k b l) % 4)) (if gm_I g 55 a = (gm_I g 55 b + 2 * tn g a k b l) % 4 then some 1 else some 0))))) = some (if gm_I g 55 a < 0 ∨ gm_I g 55 b < 0 then 0 else if gm_I g 55 a = zA (gm_I g 55 b + 2 * tn g a k b l) 3 then 1 else 0) := by
    rw [jg_pos ⟨by omega, by omega⟩, jg_pos ⟨by omega, by omega⟩]
    by_cases q1 : gm_I g 55 a = -1
    · rw [if_pos q1, if_pos (by omega)]
    · rw [if_neg q1]
      by_cases q2 : gm_I g 55 b = -1
      · rw [if_pos q2, if_pos (by omega)]
      · have q3 : ¬ (gm_I g 55 a < 0 ∨ gm_I g 55 b < 0) := by omega
        rw [if_neg q2, if_neg q3, jg_pos (by omega), jg_pos ⟨by omega, by omega⟩, zA_3 (by omega), ite_some2]
  rw [D2, jb1_some, jg_pos (by omega), jg_pos (by omega), show (8 * (a : Int) + (k : Int)).toNat = 8 * a + k by omega, show (8 * (b : Int) + (l : Int)).toNat = 8 * b + l by omega, jg_pos (by omega), jg_pos ⟨by omega, by omega⟩]
  have D3 : (if zabs (gm_I g 54 a - gm_I g 54 b) < 9 then some (9 - zabs (gm_I g 54 a - gm_I g 54 b)) else some 0) = some (zmax 0 (9 - zabs (gm_I g 54 a - gm_I g 54 b))) := by
    unfold zmax
    by_cases q : zabs (gm_I g 54 a - gm_I g 54 b) < 9
    · rw [if_pos q, if_pos (by omega)]
    · rw [if_neg q, if_neg (by omega)]
  rw [D3, jb1_some]
  unfold scv mC
  by_cases q1 : gm_I g 55 a < 0 ∨ gm_I g 55 b < 0
  · rw [if_pos q1, if_pos q1, jg_pos (rgk rfl), if_pos rfl]
  · rw [if_neg q1, if_neg q1]
    by_cases q2 : gm_I g 55 a = zA (gm_I g 55 b + 2 * tn g a k b l) 3
    · rw [if_pos q2, if_pos q2, jg_pos (rgk rfl), if_neg (by decide)]
    · rw [if_neg q2, if_neg q2, jg_pos (rgk rfl), if_pos rfl]
-- what a fitting's long says
theorem lC_neg {x : Int64} : lC x 0 < 0 ↔ x < 0 := by
  unfold lC
  rw [show ((lg_cmp x 0).toInt < 0) ↔ lg_cmp x 0 < 0 from by rw [Int32.lt_iff_toInt_lt]; rfl]
  exact lg_cmp_lt x 0
theorem pp_nneg {M : Int} {p : plc} (h : bpl M p) (hM : M ≤ 524287) : ¬ pp p < 0 := by
  have h1 := pN_lt (bpl_ok h hM)
  unfold pp pk
  rw [show (0 : Int64) = lN 0 from rfl, lN_less (by omega) (by decide)]
  omega
