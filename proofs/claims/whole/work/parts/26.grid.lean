/-! Cells, turned and shifted: sums over the grid of 40 times 40. -/
def sm (f : Nat → Nat) : Nat → Nat
  | 0 => 0
  | n + 1 => sm f n + f n
theorem sm_succ (f : Nat → Nat) (n : Nat) : sm f (n + 1) = sm f n + f n := rfl
theorem sm_cong {f h : Nat → Nat} : ∀ {n : Nat}, (∀ i, i < n → f i = h i) → sm f n = sm h n
  | 0, _ => rfl
  | n + 1, q => by rw [sm_succ, sm_succ, sm_cong (fun i hi => q i (by omega)), q n (by omega)]
theorem sm_add (f h : Nat → Nat) : ∀ n, sm (fun i => f i + h i) n = sm f n + sm h n
  | 0 => rfl
  | n + 1 => by rw [sm_succ, sm_succ, sm_succ, sm_add f h n]; omega
theorem sm_zero : ∀ n, sm (fun _ => 0) n = 0
  | 0 => rfl
  | n + 1 => by rw [sm_succ, sm_zero n]
theorem sm_none {f : Nat → Nat} {n : Nat} (h : ∀ i, i < n → f i = 0) : sm f n = 0 := by rw [sm_cong h, sm_zero]
theorem sm_swap (f : Nat → Nat → Nat) (m : Nat) : ∀ n, sm (fun i => sm (fun j => f i j) m) n = sm (fun j => sm (fun i => f i j) n) m
  | 0 => (sm_none fun _ _ => rfl).symm
  | n + 1 => by
    rw [sm_succ, sm_swap f m n, ← sm_add]
    rfl
theorem sm_one (v i : Nat) : ∀ n, sm (fun j => if j = i then v else 0) n = if i < n then v else 0
  | 0 => by rw [if_neg (by omega)]; rfl
  | n + 1 => by
    rw [sm_succ, sm_one v i n]
    by_cases h : i < n
    · rw [if_pos h, if_pos (show i < n + 1 by omega), if_neg (show ¬ n = i by omega)]
      rfl
    · by_cases h2 : n = i
      · rw [if_neg h, if_pos h2, if_pos (show i < n + 1 by omega)]
        omega
      · rw [if_neg h, if_neg h2, if_neg (show ¬ i < n + 1 by omega)]
theorem sm_split (f : Nat → Nat) (m : Nat) : ∀ n, sm f (m + n) = sm f m + sm (fun i => f (m + i)) n
  | 0 => rfl
  | n + 1 => by rw [← Nat.add_assoc, sm_succ, sm_succ, sm_split f m n]; omega
theorem sm_rev (f : Nat → Nat) : ∀ n, sm (fun i => f (n - 1 - i)) n = sm f n
  | 0 => rfl
  | n + 1 => by
    have h1 := sm_split (fun i => f (n + 1 - 1 - i)) 1 n
    rw [show 1 + n = n + 1 by omega] at h1
    rw [h1]
    have h2 : sm (fun i => f (n + 1 - 1 - (1 + i))) n = sm f n := by
      rw [← sm_rev f n]
      exact sm_cong fun i _ => by rw [show n + 1 - 1 - (1 + i) = n - 1 - i by omega]
    rw [h2, sm_succ]
    show 0 + f (n + 1 - 1 - 0) + sm f n = sm f n + f n
    rw [show n + 1 - 1 - 0 = n by omega]
    omega
theorem ct_sm (p : Nat → Bool) : ∀ n, ct p n = sm (fun i => if p i then 1 else 0) n
  | 0 => rfl
  | n + 1 => by rw [ct_succ, sm_succ, ct_sm p n]
/-- a cell by its place -20 .. 19 -/
def gq (i : Nat) : Int := (i : Int) - 20
/-- the sum over the grid -/
def s2 (f : Int → Int → Nat) : Nat := sm (fun v => sm (fun u => f (gq u) (gq v)) 40) 40
theorem s2_cong {f h : Int → Int → Nat} (q : ∀ x y, -20 ≤ x → x ≤ 19 → -20 ≤ y → y ≤ 19 → f x y = h x y) : s2 f = s2 h := sm_cong fun v hv => sm_cong fun u hu => by
  unfold gq
  exact q _ _ (by omega) (by omega) (by omega) (by omega)
theorem s2_swap (f : Int → Int → Nat) : s2 (fun x y => f y x) = s2 f := by
  unfold s2
  exact sm_swap _ _ _
theorem s2_revx (f : Int → Int → Nat) : s2 (fun x y => f (-x - 1) y) = s2 f := by
  unfold s2
  refine sm_cong fun v _ => ?_
  rw [← sm_rev (fun u => f (gq u) (gq v)) 40]
  exact sm_cong fun u hu => by
    show f (-gq u - 1) (gq v) = f (gq (40 - 1 - u)) (gq v)
    rw [show -gq u - 1 = gq (40 - 1 - u) by unfold gq; omega]
theorem s2_revy (f : Int → Int → Nat) : s2 (fun x y => f x (-y - 1)) = s2 f := by
  rw [← s2_swap (fun x y => f x (-y - 1))]
  rw [s2_revx (fun x y => f y x), s2_swap]
-- turns
def tX (t x y : Int) : Int := if t = 0 then x else if t = 1 then -y else if t = 2 then -x else y
def tY (t x y : Int) : Int := if t = 0 then y else if t = 1 then x else if t = 2 then -y else -x
def cX (t x y : Int) : Int := if t = 0 then x else if t = 1 then -y - 1 else if t = 2 then -x - 1 else y
def cY (t x y : Int) : Int := if t = 0 then y else if t = 1 then x else if t = 2 then -y - 1 else -x - 1
def ti (t : Int) : Int := if t = 0 then 0 else 4 - t
theorem t4 {t : Int} (h : 0 ≤ t ∧ t ≤ 3) : t = 0 ∨ t = 1 ∨ t = 2 ∨ t = 3 := by omega
theorem s2_turn (f : Int → Int → Nat) {t : Int} (h : 0 ≤ t ∧ t ≤ 3) : s2 (fun x y => f (cX t x y) (cY t x y)) = s2 f := by
  rcases t4 h with rfl | rfl | rfl | rfl
  · rfl
  · show s2 (fun x y => f (-y - 1) x) = s2 f
    rw [← s2_swap (fun x y => f (-y - 1) x)]
    exact s2_revx f
  · show s2 (fun x y => f (-x - 1) (-y - 1)) = s2 f
    rw [s2_revx (fun x y => f x (-y - 1)), s2_revy]
  · show s2 (fun x y => f y (-x - 1)) = s2 f
    rw [← s2_swap (fun x y => f y (-x - 1))]
    exact s2_revy f
theorem c_inv {t x y : Int} (h : 0 ≤ t ∧ t ≤ 3) : cX (ti t) (cX t x y) (cY t x y) = x ∧ cY (ti t) (cX t x y) (cY t x y) = y ∧ cX t (cX (ti t) x y) (cY (ti t) x y) = x ∧ cY t (cX (ti t) x y) (cY (ti t) x y) = y := by
  rcases t4 h with rfl | rfl | rfl | rfl <;> (unfold cX cY ti; simp; try omega)
theorem c_in {t x y : Int} (h : 0 ≤ t ∧ t ≤ 3) (hx : -20 ≤ x ∧ x ≤ 19) (hy : -20 ≤ y ∧ y ≤ 19) : (-20 ≤ cX t x y ∧ cX t x y ≤ 19) ∧ -20 ≤ cY t x y ∧ cY t x y ≤ 19 := by
  rcases t4 h with rfl | rfl | rfl | rfl <;> (unfold cX cY; simp; omega)
theorem c_out {t x y : Int} (h : 0 ≤ t ∧ t ≤ 3) (hx : (-20 ≤ cX t x y ∧ cX t x y ≤ 19) ∧ -20 ≤ cY t x y ∧ cY t x y ≤ 19) : (-20 ≤ x ∧ x ≤ 19) ∧ -20 ≤ y ∧ y ≤ 19 := by
  rcases t4 h with rfl | rfl | rfl | rfl <;> (unfold cX cY at hx; simp at hx; omega)
-- shifts
theorem sm_shift {f h : Int → Bool} (hf : ∀ x, (x < -20 ∨ 19 < x) → f x = false) (hh : ∀ x, (x < -20 ∨ 19 < x) → h x = false) (d : Int) : sm (fun i => if (f (gq i) && h (gq i + d)) = true then 1 else 0) 40 = sm (fun i => if (f (gq i - d) && h (gq i)) = true then 1 else 0) 40 := by
  have e1 : sm (fun i => if (f (gq i) && h (gq i + d)) = true then 1 else 0) 40 = sm (fun i => sm (fun j => if (f (gq i) && h (gq j) && decide (gq j = gq i + d)) = true then 1 else 0) 40) 40 := by
    refine sm_cong fun i hi => ?_
    by_cases hr : -20 ≤ gq i + d ∧ gq i + d ≤ 19
    · have e2 : ∀ j, j < 40 → (if (f (gq i) && h (gq j) && decide (gq j = gq i + d)) = true then 1 else 0) = if j = (gq i + d + 20).toNat then (if (f (gq i) && h (gq i + d)) = true then 1 else 0) else 0 := by
        intro j hj
        by_cases hj2 : gq j = gq i + d
        · rw [if_pos (show j = (gq i + d + 20).toNat by unfold gq at *; omega), hj2]
          simp
        · rw [if_neg (show ¬ j = (gq i + d + 20).toNat by unfold gq at *; omega)]
          simp [hj2]
      rw [sm_cong e2, sm_one, if_pos (show (gq i + d + 20).toNat < 40 by omega)]
    · rw [hh _ (by omega), Bool.and_false]
      refine (sm_none fun j hj => ?_).symm
      rw [if_neg]
      intro q
      simp only [Bool.and_eq_true, decide_eq_true_eq] at q
      have : -20 ≤ gq j ∧ gq j ≤ 19 := by unfold gq; omega
      omega
  have e3 : sm (fun j => if (f (gq j - d) && h (gq j)) = true then 1 else 0) 40 = sm (fun j => sm (fun i => if (f (gq i) && h (gq j) && decide (gq j = gq i + d)) = true then 1 else 0) 40) 40 := by
    refine sm_cong fun j hj => ?_
    by_cases hr : -20 ≤ gq j - d ∧ gq j - d ≤ 19
    · have e2 : ∀ i, i < 40 → (if (f (gq i) && h (gq j) && decide (gq j = gq i + d)) = true then 1 else 0) = if i = (gq j - d + 20).toNat then (if (f (gq j - d) && h (gq j)) = true then 1 else 0) else 0 := by
        intro i hi
        by_cases hj2 : gq j = gq i + d
        · rw [if_pos (show i = (gq j - d + 20).toNat by unfold gq at *; omega), show gq j - d = gq i by omega]
          simp [hj2]
        · rw [if_neg (show ¬ i = (gq j - d + 20).toNat by unfold gq at *; omega)]
          simp [hj2]
      rw [sm_cong e2, sm_one, if_pos (show (gq j - d + 20).toNat < 40 by omega)]
    · rw [hf _ (by omega), Bool.false_and]
      refine (sm_none fun i hi => ?_).symm
      rw [if_neg]
      intro q
      simp only [Bool.and_eq_true, decide_eq_true_eq] at q
      have : -20 ≤ gq i ∧ gq i ≤ 19 := by unfold gq; omega
      omega
  rw [e1, e3, sm_swap]
/-- a set of cells lies in the grid -/
def ing (F : Int → Int → Bool) : Prop := ∀ x y, F x y = true → (-20 ≤ x ∧ x ≤ 19) ∧ -20 ≤ y ∧ y ≤ 19
theorem ing_no {F : Int → Int → Bool} (h : ing F) {x y : Int} (q : ¬ ((-20 ≤ x ∧ x ≤ 19) ∧ -20 ≤ y ∧ y ≤ 19)) : F x y = false := by
  cases hq : F x y with
  | false => rfl
  | true => exact absurd (h x y hq) q
/-- how many cells of F, shifted by d and e, are cells of H -/
def ovl (F H : Int → Int → Bool) (d e : Int) : Nat := s2 fun x y => if (F x y && H (x + d) (y + e)) = true then 1 else 0
theorem ovl_eq {F H : Int → Int → Bool} (hF : ing F) (hH : ing H) (d e : Int) : ovl F H d e = s2 fun x y => if (F (x - d) (y - e) && H x y) = true then 1 else 0 := by
  unfold ovl s2
  have e1 : ∀ v, sm (fun u => if (F (gq u) (gq v) && H (gq u + d) (gq v + e)) = true then 1 else 0) 40 = sm (fun u => if (F (gq u - d) (gq v) && H (gq u) (gq v + e)) = true then 1 else 0) 40 := fun v => sm_shift (f := fun x => F x (gq v)) (h := fun x => H x (gq v + e)) (fun x hx => ing_no hF (by omega)) (fun x hx => ing_no hH (by omega)) d
  have e2 : ∀ u, sm (fun v => if (F (gq u - d) (gq v) && H (gq u) (gq v + e)) = true then 1 else 0) 40 = sm (fun v => if (F (gq u - d) (gq v - e) && H (gq u) (gq v)) = true then 1 else 0) 40 := fun u => sm_shift (f := fun y => F (gq u - d) y) (h := fun y => H (gq u) y) (fun y hy => ing_no hF (by omega)) (fun y hy => ing_no hH (by omega)) e
  have e3 := sm_swap (fun v u => if (F (gq u - d) (gq v) && H (gq u) (gq v + e)) = true then 1 else 0) 40 40
  have e4 := sm_swap (fun v u => if (F (gq u - d) (gq v - e) && H (gq u) (gq v)) = true then 1 else 0) 40 40
  rw [sm_cong (fun v _ => e1 v), e3, e4]
  exact sm_cong fun u _ => e2 u
