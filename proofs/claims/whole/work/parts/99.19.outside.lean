/-! Outside of the box no cell is within. -/
theorem nl_right {a b A B : Int} (hA : 0 < A) (hb : A < 2 * b) (hB : 0 < B) (hB2 : 2 * a < B) : a * A - b * B < 0 := by
  have b0 : 0 < b := by omega
  have h1 := Int.mul_pos b0 hB
  rcases Int.lt_or_le 0 a with q | q
  · have h2 := Int.mul_lt_mul_of_pos_left hb q
    have h3 := Int.mul_lt_mul_of_pos_left hB2 b0
    have h4 : b * (2 * a) = a * (2 * b) := by rw [Int.mul_left_comm, Int.mul_comm b a, Int.mul_left_comm a 2 b]
    omega
  · have h2 := Int.mul_nonneg (show 0 ≤ -a by omega) (Int.le_of_lt hA)
    rw [Int.neg_mul] at h2
    omega
theorem nl_r2 {a b A B : Int} (hs : (0 < A ∧ A < 2 * b) ∨ (A < 0 ∧ 2 * b < A)) (hB : 0 < B) (hB2 : 2 * a < B) : (0 < A → a * A - b * B < 0) ∧ (A < 0 → 0 < a * A - b * B) := by
  refine ⟨fun h => nl_right h (by omega) hB hB2, fun h => ?_⟩
  have w := nl_right (a := a) (b := -b) (A := -A) (B := B) (by omega) (by omega) hB hB2
  rw [Int.mul_neg, Int.neg_mul] at w
  omega
theorem nl_l2 {a b A B : Int} (hs : (0 < A ∧ A < 2 * b) ∨ (A < 0 ∧ 2 * b < A)) (hB : B < 0) (hB2 : B < 2 * a) : (0 < A → 0 < a * A - b * B) ∧ (A < 0 → a * A - b * B < 0) := by
  have w := nl_r2 (a := -a) (b := b) (A := A) (B := -B) hs (by omega) (by omega)
  rw [Int.mul_neg, Int.neg_mul] at w
  exact ⟨fun h => by have := w.1 h; omega, fun h => by have := w.2 h; omega⟩
theorem wlp_f {f : Nat → Option Bool} : ∀ d v, (∀ k, v ≤ k → k < v + d → f k = some false) → wlp f v d false = false := by
  intro d
  induction d with
  | zero => intro v _; rfl
  | succ d ih =>
    intro v h
    show (match f v with
      | none => false
      | some s => wlp f (v + 1) d (false ^^ s)) = false
    rw [h v (Nat.le_refl _) (by omega)]
    exact ih (v + 1) (fun k h1 h2 => h k (by omega) (by omega))
def wuo (Y : Nat → Int) (y : Int) (k : Nat) : Bool := decide (2 * y + 1 < 2 * Y k)
theorem wlp_u {c : Nat} {Y : Nat → Int} {y : Int} {f : Nat → Option Bool} (hf : ∀ k, k < c → f k = some (wuo Y y k ^^ wuo Y y (rnx c k))) : ∀ d v, v + d = c → wlp f v d (wuo Y y 0 ^^ (if v < c then wuo Y y v else wuo Y y 0)) = false := by
  intro d
  induction d with
  | zero =>
    intro v h
    rw [if_neg (by omega)]
    show (wuo Y y 0 ^^ wuo Y y 0) = false
    cases wuo Y y 0 <;> rfl
  | succ d ih =>
    intro v h
    have hv : v < c := by omega
    rw [if_pos hv]
    show (match f v with
      | none => false
      | some s => wlp f (v + 1) d ((wuo Y y 0 ^^ wuo Y y v) ^^ s)) = false
    rw [hf v hv]
    have w := ih (v + 1) (by omega)
    have e : (if v + 1 < c then wuo Y y (v + 1) else wuo Y y 0) = wuo Y y (rnx c v) := by
      unfold rnx
      split <;> rfl
    rw [e] at w
    have e2 : ((wuo Y y 0 ^^ wuo Y y v) ^^ (wuo Y y v ^^ wuo Y y (rnx c v))) = (wuo Y y 0 ^^ wuo Y y (rnx c v)) := by
      cases wuo Y y 0 <;> cases wuo Y y v <;> cases wuo Y y (rnx c v) <;> rfl
    dsimp only
    rw [e2]
    exact w
theorem winr_out {c : Nat} {X Y : Nat → Int} (hc : 0 < c) {x y : Int} (h : (∀ k, k < c → y < Y k) ∨ (∀ k, k < c → Y k ≤ y) ∨ (∀ k, k < c → X k ≤ x) ∨ (∀ k, k < c → x < X k)) : winr c X Y x y = false := by
  unfold winr
  have lt : ∀ k, rnx c k < c := fun k => rnx_lt hc
  have str : ∀ k, ¬ (decide (2 * y + 1 < 2 * Y k) = decide (2 * y + 1 < 2 * Y (rnx c k))) → (0 < (2 * y + 1) - 2 * Y k ∧ (2 * y + 1) - 2 * Y k < 2 * (Y (rnx c k) - Y k)) ∨ ((2 * y + 1) - 2 * Y k < 0 ∧ 2 * (Y (rnx c k) - Y k) < (2 * y + 1) - 2 * Y k) := fun k q => by
    rw [decide_eq_decide] at q
    omega
  rcases h with h | h | h | h
  · refine wlp_f c 0 (fun k _ hk => ?_)
    have h1 := h k (by omega)
    have h2 := h _ (lt k)
    unfold wst wse
    rw [if_pos (by rw [decide_eq_decide]; omega)]
  · refine wlp_f c 0 (fun k _ hk => ?_)
    have h1 := h k (by omega)
    have h2 := h _ (lt k)
    unfold wst wse
    rw [if_pos (by rw [decide_eq_decide]; omega)]
  · refine wlp_f c 0 (fun k _ hk => ?_)
    have h1 := h k (by omega)
    have h2 := h _ (lt k)
    unfold wst wse
    by_cases q : decide (2 * y + 1 < 2 * Y k) = decide (2 * y + 1 < 2 * Y (rnx c k))
    · rw [if_pos q]
    · have w := nl_r2 (a := X (rnx c k) - X k) (B := (2 * x + 1) - 2 * X k) (str k q) (by omega) (by omega)
      have w1 : (0 < (2 * y + 1) - 2 * Y k → wcr c X Y x y k < 0) ∧ ((2 * y + 1) - 2 * Y k < 0 → 0 < wcr c X Y x y k) := w
      have s := str k q
      rw [if_neg q]
      rcases s with s | s
      · have w2 := w1.1 s.1
        rw [if_neg (by omega), show decide (0 < 2 * wcr c X Y x y k) = false from decide_eq_false (by omega), show decide (2 * y + 1 < 2 * Y (rnx c k)) = true from decide_eq_true (by omega)]
        rfl
      · have w2 := w1.2 s.1
        rw [if_neg (by omega), show decide (0 < 2 * wcr c X Y x y k) = true from decide_eq_true (by omega), show decide (2 * y + 1 < 2 * Y (rnx c k)) = false from decide_eq_false (by omega)]
        rfl
  · have w0 := wlp_u (c := c) (Y := Y) (y := y) (f := wst c X Y x y) (fun k hk => ?_) c 0 (Nat.zero_add c)
    · rw [if_pos hc] at w0
      rw [show (wuo Y y 0 ^^ wuo Y y 0) = false by cases wuo Y y 0 <;> rfl] at w0
      exact w0
    have h1 := h k hk
    have h2 := h _ (lt k)
    unfold wst wse wuo
    by_cases q : decide (2 * y + 1 < 2 * Y k) = decide (2 * y + 1 < 2 * Y (rnx c k))
    · rw [if_pos q, q]
      cases decide (2 * y + 1 < 2 * Y (rnx c k)) <;> rfl
    · have w := nl_l2 (a := X (rnx c k) - X k) (B := (2 * x + 1) - 2 * X k) (str k q) (by omega) (by omega)
      have w1 : (0 < (2 * y + 1) - 2 * Y k → 0 < wcr c X Y x y k) ∧ ((2 * y + 1) - 2 * Y k < 0 → wcr c X Y x y k < 0) := w
      have s := str k q
      rw [if_neg q]
      rcases s with s | s
      · have w2 := w1.1 s.1
        rw [if_neg (by omega), show decide (0 < 2 * wcr c X Y x y k) = true from decide_eq_true (by omega), show decide (2 * y + 1 < 2 * Y (rnx c k)) = true from decide_eq_true (by omega), show decide (2 * y + 1 < 2 * Y k) = false from decide_eq_false (by omega)]
        rfl
      · have w2 := w1.2 s.1
        rw [if_neg (by omega), show decide (0 < 2 * wcr c X Y x y k) = false from decide_eq_false (by omega), show decide (2 * y + 1 < 2 * Y (rnx c k)) = false from decide_eq_false (by omega), show decide (2 * y + 1 < 2 * Y k) = true from decide_eq_true (by omega)]
        rfl
