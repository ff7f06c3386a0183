/-! The class marks a cell in its four turns. -/
def W_rws (n a _j : Nat) : Bool := a == bA n + 1
def rw1 (g : gm_T) (n t v : Nat) (Mk : Int → Int → Bool) : Prop := ∃ r : Nat, gm_J g (bA n + 1) (40 * t + v) = lN r ∧ r < 2 ^ 40 ∧ ∀ u, u < 40 → r.testBit u = Mk (cX (ti (t : Int)) (gq u) (gq v)) (cY (ti (t : Int)) (gq u) (gq v))
def mk1 (Mk : Int → Int → Bool) (x y : Int) (a b : Int) : Bool := Mk a b || decide (a = x ∧ b = y)
theorem rw1_cong {g : gm_T} {n t v : Nat} {M N : Int → Int → Bool} (h : rw1 g n t v M) (e : ∀ u, u < 40 → M (cX (ti (t : Int)) (gq u) (gq v)) (cY (ti (t : Int)) (gq u) (gq v)) = N (cX (ti (t : Int)) (gq u) (gq v)) (cY (ti (t : Int)) (gq u) (gq v))) : rw1 g n t v N := by
  obtain ⟨r, h1, h2, h3⟩ := h
  exact ⟨r, h1, h2, fun u hu => by rw [h3 u hu, e u hu]⟩
theorem cb_mark_lp {n : Nat} {Mk : Int → Int → Bool} {x y : Int} (hx : -20 ≤ x ∧ x ≤ 19) (hy : -20 ≤ y ∧ y ≤ 19) : ∀ d t fuel g, d < fuel → t + d = 4 → (∀ t' v, t' < 4 → v < 40 → rw1 g n t' v (if t' < t then mk1 Mk x y else Mk)) → ∃ g2, cb_markCell_l2 n x y fuel (t : Int) g = some g2 ∧ exc nob (W_rws n) g g2 ∧ ∀ t' v, t' < 4 → v < 40 → rw1 g2 n t' v (mk1 Mk x y) := by
  intro d
  induction d with
  | zero =>
    intro t fuel g hf ht h
    obtain ⟨fuel, rfl⟩ : ∃ z, fuel = z + 1 := ⟨fuel - 1, by omega⟩
    unfold cb_markCell_l2
    rw [jg_pos (rgn (by omega)), if_neg (by omega)]
    refine ⟨g, rfl, exc_rf, fun t' v h1 h2 => ?_⟩
    have w := h t' v h1 h2
    rw [if_pos (by omega)] at w
    exact w
  | succ d ih =>
    intro t fuel g hf ht h
    obtain ⟨fuel, rfl⟩ : ∃ z, fuel = z + 1 := ⟨fuel - 1, by omega⟩
    have t4' : 0 ≤ (t : Int) ∧ (t : Int) ≤ 3 := by omega
    have ci := c_in t4' hx hy
    obtain ⟨v0, hv0⟩ : ∃ v0 : Nat, cY (t : Int) x y = gq v0 := ⟨(cY (t : Int) x y + 20).toNat, by unfold gq; omega⟩
    obtain ⟨u0, hu0⟩ : ∃ u0 : Nat, cX (t : Int) x y = gq u0 := ⟨(cX (t : Int) x y + 20).toNat, by unfold gq; omega⟩
    have v40 : v0 < 40 := by rw [hv0] at ci; unfold gq at ci; omega
    have u40 : u0 < 40 := by rw [hu0] at ci; unfold gq at ci; omega
    have hi : ((t : Int) * 40 + 20) + gq v0 = ((40 * t + v0 : Nat) : Int) := by unfold gq; omega
    have hs : 20 + gq u0 = (u0 : Int) := by unfold gq; omega
    unfold cb_markCell_l2
    rw [jg_pos (rgn (by omega)), if_pos (by omega), cc_cellY_eq t4', jb1_some, hv0, hi, jl_eq, jg_pos (by omega), cc_cellX_eq t4', jb1_some, hu0, hs, Int.toNat_natCast]
    obtain ⟨r, r1, r2, r3⟩ := h t v0 (by omega) v40
    rw [if_neg (Nat.lt_irrefl t)] at r3
    have p2 : 2 ^ u0 < 2 ^ 40 := Nat.pow_lt_pow_right (by decide) u40
    rw [r1, lSl_1 (by omega), wb_or (Nat.lt_trans r2 (by decide)) (Nat.lt_trans p2 (by decide)), jl_eq]
    have X1 : exc nob (W_rws n) g (gm_wJ g (bA n + 1) (40 * t + v0) (lN (r ||| 2 ^ u0))) := exc_wJ exc_rf (by unfold W_rws; simp)
    have key : ∀ u v, u < 40 → v < 40 → (cX (ti (t : Int)) (gq u) (gq v) = x ∧ cY (ti (t : Int)) (gq u) (gq v) = y) → u = u0 ∧ v = v0 := fun u v _ _ q => by
      obtain ⟨-, -, c3, c4⟩ := c_inv (t := (t : Int)) (x := gq u) (y := gq v) t4'
      rw [q.1, q.2] at c3 c4
      rw [hu0] at c3
      rw [hv0] at c4
      unfold gq at c3 c4
      omega
    obtain ⟨g2, e2, x2, h2⟩ := ih (t + 1) fuel (gm_wJ g (bA n + 1) (40 * t + v0) (lN (r ||| 2 ^ u0))) (by omega) (by omega) (fun t' v h1 h2 => by
      by_cases ht' : t' = t
      · subst ht'
        rw [if_pos (Nat.lt_succ_self t')]
        by_cases hv : v = v0
        · subst hv
          refine ⟨r ||| 2 ^ u0, by rw [gJ_wJ, if_pos rfl, if_pos rfl], Nat.or_lt_two_pow r2 p2, fun u hu => ?_⟩
          rw [Nat.testBit_or, r3 u hu, Nat.testBit_two_pow]
          unfold mk1
          congr 1
          rw [decide_eq_decide]
          constructor
          · intro q
            subst q
            obtain ⟨c1, c2, -, -⟩ := c_inv (t := (t' : Int)) (x := x) (y := y) t4'
            rw [hu0, hv0] at c1 c2
            exact ⟨c1, c2⟩
          · intro q
            exact (key u v hu h2 q).1.symm
        · have w := h t' v h1 h2
          rw [if_neg (Nat.lt_irrefl t')] at w
          have w2 : rw1 (gm_wJ g (bA n + 1) (40 * t' + v0) (lN (r ||| 2 ^ u0))) n t' v Mk := by
            obtain ⟨r', q1, q2, q3⟩ := w
            exact ⟨r', by rw [gJ_wJ, if_pos rfl, if_neg (by omega)]; exact q1, q2, q3⟩
          refine rw1_cong w2 (fun u hu => ?_)
          unfold mk1
          rw [show decide (cX (ti (t' : Int)) (gq u) (gq v) = x ∧ cY (ti (t' : Int)) (gq u) (gq v) = y) = false from decide_eq_false (fun q => hv (key u v hu h2 q).2), Bool.or_false]
      · have w := h t' v h1 h2
        have e : (if t' < t + 1 then mk1 Mk x y else Mk) = (if t' < t then mk1 Mk x y else Mk) := by
          by_cases q : t' < t
          · rw [if_pos q, if_pos (by omega)]
          · rw [if_neg q, if_neg (by omega)]
        rw [e]
        obtain ⟨r', q1, q2, q3⟩ := w
        exact ⟨r', by rw [gJ_wJ, if_pos rfl, if_neg (by omega)]; exact q1, q2, q3⟩)
    exact ⟨g2, e2, exc_tr X1 x2, h2⟩
theorem cb_markCell_eq {n : Nat} {Mk : Int → Int → Bool} {x y : Int} {g : gm_T} (hx : -20 ≤ x ∧ x ≤ 19) (hy : -20 ≤ y ∧ y ≤ 19) (h : ∀ t v, t < 4 → v < 40 → rw1 g n t v Mk) : ∃ g2, cb_markCell g n x y = some g2 ∧ exc nob (W_rws n) g g2 ∧ ∀ t v, t < 4 → v < 40 → rw1 g2 n t v (mk1 Mk x y) := by
  obtain ⟨g2, e, x2, h2⟩ := cb_mark_lp (n := n) (Mk := Mk) hx hy 4 0 fz g (fz_gt rfl) rfl (fun t' v h1 h2 => by rw [if_neg (by omega)]; exact h t' v h1 h2)
  unfold cb_markCell
  rw [show cb_markCell_l2 n x y fz 0 g = some g2 from e, jb1_some]
  exact ⟨g2, rfl, x2, h2⟩
/-- one cell more -/
theorem s2_mk1 {Mk : Int → Int → Bool} {x y : Int} (hx : -20 ≤ x ∧ x ≤ 19) (hy : -20 ≤ y ∧ y ≤ 19) (h : Mk x y = false) : s2 (fun a b => if mk1 Mk x y a b = true then 1 else 0) = s2 (fun a b => if Mk a b = true then 1 else 0) + 1 := by
  have e1 : s2 (fun a b => if mk1 Mk x y a b = true then 1 else 0) = s2 (fun a b => (if Mk a b = true then 1 else 0) + (if a = x ∧ b = y then 1 else 0)) := s2_cong (fun a b _ _ _ _ => by
    unfold mk1
    by_cases q : a = x ∧ b = y
    · rw [q.1, q.2, h, if_pos (by simp), if_neg (by decide), if_pos ⟨rfl, rfl⟩]
    · rw [show decide (a = x ∧ b = y) = false from decide_eq_false q, Bool.or_false, if_neg q, Nat.add_zero])
  have e2 : s2 (fun a b => if a = x ∧ b = y then 1 else 0) = 1 := by
    unfold s2
    have e3 : ∀ v, v < 40 → sm (fun u => if gq u = x ∧ gq v = y then 1 else 0) 40 = if v = (y + 20).toNat then 1 else 0 := fun v hv => by
      by_cases q : v = (y + 20).toNat
      · rw [if_pos q]
        have e4 : sm (fun u => if gq u = x ∧ gq v = y then 1 else 0) 40 = sm (fun u => if u = (x + 20).toNat then 1 else 0) 40 := sm_cong (fun u hu => by
          by_cases w : u = (x + 20).toNat
          · rw [if_pos w, if_pos (by unfold gq; omega)]
          · rw [if_neg w, if_neg (by unfold gq; omega)])
        rw [e4, sm_one, if_pos (by omega)]
      · rw [if_neg q]
        exact sm_none (fun u hu => if_neg (by unfold gq; omega))
    rw [sm_cong e3, sm_one, if_pos (by omega)]
  have e5 : s2 (fun a b => (if Mk a b = true then 1 else 0) + (if a = x ∧ b = y then 1 else 0)) = s2 (fun a b => if Mk a b = true then 1 else 0) + s2 (fun a b => if a = x ∧ b = y then 1 else 0) := by
    unfold s2
    rw [← sm_add]
    exact sm_cong (fun v hv => sm_add _ _ 40)
  rw [e1, e5, e2]
