/-! The reference compares the new bit's edges: the turn. -/
def W_tb (a _j : Nat) : Bool := a == 63 || a == 64
def W_tbi (i a j : Nat) : Bool := (a == 63 || a == 64) && j == i
theorem W_tbi_w {i : Nat} {g h : gm_T} (x : exc (W_tbi i) nob g h) : exc W_tb nob g h := exc_mono x (fun a j q => by
  unfold W_tbi at q
  rw [Bool.and_eq_true] at q
  exact q.1) (fun a j q => q)
/-- the last of the turns below T by which (p, q) goes against (r, s) -/
def ltn (p q r s : Int) : Nat → Int
  | 0 => -1
  | T + 1 => if tX (T : Int) p q = -r ∧ tY (T : Int) p q = -s then (T : Int) else ltn p q r s T
theorem ltn_tf {g : gm_T} {a k b l : Nat} (h : ¬ (wX g b l = 0 ∧ wY g b l = 0)) : ltn (wX g b l) (wY g b l) (wX g a k) (wY g a k) 4 = tf g a k b l := by
  unfold tf
  generalize wX g b l = p at *
  generalize wY g b l = q at *
  generalize wX g a k = r
  generalize wY g a k = s
  show (if tX ((3 : Nat) : Int) p q = -r ∧ tY ((3 : Nat) : Int) p q = -s then ((3 : Nat) : Int) else if tX ((2 : Nat) : Int) p q = -r ∧ tY ((2 : Nat) : Int) p q = -s then ((2 : Nat) : Int) else if tX ((1 : Nat) : Int) p q = -r ∧ tY ((1 : Nat) : Int) p q = -s then ((1 : Nat) : Int) else if tX ((0 : Nat) : Int) p q = -r ∧ tY ((0 : Nat) : Int) p q = -s then ((0 : Nat) : Int) else -1) = _
  have e0 : tX ((0 : Nat) : Int) p q = p ∧ tY ((0 : Nat) : Int) p q = q := ⟨rfl, rfl⟩
  have e1 : tX ((1 : Nat) : Int) p q = -q ∧ tY ((1 : Nat) : Int) p q = p := ⟨rfl, rfl⟩
  have e2 : tX ((2 : Nat) : Int) p q = -p ∧ tY ((2 : Nat) : Int) p q = -q := ⟨rfl, rfl⟩
  have e3 : tX ((3 : Nat) : Int) p q = q ∧ tY ((3 : Nat) : Int) p q = -p := ⟨rfl, rfl⟩
  rw [e0.1, e0.2, e1.1, e1.2, e2.1, e2.2, e3.1, e3.2]
  (repeat' split) <;> omega
def wys (h : gm_T) (a k b l : Nat) (p q r s : Int) : Prop := (md_wayX h (b : Int) (l : Int) = some p ∧ md_wayY h (b : Int) (l : Int) = some q) ∧ md_wayX h (a : Int) (k : Int) = some r ∧ md_wayY h (a : Int) (k : Int) = some s
theorem md_cmp_l57 {a b k l i : Nat} {p q r s : Int} (ha : a < 30) (hb : b < 30) (hi : i < 57600) (hp : -100 ≤ p ∧ p ≤ 100) (hq : -100 ≤ q ∧ q ≤ 100) (hr : -100 ≤ r ∧ r ≤ 100) (hs : -100 ≤ s ∧ s ≤ 100) : ∀ d T fuel g, d < fuel → T + d = 4 → (∀ h, exc W_tb nob g h → wys h a k b l p q r s) → (gm_I g 56 a = gm_I g 56 b ∧ rg (gm_I g 56 a)) → gm_I g 63 i = ltn p q r s T → ∃ g2, md_compares_l57 (a : Int) (b : Int) (k : Int) (l : Int) (i : Int) fuel (T : Int) g = some g2 ∧ exc (W_tbi i) nob g g2 ∧ gm_I g2 63 i = ltn p q r s 4 := by
  intro d
  induction d with
  | zero =>
    intro T fuel g hf hT hw h56 hv
    obtain ⟨fuel, rfl⟩ : ∃ z, fuel = z + 1 := ⟨fuel - 1, by omega⟩
    have e : T = 4 := by omega
    subst e
    unfold md_compares_l57
    rw [jg_pos (rgn (by omega)), if_neg (by omega)]
    exact ⟨g, rfl, exc_rf, hv⟩
  | succ d ih =>
    intro T fuel g hf hT hw h56 hv
    obtain ⟨fuel, rfl⟩ : ∃ z, fuel = z + 1 := ⟨fuel - 1, by omega⟩
    obtain ⟨⟨w1, w2⟩, w3, w4⟩ := hw g exc_rf
    have tb : (-100 ≤ tX (T : Int) p q ∧ tX (T : Int) p q ≤ 100) ∧ -100 ≤ tY (T : Int) p q ∧ tY (T : Int) p q ≤ 100 := by
      unfold tX tY
      (repeat' split) <;> omega
    have hw' : ∀ v, ∀ h, exc W_tb nob (gm_wI g 63 i v) h → wys h a k b l p q r s := fun v h x => hw h (exc_tr (exc_wI exc_rf rfl) x)
    have h56' : ∀ v, gm_I (gm_wI g 63 i v) 56 a = gm_I (gm_wI g 63 i v) 56 b ∧ rg (gm_I (gm_wI g 63 i v) 56 a) := fun v => by
      rw [gI_oth (by decide), gI_oth (by decide)]; exact h56
    have x1 : ∀ v, exc (W_tbi i) nob g (gm_wI g 63 i v) := fun v => exc_wI exc_rf (by unfold W_tbi; simp)
    unfold md_compares_l57
    rw [jg_pos (rgn (by omega)), if_pos (by omega), jg_pos (by omega), jg_pos (by omega), Int.toNat_natCast, Int.toNat_natCast, jg_pos ⟨h56.2, h56.1 ▸ h56.2⟩, if_pos h56.1, w1, jb1_some, w2, jb1_some, md_turnedX_eq (by omega) ⟨by omega, by omega⟩ ⟨by omega, by omega⟩, jb1_some, w3, jb1_some, jg_pos ⟨⟨by omega, by omega⟩, by omega, by omega⟩, jb1_some, jb1_some, md_turnedY_eq (by omega) ⟨by omega, by omega⟩ ⟨by omega, by omega⟩, jb1_some, w4, jb1_some, jg_pos ⟨⟨by omega, by omega⟩, by omega, by omega⟩, Int.toNat_natCast]
    have no : ¬ (tX (T : Int) p q = -r ∧ tY (T : Int) p q = -s) → ∃ g2, (jb1 (some (0 : Int)) fun (v54 : Int) => jg (rg v54) (if v54 = 0 then (jg (0 ≤ (i : Int) ∧ (i : Int) < 57600) (jl (gm_wI g 63 i (gm_I g 63 i)) fun (g63 : gm_T) => md_compares_l57 (a : Int) (b : Int) (k : Int) (l : Int) (i : Int) fuel ((T : Int) + 1) g63)) else (jg (0 ≤ (i : Int) ∧ (i : Int) < 57600) (jl (gm_wI g 63 i (T : Int)) fun (g65 : gm_T) => md_compares_l57 (a : Int) (b : Int) (k : Int) (l : Int) (i : Int) fuel ((T : Int) + 1) g65)))) = some g2 ∧ exc (W_tbi i) nob g g2 ∧ gm_I g2 63 i = ltn p q r s 4 := fun hno => by
      rw [jb1_some, jg_pos (rgk rfl), if_pos rfl, jg_pos (by omega), jl_eq]
      obtain ⟨g2, e2, x2, v2⟩ := ih (T + 1) fuel (gm_wI g 63 i (gm_I g 63 i)) (by omega) (by omega) (hw' _) (h56' _) (by rw [gI_eq, hv]; exact (if_neg hno).symm)
      exact ⟨g2, e2, exc_tr (x1 _) x2, v2⟩
    by_cases c1 : tX (T : Int) p q = -r
    · rw [if_pos c1]
      by_cases c2 : tY (T : Int) p q = -s
      · rw [if_pos c2, jb1_some, jg_pos (rgk rfl), if_neg n10, jg_pos (by omega), jl_eq]
        obtain ⟨g2, e2, x2, v2⟩ := ih (T + 1) fuel (gm_wI g 63 i (T : Int)) (by omega) (by omega) (hw' _) (h56' _) (by rw [gI_eq]; exact (if_pos ⟨c1, c2⟩).symm)
        exact ⟨g2, e2, exc_tr (x1 _) x2, v2⟩
      · rw [if_neg c2]
        exact no (fun z => c2 z.2)
    · rw [if_neg c1]
      exact no (fun z => c1 z.1)
