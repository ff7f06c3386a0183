/-! The photograph: best. The order of the search, class and reference, as one fold. -/
abbrev bst : Type := Int × plc × Int
/-- one placing more: agreeing count v, placing p -/
def stp (v : Int) (p : plc) (s : bst) : bst := if v ≤ s.1 then (if v = s.1 then (s.1, s.2.1, s.2.2 + 1) else s) else (v, p, 0)
/-- steps from u on, d of them -/
def fx (f : Int → bst → bst) : Nat → Int → bst → bst
  | 0, _, s => s
  | d + 1, u, s => fx f d (u + 1) (f u s)
theorem fx_cong {f h : Int → bst → bst} : ∀ (d : Nat) (u : Int) (s : bst), (∀ v, u ≤ v → v < u + (d : Int) → ∀ s, f v s = h v s) → fx f d u s = fx h d u s
  | 0, _, _, _ => rfl
  | d + 1, u, s, q => by
    unfold fx
    rw [q u (by omega) (by omega) s]
    exact fx_cong d (u + 1) (h u s) (fun v h1 h2 s => q v (by omega) (by omega) s)
theorem fx_id {f : Int → bst → bst} : ∀ (d : Nat) (u : Int) (s : bst), (∀ v, u ≤ v → v < u + (d : Int) → ∀ s, f v s = s) → fx f d u s = s
  | 0, _, _, _ => rfl
  | d + 1, u, s, q => by
    unfold fx
    rw [q u (by omega) (by omega) s]
    exact fx_id d (u + 1) s (fun v h1 h2 s => q v (by omega) (by omega) s)
theorem fx_add (f : Int → bst → bst) : ∀ (a b : Nat) (u : Int) (s : bst), fx f (a + b) u s = fx f b (u + (a : Int)) (fx f a u s)
  | 0, b, u, s => by
    rw [Nat.zero_add]
    show fx f b u s = fx f b (u + 0) s
    rw [Int.add_zero]
  | a + 1, b, u, s => by
    rw [show a + 1 + b = (a + b) + 1 by omega]
    show fx f (a + b) (u + 1) (f u s) = fx f b (u + ((a + 1 : Nat) : Int)) (fx f a (u + 1) (f u s))
    rw [fx_add f a b (u + 1) (f u s), show u + 1 + (a : Int) = u + ((a + 1 : Nat) : Int) by omega]
/-- only the steps from lo to hi count: the whole run is that run -/
theorem fx_mid {f h : Int → bst → bst} {u lo : Int} {d e : Nat} (h1 : u ≤ lo) (h2 : lo + (e : Int) ≤ u + (d : Int)) (hin : ∀ v, lo ≤ v → v < lo + (e : Int) → ∀ s, f v s = h v s) (hout : ∀ v, ¬ (lo ≤ v ∧ v < lo + (e : Int)) → ∀ s, f v s = s) (s : bst) : fx f d u s = fx h e lo s := by
  obtain ⟨a, ha⟩ : ∃ a : Nat, lo - u = (a : Int) := ⟨_, (Int.toNat_of_nonneg (by omega)).symm⟩
  obtain ⟨c, hc⟩ : ∃ c : Nat, u + (d : Int) - (lo + (e : Int)) = (c : Int) := ⟨_, (Int.toNat_of_nonneg (by omega)).symm⟩
  rw [show d = a + (e + c) by omega, fx_add, fx_add, fx_id a u s (fun v q1 q2 s => hout v (by omega) s), show u + (a : Int) = lo by omega, fx_id c (lo + (e : Int)) _ (fun v q1 q2 s => hout v (by omega) s)]
  exact fx_cong e lo s hin
def isS (g : gm_T) (s : bst) : Prop := gm_I g 25 6 = s.1 ∧ gm_I g 25 7 = s.2.2 ∧ (0 ≤ s.1 → gm_J g 25 8 = pk s.2.1.1 s.2.1.2.1 s.2.1.2.2)
def W_bs (a k : Nat) : Bool := a == 25 && (k == 6 || k == 7)
def J_bs (a k : Nat) : Bool := a == 25 && k == 8
theorem scr_bs {g g2 : gm_T} (h : exc W_bs J_bs g g2) : exc scr scrJ g g2 := exc_mono h (fun a k q => by
  simp only [W_bs, Bool.or_eq_true, Bool.and_eq_true, beq_iff_eq] at q
  rcases q with ⟨rfl, rfl | rfl⟩ <;> rfl) (fun a k q => by
  simp only [J_bs, Bool.and_eq_true, beq_iff_eq] at q
  rcases q with ⟨rfl, rfl⟩
  rfl)
theorem cp_compare_eq {g : gm_T} {s : bst} (h : isS g s) {v : Int} (hv : 0 ≤ v ∧ v ≤ 1000) (hs : -1 ≤ s.1 ∧ s.1 ≤ 1000) {t x y : Int} : ∃ g2, cp_compare g v (pk t x y) = some g2 ∧ isS g2 (stp v (t, x, y) s) ∧ exc W_bs J_bs g g2 := by
  obtain ⟨h1, h2, h3⟩ := h
  unfold cp_compare stp
  rw [h1, jg_pos ⟨⟨by omega, by omega⟩, by omega, by omega⟩]
  by_cases c1 : v ≤ s.1
  · rw [if_pos c1, if_pos c1]
    by_cases c2 : v = s.1
    · rw [if_pos c2, if_pos c2, jl_eq]
      refine ⟨_, rfl, ⟨?_, ?_, ?_⟩, exc_wI exc_rf rfl⟩
      · rw [gI_ne (by decide)]
        exact h1
      · rw [gI_eq, h2]
      · rw [gJ_wI]
        exact h3
    · rw [if_neg c2, if_neg c2]
      exact ⟨_, rfl, ⟨h1, h2, h3⟩, exc_rf⟩
  · rw [if_neg c1, if_neg c1, jl_eq, jl_eq, jl_eq]
    refine ⟨_, rfl, ⟨?_, ?_, ?_⟩, exc_wI (exc_wJ (exc_wI exc_rf rfl) rfl) rfl⟩
    · rw [gI_ne (by decide), gI_wJ, gI_eq]
    · rw [gI_eq]
    · intro _
      rw [gJ_wI, gJ_wJ, if_pos rfl, if_pos rfl]
/-- every mark of a bit lies in the photograph -/
def lie (g : gm_T) (W H b m : Nat) (t x y : Int) : Prop := ∀ k, k < m → (0 ≤ cX t (gm_I g 51 (5 * b + k)) (gm_I g 52 (5 * b + k)) + x - gm_I g 44 61 ∧ cX t (gm_I g 51 (5 * b + k)) (gm_I g 52 (5 * b + k)) + x - gm_I g 44 61 ≤ (W : Int) - 1) ∧ 0 ≤ cY t (gm_I g 51 (5 * b + k)) (gm_I g 52 (5 * b + k)) + y - gm_I g 44 62 ∧ cY t (gm_I g 51 (5 * b + k)) (gm_I g 52 (5 * b + k)) + y - gm_I g 44 62 ≤ (H : Int) - 1
theorem md_lies_lp {n : Nat} {g : gm_T} (VB : V_bit n g) {W H D : Nat} {M : Nat → Nat} (h : isPh g W H D M) {b : Nat} (hb : b < n) (h30 : n ≤ 30) {t x y : Int} (ht : 0 ≤ t ∧ t ≤ 3) (hx : -1000 ≤ x ∧ x ≤ 1000) (hy : -1000 ≤ y ∧ y ≤ 1000) {m : Nat} (hm : gm_I g 50 b = (m : Int)) : ∀ (d k fuel : Nat), k + d = m → d < fuel → (∃ v, md_lies_l8 g (b : Int) t x y fuel 0 ((5 * b + k : Nat) : Int) = some v ∧ v = 0) ∧ md_lies_l8 g (b : Int) t x y fuel 1 ((5 * b + k : Nat) : Int) = some (@ite _ (∀ j, k ≤ j → j < m → (0 ≤ cX t (gm_I g 51 (5 * b + j)) (gm_I g 52 (5 * b + j)) + x - gm_I g 44 61 ∧ cX t (gm_I g 51 (5 * b + j)) (gm_I g 52 (5 * b + j)) + x - gm_I g 44 61 ≤ (W : Int) - 1) ∧ 0 ≤ cY t (gm_I g 51 (5 * b + j)) (gm_I g 52 (5 * b + j)) + y - gm_I g 44 62 ∧ cY t (gm_I g 51 (5 * b + j)) (gm_I g 52 (5 * b + j)) + y - gm_I g 44 62 ≤ (H : Int) - 1) (gd _) 1 0) := by
  obtain ⟨-, -, ⟨-, m2, m3⟩, mk, -⟩ := VB b hb
  obtain ⟨w, hh, -, ⟨-, e59⟩, ⟨-, e60⟩, ⟨-, x1, x2⟩, ⟨-, y1, y2⟩, -⟩ := h
  intro d
  induction d with
  | zero =>
    intro k fuel hd hf
    obtain ⟨f, rfl⟩ : ∃ f, fuel = f + 1 := ⟨fuel - 1, by omega⟩
    refine ⟨⟨0, ?_, rfl⟩, ?_⟩
    · unfold md_lies_l8
      rw [jg_pos (by omega), Int.toNat_natCast, hm, jg_pos ⟨rgn (by omega), by omega, by omega⟩, if_neg (by omega)]
    · rw [@if_pos _ (gd _) (fun j q1 q2 => by omega)]
      unfold md_lies_l8
      rw [jg_pos (by omega), Int.toNat_natCast, hm, jg_pos ⟨rgn (by omega), by omega, by omega⟩, if_neg (by omega)]
  | succ d ih =>
    intro k fuel hd hf
    obtain ⟨f, rfl⟩ : ∃ f, fuel = f + 1 := ⟨fuel - 1, by omega⟩
    obtain ⟨⟨v0, z0, z1⟩, next⟩ := ih (k + 1) f (by omega) (by omega)
    rw [z1] at z0
    obtain ⟨⟨-, a1, a2⟩, ⟨-, a3, a4⟩, -⟩ := mk k (by omega)
    have hr := c_20 (t := t) ⟨a1, a2⟩ ⟨a3, a4⟩
    constructor
    · refine ⟨0, ?_, rfl⟩
      unfold md_lies_l8
      rw [jg_pos (by omega), Int.toNat_natCast, hm, jg_pos ⟨rgn (by omega), by omega, by omega⟩, if_pos (by omega), jg_pos (rgk rfl), if_pos rfl]
      exact z0
    · have fail : ¬ ((0 ≤ cX t (gm_I g 51 (5 * b + k)) (gm_I g 52 (5 * b + k)) + x - gm_I g 44 61 ∧ cX t (gm_I g 51 (5 * b + k)) (gm_I g 52 (5 * b + k)) + x - gm_I g 44 61 ≤ (W : Int) - 1) ∧ 0 ≤ cY t (gm_I g 51 (5 * b + k)) (gm_I g 52 (5 * b + k)) + y - gm_I g 44 62 ∧ cY t (gm_I g 51 (5 * b + k)) (gm_I g 52 (5 * b + k)) + y - gm_I g 44 62 ≤ (H : Int) - 1) → md_lies_l8 g (b : Int) t x y f 0 (((5 * b + k : Nat) : Int) + 1) = some (@ite _ (∀ j, k ≤ j → j < m → (0 ≤ cX t (gm_I g 51 (5 * b + j)) (gm_I g 52 (5 * b + j)) + x - gm_I g 44 61 ∧ cX t (gm_I g 51 (5 * b + j)) (gm_I g 52 (5 * b + j)) + x - gm_I g 44 61 ≤ (W : Int) - 1) ∧ 0 ≤ cY t (gm_I g 51 (5 * b + j)) (gm_I g 52 (5 * b + j)) + y - gm_I g 44 62 ∧ cY t (gm_I g 51 (5 * b + j)) (gm_I g 52 (5 * b + j)) + y - gm_I g 44 62 ≤ (H : Int) - 1) (gd _) 1 0) := fun q => by
        rw [@if_neg _ (gd _) (fun z => q (z k (Nat.le_refl k) (by omega)))]
        exact z0
      conv => lhs; unfold md_lies_l8
      rw [jg_pos (by omega), Int.toNat_natCast, hm, jg_pos ⟨rgn (by omega), by omega, by omega⟩, if_pos (by omega), jg_pos (rgk rfl), if_neg n10, jg_pos (by omega), Int.toNat_natCast, md_cellX_eq ht (by omega) (by omega), jb1_some, e59, md_in_eq ⟨by omega, by omega⟩ (rgk rfl) ⟨by omega, by omega⟩, jb_tst]
      by_cases c1 : 0 ≤ cX t (gm_I g 51 (5 * b + k)) (gm_I g 52 (5 * b + k)) + x - gm_I g 44 61 ∧ cX t (gm_I g 51 (5 * b + k)) (gm_I g 52 (5 * b + k)) + x - gm_I g 44 61 ≤ (W : Int) - 1
      · rw [if_pos c1, md_cellY_eq ht (by omega) (by omega), jb1_some, e60, md_in_eq ⟨by omega, by omega⟩ (rgk rfl) ⟨by omega, by omega⟩, jb_tst]
        by_cases c2 : 0 ≤ cY t (gm_I g 51 (5 * b + k)) (gm_I g 52 (5 * b + k)) + y - gm_I g 44 62 ∧ cY t (gm_I g 51 (5 * b + k)) (gm_I g 52 (5 * b + k)) + y - gm_I g 44 62 ≤ (H : Int) - 1
        · rw [if_pos c2, show ((5 * b + k : Nat) : Int) + 1 = ((5 * b + (k + 1) : Nat) : Int) from rfl, next]
          congr 2
          apply propext
          constructor
          · intro z j q1 q2
            by_cases e : j = k
            · rw [e]
              exact ⟨c1, c2⟩
            · exact z j (by omega) q2
          · intro z j q1 q2
            exact z j (by omega) q2
        · rw [if_neg c2]
          exact fail (fun z => c2 z.2)
      · rw [if_neg c1]
        exact fail (fun z => c1 z.1)
