/-! The photograph: best, the class's rows and columns. -/
theorem isPh_tr {W' J : Nat → Nat → Bool} {g g2 : gm_T} (x : exc W' J g g2) (hW : ∀ a k, R_ph a k = true → W' a k = false) {W H D : Nat} {M : Nat → Nat} (h : isPh g W H D M) : isPh g2 W H D M := by
  have o : ∀ a k, R_ph a k = true → gm_I g2 a k = gm_I g a k := fun a k q => x.1 a k (hW a k q)
  unfold isPh isN at h ⊢
  rw [o 25 1 rfl, o 44 59 rfl, o 25 2 rfl, o 44 60 rfl, o 25 3 rfl, o 44 61 rfl, o 25 4 rfl, o 44 62 rfl, o 44 63 rfl]
  simp only [fun k => o 26 k rfl, fun k => o 88 k rfl]
  exact h
theorem R_ph_bs (a k : Nat) (q : R_ph a k = true) : W_bs a k = false := by
  simp only [R_ph, Bool.or_eq_true, Bool.and_eq_true, beq_iff_eq] at q
  rcases q with ((⟨rfl, ((rfl | rfl) | rfl) | rfl⟩ | rfl) | rfl) | ⟨rfl, (((rfl | rfl) | rfl) | rfl) | rfl⟩ <;> rfl
theorem agB_bs {g g2 : gm_T} (x : exc W_bs J_bs g g2) (W H D b : Nat) (t u v : Int) : agB g2 W H D b t u v = agB g W H D b t u v := by
  have e88 : ∀ k, gm_I g2 88 k = gm_I g 88 k := fun k => x.1 88 k rfl
  have hs : sho g2 W H D = sho g W H D := by
    funext U V c
    unfold sho
    rw [x.1 44 61 rfl, x.1 44 62 rfl]
    simp only [e88]
  funext k
  unfold agB
  rw [hs, x.1 51 (5 * b + k) rfl, x.1 52 (5 * b + k) rfl, x.1 53 (5 * b + k) rfl]
theorem stp_b {v : Int} {p : plc} {s : bst} (hv : 0 ≤ v ∧ v ≤ 1000) (hs : -1 ≤ s.1 ∧ s.1 ≤ 1000) : -1 ≤ (stp v p s).1 ∧ (stp v p s).1 ≤ 1000 := by
  unfold stp
  by_cases c1 : v ≤ s.1
  · rw [if_pos c1]
    by_cases c2 : v = s.1
    · rw [if_pos c2]
      exact hs
    · rw [if_neg c2]
      exact hs
  · rw [if_neg c1]
    dsimp only
    omega
/-- the count of agreeing marks at a placing -/
noncomputable def agn (g : gm_T) (W H D b m : Nat) (t x y : Int) : Int := ((ct (agB g W H D b t x y) m : Nat) : Int)
noncomputable def fcol (g : gm_T) (W H D b m : Nat) (t y : Int) (u : Int) (s : bst) : bst := stp (agn g W H D b m t u y) (t, u, y) s
theorem fx_b {f : Int → bst → bst} (hf : ∀ u s, (-1 ≤ s.1 ∧ s.1 ≤ 1000) → -1 ≤ (f u s).1 ∧ (f u s).1 ≤ 1000) : ∀ (d : Nat) (u : Int) (s : bst), (-1 ≤ s.1 ∧ s.1 ≤ 1000) → -1 ≤ (fx f d u s).1 ∧ (fx f d u s).1 ≤ 1000
  | 0, _, _, h => h
  | d + 1, u, s, h => fx_b hf d (u + 1) (f u s) (hf u s h)
theorem fcol_b {g : gm_T} {W H D b m : Nat} (hm : m ≤ 5) {t y : Int} (u : Int) (s : bst) (h : -1 ≤ s.1 ∧ s.1 ≤ 1000) : -1 ≤ (fcol g W H D b m t y u s).1 ∧ (fcol g W H D b m t y u s).1 ≤ 1000 := by
  have := ct_le (agB g W H D b t u y) m
  refine stp_b ?_ h
  unfold agn
  omega
theorem cp_cols {n : Nat} {g0 : gm_T} (VB : ∀ g, exc W_bs J_bs g0 g → V_bit n g) {W H D : Nat} {M : Nat → Nat} (h0 : isPh g0 W H D M) {b m : Nat} (hb : b < n) (hm : gm_I g0 50 b = (m : Int)) (m5 : m ≤ 5) {t y c1 c3 hi : Int} (ht : 0 ≤ t ∧ t ≤ 3) (hy : -1000 ≤ y ∧ y ≤ 1000) (hhi : -20 ≤ hi ∧ hi ≤ 20) : ∀ (d fuel : Nat) (u : Int) (g : gm_T) (s : bst), u + (d : Int) = gm_I g0 44 61 + (W : Int) - hi → d < fuel → -900 ≤ u → exc W_bs J_bs g0 g → isS g s → (-1 ≤ s.1 ∧ s.1 ≤ 1000) → ∃ g2, cp_searchTurned_l168 b t c1 hi c3 y fuel u g = some g2 ∧ exc W_bs J_bs g0 g2 ∧ isS g2 (fx (fcol g0 W H D b m t y) d u s) := by
  obtain ⟨w, hh, -, ⟨e1, -⟩, -, ⟨e3, x1, x2⟩, -⟩ := id h0
  intro d
  induction d with
  | zero =>
    intro fuel u g s hd hf hu hx hS hs
    obtain ⟨f, rfl⟩ : ∃ f, fuel = f + 1 := ⟨fuel - 1, by omega⟩
    unfold cp_searchTurned_l168
    rw [hx.1 25 3 rfl, hx.1 25 1 rfl, e3, e1, jg_pos ⟨⟨by omega, by omega⟩, by omega, by omega⟩, if_neg (by omega)]
    exact ⟨g, rfl, hx, hS⟩
  | succ d ih =>
    intro fuel u g s hd hf hu hx hS hs
    obtain ⟨f, rfl⟩ : ∃ f, fuel = f + 1 := ⟨fuel - 1, by omega⟩
    have hc := ct_le (agB g0 W H D b t u y) m
    have a1 := cp_ag_eq (VB g hx) (isPh_tr hx R_ph_bs h0) (b := b) hb (t := t) (x := u) (y := y) ht (by omega) hy (m := m) (by rw [hx.1 50 b rfl]; exact hm)
    rw [agB_bs hx] at a1
    obtain ⟨g1, k1, k2, k3⟩ := cp_compare_eq hS (v := agn g0 W H D b m t u y) (by
      unfold agn
      omega) hs (t := t) (x := u) (y := y)
    obtain ⟨g2, r1, r2, r3⟩ := ih f (u + 1) g1 (fcol g0 W H D b m t y u s) (by omega) (by omega) (by omega) (exc_tr hx k3) k2 (fcol_b m5 u s hs)
    unfold cp_searchTurned_l168
    rw [hx.1 25 3 rfl, hx.1 25 1 rfl, e3, e1, jg_pos ⟨⟨by omega, by omega⟩, by omega, by omega⟩, if_pos (by omega), a1, jb1_some, cc_of_eq (by omega) (by omega) (by omega), jb1_some, show t % 4 = t by omega, show ((ct (agB g0 W H D b t u y) m : Nat) : Int) = agn g0 W H D b m t u y from rfl, k1, jb1_some]
    exact ⟨g2, r1, r2, r3⟩
