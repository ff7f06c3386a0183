/-! The photograph: best, the class's turns as the reference's. -/
theorem fx_sh (f : Int → bst → bst) (c : Int) : ∀ (d : Nat) (u : Int) (s : bst), fx (fun v => f (v + c)) d u s = fx f d (u + c) s
  | 0, _, _ => rfl
  | d + 1, u, s => by
    unfold fx
    rw [fx_sh f c d (u + 1) (f (u + c) s), show u + 1 + c = u + c + 1 by omega]
noncomputable def rcol (g : gm_T) (W H D b m : Nat) (t y x : Int) (s : bst) : bst := @ite _ (lie g W H b m t x y) (gd _) (stp (agn g W H D b m t x y) (t, x, y) s) s
noncomputable def rrow (g : gm_T) (W H D b m : Nat) (t y : Int) (s : bst) : bst := fx (rcol g W H D b m t y) W (gm_I g 44 61 - mkX g b t 0) s
noncomputable def rturn (g : gm_T) (W H D b m : Nat) (t : Int) (s : bst) : bst := fx (rrow g W H D b m t) H (gm_I g 44 62 - mkY g b t 0) s
theorem lie_iff {g : gm_T} {W H b m : Nat} {t lo loy hi hiy : Int} (h1 : lea (mkX g b t) m lo) (h2 : lea (mkY g b t) m loy) (h3 : gre (mkX g b t) m hi) (h4 : gre (mkY g b t) m hiy) (x y : Int) : lie g W H b m t x y ↔ (gm_I g 44 61 - lo ≤ x ∧ x < gm_I g 44 61 + (W : Int) - hi) ∧ gm_I g 44 62 - loy ≤ y ∧ y < gm_I g 44 62 + (H : Int) - hiy := by
  have e : lie g W H b m t x y ↔ ∀ k, k < m → (0 ≤ mkX g b t k + x - gm_I g 44 61 ∧ mkX g b t k + x - gm_I g 44 61 ≤ (W : Int) - 1) ∧ 0 ≤ mkY g b t k + y - gm_I g 44 62 ∧ mkY g b t k + y - gm_I g 44 62 ≤ (H : Int) - 1 := Iff.rfl
  rw [e]
  obtain ⟨a1, j1, u1, v1⟩ := h1
  obtain ⟨a2, j2, u2, v2⟩ := h2
  obtain ⟨a3, j3, u3, v3⟩ := h3
  obtain ⟨a4, j4, u4, v4⟩ := h4
  constructor
  · intro z
    have z1 := z j1 u1
    have z2 := z j2 u2
    have z3 := z j3 u3
    have z4 := z j4 u4
    omega
  · intro z k hk
    have z1 := a1 k hk
    have z2 := a2 k hk
    have z3 := a3 k hk
    have z4 := a4 k hk
    omega
theorem row_in {g : gm_T} {W H D b m : Nat} {t lo loy hi hiy : Int} (m1 : 1 ≤ m) (h1 : lea (mkX g b t) m lo) (h2 : lea (mkY g b t) m loy) (h3 : gre (mkX g b t) m hi) (h4 : gre (mkY g b t) m hiy) {y : Int} (hy : gm_I g 44 62 - loy ≤ y ∧ y < gm_I g 44 62 + (H : Int) - hiy) (s : bst) : rrow g W H D b m t y s = frow g W H D b m t lo hi y s := by
  have x0 := h1.1 0 (by omega)
  have x1 := h3.1 0 (by omega)
  unfold rrow frow
  by_cases c : 0 ≤ (W : Int) - hi + lo
  · have hd := Int.toNat_of_nonneg c
    refine fx_mid (by omega) (by omega) (fun v q1 q2 s => ?_) (fun v q s => ?_) s
    · unfold rcol fcol
      rw [@if_pos _ (gd _) ((lie_iff h1 h2 h3 h4 v y).mpr ⟨⟨q1, by omega⟩, hy⟩)]
    · unfold rcol
      rw [@if_neg _ (gd _) (fun z => q (by
        have := (lie_iff h1 h2 h3 h4 v y).mp z
        omega))]
  · have hd : ((W : Int) - hi + lo).toNat = 0 := by omega
    rw [hd]
    exact fx_id W _ s (fun v q1 q2 s => by
      unfold rcol
      rw [@if_neg _ (gd _) (fun z => by
        have := (lie_iff h1 h2 h3 h4 v y).mp z
        omega)])
theorem row_out {g : gm_T} {W H D b m : Nat} {t lo loy hi hiy : Int} (h1 : lea (mkX g b t) m lo) (h2 : lea (mkY g b t) m loy) (h3 : gre (mkX g b t) m hi) (h4 : gre (mkY g b t) m hiy) {y : Int} (hy : ¬ (gm_I g 44 62 - loy ≤ y ∧ y < gm_I g 44 62 + (H : Int) - hiy)) (s : bst) : rrow g W H D b m t y s = s := by
  unfold rrow
  exact fx_id W _ s (fun v q1 q2 s => by
    unfold rcol
    rw [@if_neg _ (gd _) (fun z => hy ((lie_iff h1 h2 h3 h4 v y).mp z).2)])
theorem turn_eq {g : gm_T} {W H D b m : Nat} {t lo loy hi hiy : Int} (m1 : 1 ≤ m) (h1 : lea (mkX g b t) m lo) (h2 : lea (mkY g b t) m loy) (h3 : gre (mkX g b t) m hi) (h4 : gre (mkY g b t) m hiy) (s : bst) : rturn g W H D b m t s = fx (frow g W H D b m t lo hi) ((H : Int) - hiy + loy).toNat (gm_I g 44 62 - loy) s := by
  have x0 := h2.1 0 (by omega)
  have x1 := h4.1 0 (by omega)
  unfold rturn
  by_cases c : 0 ≤ (H : Int) - hiy + loy
  · have hd := Int.toNat_of_nonneg c
    exact fx_mid (by omega) (by omega) (fun v q1 q2 s => row_in m1 h1 h2 h3 h4 ⟨q1, by omega⟩ s) (fun v q s => row_out h1 h2 h3 h4 (fun z => q (by omega)) s) s
  · have hd : ((H : Int) - hiy + loy).toNat = 0 := by omega
    rw [hd]
    exact fx_id H _ s (fun v q1 q2 s => row_out h1 h2 h3 h4 (fun z => by omega) s)
theorem rcol_b {g : gm_T} {W H D b m : Nat} (hm : m ≤ 5) {t y : Int} (u : Int) (s : bst) (h : -1 ≤ s.1 ∧ s.1 ≤ 1000) : -1 ≤ (rcol g W H D b m t y u s).1 ∧ (rcol g W H D b m t y u s).1 ≤ 1000 := by
  unfold rcol
  by_cases z : lie g W H b m t u y
  · rw [@if_pos _ (gd _) z]
    exact fcol_b (g := g) (W := W) (H := H) (D := D) (b := b) hm (t := t) (y := y) u s h
  · rw [@if_neg _ (gd _) z]
    exact h
theorem rturn_b {g : gm_T} {W H D b m : Nat} (hm : m ≤ 5) (t : Int) (s : bst) (h : -1 ≤ s.1 ∧ s.1 ≤ 1000) : -1 ≤ (rturn g W H D b m t s).1 ∧ (rturn g W H D b m t s).1 ≤ 1000 := fx_b (fun _ s h => fx_b (rcol_b hm) _ _ s h) _ _ s h
theorem cp_turns {n : Nat} {g0 : gm_T} (VB : ∀ g, exc W_bs J_bs g0 g → V_bit n g) {W H D : Nat} {M : Nat → Nat} (h0 : isPh g0 W H D M) {b m : Nat} (hb : b < n) (hm : gm_I g0 50 b = (m : Int)) (m5 : 1 ≤ m ∧ m ≤ 5) : ∀ (d fuel : Nat) (t : Int) (g : gm_T) (s : bst), t + (d : Int) = 4 → 0 ≤ t → d < fuel → exc W_bs J_bs g0 g → isS g s → (-1 ≤ s.1 ∧ s.1 ≤ 1000) → ∃ g2, cp_search_l21 b fuel t g = some g2 ∧ exc W_bs J_bs g0 g2 ∧ isS g2 (fx (rturn g0 W H D b m) d t s) := by
  intro d
  induction d with
  | zero =>
    intro fuel t g s hd ht hf hx hS hs
    obtain ⟨f, rfl⟩ : ∃ f, fuel = f + 1 := ⟨fuel - 1, by omega⟩
    unfold cp_search_l21
    rw [jg_pos ⟨by omega, by omega⟩, if_neg (by omega)]
    exact ⟨g, rfl, hx, hS⟩
  | succ d ih =>
    intro fuel t g s hd ht hf hx hS hs
    obtain ⟨f, rfl⟩ : ∃ f, fuel = f + 1 := ⟨fuel - 1, by omega⟩
    obtain ⟨lo, loy, hi, hiy, r2, r3, r4, r5, g1, k1, k2, k3⟩ := cp_turn VB h0 hb hm m5 (t := t) (by omega) hx hS hs
    rw [← turn_eq m5.1 r2 r3 r4 r5] at k3
    obtain ⟨g2, u1, u2, u3⟩ := ih f (t + 1) g1 (rturn g0 W H D b m t s) (by omega) (by omega) (by omega) k2 k3 (rturn_b m5.2 t s hs)
    unfold cp_search_l21
    rw [jg_pos ⟨by omega, by omega⟩, if_pos (by omega), k1, jb1_some]
    exact ⟨g2, u1, u2, u3⟩
def s_0 : bst := (-1, (0, 0, 0), 0)
noncomputable def sAll (g : gm_T) (W H D b m : Nat) : bst := fx (rturn g W H D b m) 4 0 s_0
theorem sAll_b {g : gm_T} {W H D b m : Nat} (hm : m ≤ 5) : -1 ≤ (sAll g W H D b m).1 ∧ (sAll g W H D b m).1 ≤ 1000 := fx_b (rturn_b hm) _ _ s_0 ⟨by decide, by decide⟩
theorem cp_search_eq {n : Nat} {g0 : gm_T} (VB : ∀ g, exc W_bs J_bs g0 g → V_bit n g) {W H D : Nat} {M : Nat → Nat} (h0 : isPh g0 W H D M) {b m : Nat} (hb : b < n) (hm : gm_I g0 50 b = (m : Int)) (m5 : 1 ≤ m ∧ m ≤ 5) : ∃ g2, cp_search g0 b = some (if (sAll g0 W H D b m).1 < 0 then 0 else 1, g2) ∧ exc W_bs J_bs g0 g2 ∧ isS g2 (sAll g0 W H D b m) := by
  have x : exc W_bs J_bs g0 (gm_wI (gm_wI g0 25 6 (-1)) 25 7 0) := exc_wI (exc_wI exc_rf rfl) rfl
  obtain ⟨-, -, ⟨q1, -⟩, -⟩ := VB _ x b hb
  obtain ⟨g2, k1, k2, k3⟩ := cp_turns VB h0 hb hm m5 4 fz 0 _ s_0 (by decide) (by decide) (fz_gt rfl) x ⟨by rw [gI_ne (by decide), gI_eq]; rfl, by rw [gI_eq]; rfl, fun z => absurd z (by decide)⟩ ⟨by decide, by decide⟩
  refine ⟨g2, ?_, k2, k3⟩
  have hb2 := sAll_b (g := g0) (W := W) (H := H) (D := D) (b := b) m5.2
  have k31 : gm_I g2 25 6 = (sAll g0 W H D b m).1 := k3.1
  unfold cp_search
  rw [jl_eq, jl_eq, q1, x.1 50 b rfl, hm, jg_pos (rgn (by omega)), if_neg (by omega), k1, jb1_some, k31, jg_pos ⟨by omega, by omega⟩]
  by_cases c : (sAll g0 W H D b m).1 < 0
  · rw [if_pos c, if_pos c]
  · rw [if_neg c, if_neg c]
theorem cp_search_0 {n : Nat} {g0 : gm_T} (VB : ∀ g, exc W_bs J_bs g0 g → V_bit n g) {b : Nat} (hb : b < n) (hm : gm_I g0 50 b = 0) : ∃ g2, cp_search g0 b = some (0, g2) ∧ exc W_bs J_bs g0 g2 := by
  have x : exc W_bs J_bs g0 (gm_wI (gm_wI g0 25 6 (-1)) 25 7 0) := exc_wI (exc_wI exc_rf rfl) rfl
  obtain ⟨-, -, ⟨q1, -⟩, -⟩ := VB _ x b hb
  refine ⟨_, ?_, x⟩
  unfold cp_search
  rw [jl_eq, jl_eq, q1, x.1 50 b rfl, hm, jg_pos (rgk rfl), if_pos rfl]
