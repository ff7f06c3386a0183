/-! Questions: the reference's ask. -/
def W_as (a k : Nat) : Bool := a == 44 && (k == 40 || k == 41 || k == 86)
theorem as_ps {g g2 : gm_T} (h : exc W_ps nob g g2) : exc W_as nob g g2 := exc_mono h (fun a k q => by
  simp only [W_ps, Bool.and_eq_true, Bool.or_eq_true, beq_iff_eq] at q
  rcases q with ⟨rfl, rfl | rfl⟩ <;> rfl) (fun _ _ q => q)
theorem scr_as {g g2 : gm_T} (h : exc W_as nob g g2) : exc scr scrJ g g2 := exc_mono h (fun a k q => by
  simp only [W_as, Bool.and_eq_true, Bool.or_eq_true, beq_iff_eq] at q
  rcases q with ⟨rfl, (rfl | rfl) | rfl⟩ <;> rfl) (fun _ _ q => by cases q)
theorem isT_e {g g2 : gm_T} {L : Nat} {t : Nat → Int} (h : isT g L t) (e2 : gm_I g2 44 2 = gm_I g 44 2) (e45 : ∀ k, gm_I g2 45 k = gm_I g 45 k) : isT g2 L t := ⟨by rw [e2]; exact h.1, h.2.1, fun k hk => by rw [e45]; exact h.2.2.1 k hk, h.2.2.2⟩
theorem md_asks_eq {t : Nat → Int} {L : Nat} (hE : endT t L) {g : gm_T} (hT : isT g L t) {a : Int} (ha : rg a) {lv : Int → Int → Int} (hlv : ∀ p, a ≠ -1 → isLt (t p) → ∀ g', exc W_as nob g g' → gm_I g' 44 86 = a → md_letter g' (t p) = some (lv a (t p)) ∧ rg (lv a (t p))) : ∃ g2, md_asks g a = some (wI1 ((prs t (evl lv) 800 0 0).1 a), g2) ∧ exc W_as nob g g2 ∧ gm_I g2 44 40 = ((prs t (evl lv) 800 0 0).2.1 : Int) ∧ gm_I g2 44 41 = wI1 (prs t (evl lv) 800 0 0).2.2 := by
  have L240 := hT.2.1
  obtain ⟨g3, hg3⟩ : ∃ g3, g3 = gm_wI (gm_wI (gm_wI g 44 86 a) 44 40 0) 44 41 0 := ⟨_, rfl⟩
  have x3 : exc W_as nob g g3 := by
    rw [hg3]
    exact exc_wI (exc_wI (exc_wI exc_rf rfl) rfl) rfl
  have P3 : isP g3 L t a 0 false := ⟨isT_e hT (x3.1 44 2 rfl) (fun k => x3.1 45 k rfl), ⟨by rw [hg3, gI_ne (by decide), gI_eq]; rfl, by rw [hg3, gI_eq]; rfl⟩, by rw [hg3, gI_ne (by decide), gI_ne (by decide), gI_eq]⟩
  obtain ⟨g2, k1, k2, k3⟩ := md_qtf_eq hE ha (g0 := g3) (lv := lv) (fun p z l g' x => hlv p z l g' (exc_tr x3 (as_ps x)) (by rw [x.1 44 86 rfl]; exact P3.2.2)) 800 0 0 g3 (by decide) (by omega) (by omega) exc_rf P3
  refine ⟨g2, ?_, exc_tr x3 (as_ps k2), k3.2.1.1, k3.2.1.2⟩
  unfold md_asks
  rw [jl_eq, jl_eq, jl_eq, ← hg3, k1, jb2_some, jg_pos (wI1_or _)]
def W_63 (a k : Nat) : Bool := W_p a k || a == 83 || a == 101 || a == 102
theorem w63_p {g g2 : gm_T} (h : exc W_p nob g g2) : exc W_63 nob g g2 := exc_mono h (fun a k q => by unfold W_63; rw [q]; rfl) (fun _ _ q => q)
theorem w63_83 {g g2 : gm_T} (h : exc W_83 nob g g2) : exc W_63 nob g g2 := exc_mono h (fun a k q => by
  simp only [W_83, beq_iff_eq] at q
  subst q
  simp [W_63]) (fun _ _ q => q)
theorem scr_w63 {g g2 : gm_T} (h : exc W_63 nob g g2) : exc scr scrJ g g2 := exc_mono h (fun a k q => by
  simp only [W_63, W_p, Bool.and_eq_true, Bool.or_eq_true, beq_iff_eq] at q
  rcases q with ((⟨rfl, (rfl | rfl) | rfl⟩ | rfl) | rfl) | rfl <;> rfl) (fun _ _ q => by cases q)
theorem md_ask63_lp {n : Nat} {g : gm_T} {P : Nat → plc} (h : IWm n g P) {g9 : gm_T} (e9 : keepC g9 = keepC g) (H9 : isGr n g P g9) (h82 : ∀ i, i < jm g → gm_I g9 82 i = if bE n g i = true then 1 else 0) : ∀ (d k fuel : Nat) (g1 : gm_T), k + d = n → d < fuel → exc W_63 nob g9 g1 → (∀ b, b < k → gm_I g1 102 b = @ite _ (onW n g b) (gd _) 1 0 ∧ gm_I g1 101 b = if pvd n g b = true then 1 else 0) → ∃ g2, md_ask_l63 fuel (k : Int) g1 = some g2 ∧ exc W_63 nob g9 g2 ∧ ∀ b, b < n → gm_I g2 102 b = @ite _ (onW n g b) (gd _) 1 0 ∧ gm_I g2 101 b = if pvd n g b = true then 1 else 0 := by
  have h30 := h.1.1.2.2
  intro d
  induction d with
  | zero =>
    intro k fuel g1 hd hf x hv
    obtain ⟨f, rfl⟩ : ∃ f, fuel = f + 1 := ⟨fuel - 1, by omega⟩
    have e1 := (keepC_scr (scr_w63 x)).trans e9
    unfold md_ask_l63
    rw [(num_C e1 h.1.1).2.1, jg_pos ⟨rgn (by omega), rgn (by omega)⟩, if_neg (by omega)]
    exact ⟨g1, rfl, x, fun b hb => hv b (by omega)⟩
  | succ d ih =>
    intro k fuel g1 hd hf x hv
    obtain ⟨f, rfl⟩ : ∃ f, fuel = f + 1 := ⟨fuel - 1, by omega⟩
    have e1 := (keepC_scr (scr_w63 x)).trans e9
    have H1 := isGr_exc H9 x (fun a k q => by
      simp only [Bool.or_eq_true, beq_iff_eq] at q
      rcases q with ((rfl | rfl) | rfl) | rfl <;> rfl)
    have hon : ∃ g2, md_onWall g1 (k : Int) = some (@ite _ (onW n g k) (gd _) 1 0, g2) ∧ exc W_p nob g1 g2 := by
      rcases md_onWall_eq h e1 H1 (b := k) (by omega) with ⟨z1, z2⟩ | ⟨z1, g2, z2, -, z4⟩
      · exact ⟨g1, by rw [z2, @if_neg _ (gd _) z1], exc_rf⟩
      · exact ⟨g2, by rw [z2, @if_pos _ (gd _) z1], z4⟩
    obtain ⟨g2, k1, k2⟩ := hon
    have x3 : exc W_63 nob g9 (gm_wI g2 102 k (@ite _ (onW n g k) (gd _) 1 0)) := exc_wI (exc_tr x (w63_p k2)) rfl
    have e3 := (keepC_scr (scr_w63 x3)).trans e9
    obtain ⟨g4, r1, r2, -⟩ := md_provedFrom_eq h e3 (fun i hi => by rw [x3.1 82 i rfl]; exact h82 i hi) (bit := k) (by omega)
    have x4 := exc_tr x3 (w63_83 r2)
    have hor : (@ite _ (onW n g k) (gd _) (1 : Int) 0) = 0 ∨ (@ite _ (onW n g k) (gd _) (1 : Int) 0) = 1 := by
      by_cases z : onW n g k
      · exact Or.inr (@if_pos _ (gd _) z _ _ _)
      · exact Or.inl (@if_neg _ (gd _) z _ _ _)
    have fin : ∀ v, v = (if pvd n g k = true then (1 : Int) else 0) → ∃ g5, md_ask_l63 f ((k : Int) + 1) (gm_wI g4 101 k v) = some g5 ∧ exc W_63 nob g9 g5 ∧ ∀ b, b < n → gm_I g5 102 b = @ite _ (onW n g b) (gd _) 1 0 ∧ gm_I g5 101 b = if pvd n g b = true then 1 else 0 := fun v hvv => ih (k + 1) f _ (by omega) (by omega) (exc_wI x4 rfl) (fun b hb => by
      by_cases z : b = k
      · rw [z, gI_oth (show 102 ≠ 101 by decide), gI_eq, r2.1 102 k rfl, gI_eq]
        exact ⟨rfl, hvv⟩
      · obtain ⟨q1, q2⟩ := hv b (by omega)
        rw [gI_oth (show 102 ≠ 101 by decide), gI_ne z, r2.1 102 b rfl, r2.1 101 b rfl, gI_ne z, gI_oth (show 101 ≠ 102 by decide), k2.1 102 b rfl, k2.1 101 b rfl]
        exact ⟨q1, q2⟩)
    have hp : pvd n g k = decide (¬ pfr n g k = -1) := rfl
    unfold md_ask_l63
    rw [(num_C e1 h.1.1).2.1, jg_pos ⟨rgn (by omega), rgn (by omega)⟩, if_pos (by omega), k1, jb2_some, jg_pos (by omega), jg_pos hor, jl_eq, Int.toNat_natCast, r1, jb2_some]
    rcases pfr_sp n g k with ⟨z1, z2⟩ | ⟨i, z1, z2, z3⟩
    · rw [z1, jg_pos (rgk rfl), if_pos rfl, jl_eq]
      exact fin 0 (by rw [hp, z1]; rfl)
    · rw [z3, jg_pos (rgn (by omega)), if_neg (by omega), jl_eq]
      exact fin 1 (by rw [hp, z3, decide_eq_true (by omega)]; rfl)
def W_115 (a k : Nat) : Bool := W_as a k || a == 103 || (a == 44 && k == 84)
theorem w115_as {g g2 : gm_T} (h : exc W_as nob g g2) : exc W_115 nob g g2 := exc_mono h (fun a k q => by unfold W_115; rw [q]; rfl) (fun _ _ q => q)
theorem md_ask115_lp {n : Nat} {t : Nat → Int} {L : Nat} (hE : endT t L) (h30 : n ≤ 30) {g0 : gm_T} (hn : gm_I g0 44 3 = (n : Int)) (hT : isT g0 L t) {lv : Int → Int → Int} (hlv : ∀ (b : Nat) p, b < n → isLt (t p) → ∀ g', exc W_115 nob g0 g' → gm_I g' 44 86 = (b : Int) → md_letter g' (t p) = some (lv (b : Int) (t p)) ∧ rg (lv (b : Int) (t p))) : ∀ (d k fuel : Nat) (g1 : gm_T), k + d = n → d < fuel → exc W_115 nob g0 g1 → gm_I g1 44 84 = ((ct (fun b : Nat => (prs t (evl lv) 800 0 0).1 (b : Int)) k : Nat) : Int) → (∀ b : Nat, b < k → (prs t (evl lv) 800 0 0).1 (b : Int) = true → gm_I g1 103 (ct (fun b : Nat => (prs t (evl lv) 800 0 0).1 (b : Int)) b) = (b : Int)) → ∃ g2, md_ask_l115 fuel (k : Int) g1 = some g2 ∧ exc W_115 nob g0 g2 ∧ gm_I g2 44 84 = ((ct (fun b : Nat => (prs t (evl lv) 800 0 0).1 (b : Int)) n : Nat) : Int) ∧ ∀ b : Nat, b < n → (prs t (evl lv) 800 0 0).1 (b : Int) = true → gm_I g2 103 (ct (fun b : Nat => (prs t (evl lv) 800 0 0).1 (b : Int)) b) = (b : Int) := by
  intro d
  induction d with
  | zero =>
    intro k fuel g1 hd hf x h84 hv
    obtain ⟨f, rfl⟩ : ∃ f, fuel = f + 1 := ⟨fuel - 1, by omega⟩
    have hk : k = n := by omega
    unfold md_ask_l115
    rw [x.1 44 3 rfl, hn, jg_pos ⟨rgn (by omega), rgn (by omega)⟩, if_neg (by omega)]
    rw [hk] at h84 hv
    exact ⟨g1, rfl, x, h84, hv⟩
  | succ d ih =>
    intro k fuel g1 hd hf x h84 hv
    obtain ⟨f, rfl⟩ : ∃ f, fuel = f + 1 := ⟨fuel - 1, by omega⟩
    obtain ⟨g2, k1, k2, -⟩ := md_asks_eq hE (isT_e hT (x.1 44 2 rfl) (fun j => x.1 45 j rfl)) (a := (k : Int)) (rgn (by omega)) (lv := lv) (fun p z l g' x' q => hlv k p (by omega) l g' (exc_tr x (w115_as x')) q)
    have hle := ct_le (fun b : Nat => (prs t (evl lv) 800 0 0).1 (b : Int)) k
    have x2 := exc_tr x (w115_as k2)
    have v2 : ∀ b : Nat, b < k → (prs t (evl lv) 800 0 0).1 (b : Int) = true → gm_I g2 103 (ct (fun b : Nat => (prs t (evl lv) 800 0 0).1 (b : Int)) b) = (b : Int) := fun b hb q => by
      rw [k2.1 103 _ rfl]
      exact hv b hb q
    unfold md_ask_l115
    rw [x.1 44 3 rfl, hn, jg_pos ⟨rgn (by omega), rgn (by omega)⟩, if_pos (by omega), k1, jb2_some, jg_pos (wI1_rg _)]
    by_cases c : (prs t (evl lv) 800 0 0).1 (k : Int) = true
    · rw [c, wI1_t, if_neg n10, k2.1 44 84 rfl, h84, jg_pos (by omega), jl_eq, jl_eq, Int.toNat_natCast, gI_oth (show 44 ≠ 103 by decide), k2.1 44 84 rfl, h84]
      refine ih (k + 1) f _ (by omega) (by omega) (exc_wI (exc_wI x2 rfl) rfl) ?_ (fun b hb q => ?_)
      · rw [gI_eq]
        exact ct_s1 (p := fun b : Nat => (prs t (evl lv) 800 0 0).1 (b : Int)) c
      · rw [gI_oth (show 103 ≠ 44 by decide)]
        by_cases z : b = k
        · rw [z, gI_eq]
        · have hlt : ct (fun b : Nat => (prs t (evl lv) 800 0 0).1 (b : Int)) b < ct (fun b : Nat => (prs t (evl lv) 800 0 0).1 (b : Int)) k := by
            have h1 : ct (fun b : Nat => (prs t (evl lv) 800 0 0).1 (b : Int)) (b + 1) = ct (fun b : Nat => (prs t (evl lv) 800 0 0).1 (b : Int)) b + 1 := by rw [ct_succ, if_pos q]
            obtain ⟨w, hw⟩ : ∃ w, k = b + 1 + w := ⟨k - b - 1, by omega⟩
            rw [hw, ct_split, h1]
            omega
          rw [gI_ne (by omega)]
          exact v2 b (by omega) q
    · have c2 : (prs t (evl lv) 800 0 0).1 (k : Int) = false := Bool.eq_false_iff.mpr c
      rw [c2, wI1_f, if_pos rfl]
      refine ih (k + 1) f _ (by omega) (by omega) x2 ?_ (fun b hb q => ?_)
      · rw [k2.1 44 84 rfl, h84]
        exact ct_s0 (p := fun b : Nat => (prs t (evl lv) 800 0 0).1 (b : Int)) c
      · by_cases z : b = k
        · rw [z] at q
          exact absurd q c
        · exact v2 b (by omega) q
