/-! The reference lays the cells of a new bit. -/
def W_ly (n a j : Nat) : Bool := ((a == 57 || a == 58) && j == n) || ((a == 59 || a == 60 || a == 61) && decide (1600 * n ≤ j ∧ j < 1600 * n + 1600))
theorem W_ly_57 {n : Nat} : W_ly n 57 n = true := by unfold W_ly; simp
theorem W_ly_58 {n : Nat} : W_ly n 58 n = true := by unfold W_ly; simp
theorem W_ly_59 {n i : Nat} (h : i < 1600) : W_ly n 59 (1600 * n + i) = true := by
  unfold W_ly
  rw [show decide (1600 * n ≤ 1600 * n + i ∧ 1600 * n + i < 1600 * n + 1600) = true from decide_eq_true (by omega)]
  rfl
theorem W_ly_60 {n i : Nat} (h : i < 1600) : W_ly n 60 (1600 * n + i) = true := by
  unfold W_ly
  rw [show decide (1600 * n ≤ 1600 * n + i ∧ 1600 * n + i < 1600 * n + 1600) = true from decide_eq_true (by omega)]
  rfl
theorem W_ly_61 {n i : Nat} (h : i < 1600) : W_ly n 61 (1600 * n + i) = true := by
  unfold W_ly
  rw [show decide (1600 * n ≤ 1600 * n + i ∧ 1600 * n + i < 1600 * n + 1600) = true from decide_eq_true (by omega)]
  rfl
theorem isR_exc {W : Nat → Nat → Bool} {n c : Nat} {X Y : Nat → Int} {g g2 : gm_T} (x : exc W nob g g2) (h46 : W 46 n = false) (h47 : ∀ k, W 47 k = false) (h48 : ∀ k, W 48 k = false) (h : isR g n c X Y) : isR g2 n c X Y := ⟨by rw [x.1 46 n h46]; exact h.1, fun k hk => by rw [x.1 47 _ (h47 _), x.1 48 _ (h48 _)]; exact h.2 k hk⟩
def lyI (n c : Nat) (X Y : Nat → Int) (g g2 : gm_T) (V u : Nat) : Prop := exc (W_ly n) nob g g2 ∧ (∀ v' u', u' < 40 → (v' < V ∨ (v' = V ∧ u' < u)) → gm_I g2 61 (1600 * n + (40 * v' + u')) = if winr c X Y (gq u') (gq v') = true then 1 else 0) ∧ ∃ N : Nat, gm_I g2 57 n = (N : Int) ∧ N ≤ 40 * V + u ∧ (∀ i, i < N → (-20 ≤ gm_I g2 59 (1600 * n + i) ∧ gm_I g2 59 (1600 * n + i) ≤ 19) ∧ -20 ≤ gm_I g2 60 (1600 * n + i) ∧ gm_I g2 60 (1600 * n + i) ≤ 19) ∧ ∀ f : Int → Int → Nat, sm (fun i => f (gm_I g2 59 (1600 * n + i)) (gm_I g2 60 (1600 * n + i))) N = sm (fun v => sm (fun u => if winr c X Y (gq u) (gq v) = true then f (gq u) (gq v) else 0) 40) V + sm (fun u => if winr c X Y (gq u) (gq V) = true then f (gq u) (gq V) else 0) u
theorem gq_s (u : Nat) : gq u + 1 = gq (u + 1) := by unfold gq; omega
theorem md_lays_in {n c : Nat} {X Y : Nat → Int} {g : gm_T} (hn : n < 30) (hG : rG c X Y) (h : isR g n c X Y) {V : Nat} (hV : V < 40) : ∀ d u fuel g2, d < fuel → u + d = 40 → lyI n c X Y g g2 V u → ∃ g3, md_lays_l19 (n : Int) (gq V) fuel (gq u) g2 = some g3 ∧ lyI n c X Y g g3 V 40 := by
  intro d
  induction d with
  | zero =>
    intro u fuel g2 hf hu I
    obtain ⟨fuel, rfl⟩ : ∃ z, fuel = z + 1 := ⟨fuel - 1, by omega⟩
    have e : u = 40 := by omega
    subst e
    unfold md_lays_l19
    rw [jg_pos (show rg (gq 40) from rgk rfl), if_neg (by decide)]
    exact ⟨g2, rfl, I⟩
  | succ d ih =>
    intro u fuel g2 hf hu I
    obtain ⟨fuel, rfl⟩ : ∃ z, fuel = z + 1 := ⟨fuel - 1, by omega⟩
    have hu40 : u < 40 := by omega
    obtain ⟨x2, i61, N, h57, hN, hr, hs⟩ := I
    have R2 := isR_exc x2 rfl (fun _ => rfl) (fun _ => rfl) h
    have hi : (1600 * (n : Int) + 40 * (gq V + 20)) + gq u + 20 = ((1600 * n + (40 * V + u) : Nat) : Int) := by unfold gq; omega
    unfold md_lays_l19 md_gridOf
    rw [jg_pos ⟨by unfold gq; omega, by unfold gq; omega⟩, if_pos (by unfold gq; omega), md_isWithin_eq hn hG R2 (by unfold gq; omega) (by unfold gq; omega), jb1_some, jb1_some, hi, jg_pos (by omega), Int.toNat_natCast, jg_pos (b01_z _), jl_eq, jg_pos (b01_r _), gq_s]
    have X24 : exc (W_ly n) nob g (gm_wI g2 61 (1600 * n + (40 * V + u)) (if winr c X Y (gq u) (gq V) = true then 1 else 0)) := exc_wI x2 (W_ly_61 (by omega))
    have s61 : ∀ v' u', u' < 40 → (v' < V ∨ (v' = V ∧ u' < u + 1)) → gm_I (gm_wI g2 61 (1600 * n + (40 * V + u)) (if winr c X Y (gq u) (gq V) = true then 1 else 0)) 61 (1600 * n + (40 * v' + u')) = if winr c X Y (gq u') (gq v') = true then 1 else 0 := fun v' u' h1 h2 => by
      by_cases e : v' = V ∧ u' = u
      · rw [e.1, e.2, gI_eq]
      · rw [gI_ne (by omega)]
        exact i61 v' u' h1 (by omega)
    by_cases w : winr c X Y (gq u) (gq V) = true
    rotate_left
    · rw [if_neg w, if_pos rfl]
      rw [if_neg w] at X24 s61
      refine ih (u + 1) fuel _ (by omega) (by omega) ⟨X24, s61, N, by rw [gI_oth (by decide)]; exact h57, by omega, fun i hi => ?_, fun f => ?_⟩
      · rw [gI_oth (by decide), gI_oth (by decide)]; exact hr i hi
      · rw [sm_succ, if_neg w, Nat.add_zero, ← hs f]
        exact sm_cong fun i hi => by rw [gI_oth (by decide), gI_oth (by decide)]
    · rw [if_pos w, if_neg n10]
      rw [if_pos w] at X24 s61
      have h57' : gm_I (gm_wI g2 61 (1600 * n + (40 * V + u)) 1) 57 n = (N : Int) := by rw [gI_oth (by decide)]; exact h57
      have hi2 : 1600 * (n : Int) + (N : Int) = ((1600 * n + N : Nat) : Int) := by omega
      rw [jg_pos (by omega), Int.toNat_natCast, h57', hi2, jg_pos (by omega), Int.toNat_natCast, jl_eq, gI_oth (show (57 : Nat) ≠ 59 by decide), h57', hi2, jg_pos (by omega), Int.toNat_natCast, jl_eq, gI_oth (show (57 : Nat) ≠ 60 by decide), gI_oth (show (57 : Nat) ≠ 59 by decide), h57', jl_eq]
      refine ih (u + 1) fuel _ (by omega) (by omega) ⟨exc_wI (exc_wI (exc_wI X24 (W_ly_59 (by omega))) (W_ly_60 (by omega))) W_ly_57, fun v' u' h1 h2 => ?_, N + 1, gI_eq, by omega, fun i hi => ?_, fun f => ?_⟩
      · rw [gI_oth (by decide), gI_oth (by decide), gI_oth (by decide)]
        exact s61 v' u' h1 h2
      · by_cases e : i = N
        · rw [e, gI_oth (by decide), gI_oth (by decide), gI_eq, gI_oth (by decide), gI_eq]
          unfold gq
          omega
        · rw [gI_oth (by decide), gI_oth (by decide), gI_ne (by omega), gI_oth (by decide), gI_oth (by decide), gI_ne (by omega), gI_oth (by decide), gI_oth (by decide)]
          exact hr i (by omega)
      · rw [sm_succ, sm_succ, if_pos w]
        refine Eq.trans ?_ (Nat.add_assoc _ _ _)
        rw [← hs f]
        have e1 : ∀ i, i < N → f (gm_I (gm_wI (gm_wI (gm_wI (gm_wI g2 61 (1600 * n + (40 * V + u)) 1) 59 (1600 * n + N) (gq u)) 60 (1600 * n + N) (gq V)) 57 n ((N : Int) + 1)) 59 (1600 * n + i)) (gm_I (gm_wI (gm_wI (gm_wI (gm_wI g2 61 (1600 * n + (40 * V + u)) 1) 59 (1600 * n + N) (gq u)) 60 (1600 * n + N) (gq V)) 57 n ((N : Int) + 1)) 60 (1600 * n + i)) = f (gm_I g2 59 (1600 * n + i)) (gm_I g2 60 (1600 * n + i)) := fun i hi => by
          rw [gI_oth (by decide), gI_oth (by decide), gI_ne (by omega), gI_oth (by decide), gI_oth (by decide), gI_ne (by omega), gI_oth (by decide), gI_oth (by decide)]
        rw [sm_cong e1]
        congr 1
        rw [gI_oth (by decide), gI_oth (by decide), gI_eq, gI_oth (by decide), gI_eq]
theorem lyI_row {n c : Nat} {X Y : Nat → Int} {g g2 : gm_T} {V : Nat} (I : lyI n c X Y g g2 V 40) : lyI n c X Y g g2 (V + 1) 0 := by
  obtain ⟨x2, i61, N, h57, hN, hr, hs⟩ := I
  exact ⟨x2, fun v' u' h1 h2 => i61 v' u' h1 (by omega), N, h57, by omega, hr, fun f => by rw [hs f, sm_succ]; rfl⟩
theorem md_lays_out {n c : Nat} {X Y : Nat → Int} {g : gm_T} (hn : n < 30) (hG : rG c X Y) (h : isR g n c X Y) : ∀ d V fuel g2, d < fuel → V + d = 40 → lyI n c X Y g g2 V 0 → ∃ g3, md_lays_l10 (n : Int) fuel (gq V) g2 = some g3 ∧ lyI n c X Y g g3 40 0 := by
  intro d
  induction d with
  | zero =>
    intro V fuel g2 hf hu I
    obtain ⟨fuel, rfl⟩ : ∃ z, fuel = z + 1 := ⟨fuel - 1, by omega⟩
    have e : V = 40 := by omega
    subst e
    unfold md_lays_l10
    rw [jg_pos (show rg (gq 40) from rgk rfl), if_neg (by decide)]
    exact ⟨g2, rfl, I⟩
  | succ d ih =>
    intro V fuel g2 hf hu I
    obtain ⟨fuel, rfl⟩ : ∃ z, fuel = z + 1 := ⟨fuel - 1, by omega⟩
    obtain ⟨g3, e3, I3⟩ := md_lays_in hn hG h (show V < 40 by omega) 40 0 fz g2 (fz_gt rfl) rfl I
    unfold md_lays_l10
    rw [jg_pos ⟨by unfold gq; omega, by unfold gq; omega⟩, if_pos (by unfold gq; omega), show md_lays_l19 (n : Int) (gq V) fz (-20) g2 = some g3 from e3, jb1_some, gq_s]
    exact ih (V + 1) fuel g3 (by omega) (by omega) (lyI_row I3)
theorem md_lays_eq {n c : Nat} {X Y : Nat → Int} {g : gm_T} (hn : n < 30) (hG : rG c X Y) (h : isR g n c X Y) : ∃ g2, md_lays g (n : Int) = some g2 ∧ lyI n c X Y g g2 40 0 ∧ gm_I g2 58 n = rar c X Y c := by
  have X1 : exc (W_ly n) nob g (gm_wI g 57 n 0) := exc_wI exc_rf W_ly_57
  obtain ⟨g3, e3, I3⟩ := md_lays_out hn hG h 40 0 fz (gm_wI g 57 n 0) (fz_gt rfl) rfl ⟨X1, fun v' u' h1 h2 => by omega, 0, gI_eq, Nat.le_refl _, fun i hi => by omega, fun f => rfl⟩
  have R3 := isR_exc I3.1 rfl (fun _ => rfl) (fun _ => rfl) h
  unfold md_lays
  rw [jg_pos (by omega), Int.toNat_natCast, jl_eq, show md_lays_l10 (n : Int) fz (-20) (gm_wI g 57 n 0) = some g3 from e3, jb1_some, md_areaOf_eq hn hG R3, jb1_some, jl_eq]
  obtain ⟨x2, i61, N, h57, hN, hr, hs⟩ := I3
  refine ⟨_, rfl, ⟨exc_wI x2 W_ly_58, fun v' u' h1 h2 => ?_, N, ?_, hN, fun i hi => ?_, fun f => ?_⟩, gI_eq⟩
  · rw [gI_oth (by decide)]; exact i61 v' u' h1 h2
  · rw [gI_oth (by decide)]; exact h57
  · rw [gI_oth (by decide), gI_oth (by decide)]; exact hr i hi
  · rw [← hs f]
    exact sm_cong fun i hi => by rw [gI_oth (by decide), gI_oth (by decide)]
