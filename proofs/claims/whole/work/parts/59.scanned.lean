/-! The photograph's scan: class and reference. -/
def rowsOk (g : gm_T) (t : Nat → Int) (W r : Nat) : Prop := ∀ y x, y < r → x < W → isc (t (y * (W + 1) + x)) = true ∧ gm_I g 89 (16 * y + x) = cvl (t (y * (W + 1) + x))
def phOk (g : gm_T) (L : Nat) (t : Nat → Int) (W H : Nat) : Prop := (1 ≤ W ∧ W ≤ 16) ∧ (1 ≤ H ∧ H ≤ 16) ∧ L + 1 = H * (W + 1) ∧ rowsOk g t W H ∧ ∀ y, y + 1 < H → t (y * (W + 1) + W) = 47
theorem rows_all {g0 gc : gm_T} {L : Nat} {t : Nat → Int} (hT : isT g0 L t) (hC : isTc gc L t) : ∀ (d r p W fuel fuelc : Nat) (g1 : gm_T), r + d = 15 → d + 2 ≤ fuel → L + 1 ≤ fuelc + p → exc W_rd nob g0 g1 → gm_I g1 44 40 = (p : Int) → gm_I g1 44 67 = (r : Int) → (r ≠ 0 → gm_I g1 44 66 = (W : Int)) → (r ≠ 0 → 1 ≤ W ∧ W ≤ 16) → p = r * (W + 1) → p ≤ L → rowsOk g1 t W r → (∀ y, y < r → t (y * (W + 1) + W) = 47) → ∃ g2, md_readsRows_l22 fuel 1 g1 = some g2 ∧ exc W_rd nob g0 g2 ∧ ((∃ W2 H : Nat, phOk g2 L t W2 H ∧ gm_I g2 44 66 = (W2 : Int) ∧ gm_I g2 44 67 = (H : Int) ∧ gm_I g2 44 41 = 0 ∧ gm_I g2 44 40 = (L : Int) ∧ cpf gc (cp_faultOf_l11 gc fuelc (r : Int) 0 ((if r = 0 then 16 else W : Nat) : Int) (p : Int)) = some (-1)) ∨ ∃ q : Nat, q ≤ L ∧ gm_I g2 44 40 = (q : Int) ∧ (gm_I g2 44 41 = 1 ∨ (gm_I g2 44 41 = 0 ∧ q ≠ L)) ∧ cpf gc (cp_faultOf_l11 gc fuelc (r : Int) 0 ((if r = 0 then 16 else W : Nat) : Int) (p : Int)) = some (q : Int)) := by
  have l2 := hT.2.1
  intro d
  induction d using Nat.strongRecOn with
  | ind d ih =>
    intro r p W fuel fuelc g1 hd hf hfc hx h40 h67 h66 hW hp hl hrows hbr
    obtain ⟨f, rfl⟩ : ∃ f, fuel = f + 2 := ⟨fuel - 2, by omega⟩
    obtain ⟨x2, W2, g2, a1, a2, a3, a4, a5, a6, a7, a8, a9, a10, a11⟩ := md_row (isT_tr hx hT) (p := p) (r := r) (W := W) h40 hl h67 (by omega) h66 hW f
    obtain ⟨lim, hlim⟩ : ∃ lim : Nat, lim = if r = 0 then 16 else W := ⟨_, rfl⟩
    rw [← hlim] at a2 a5 ⊢
    have hlim16 : lim ≤ 16 := by
      rw [hlim]
      by_cases z : r = 0
      · rw [if_pos z]
        omega
      · rw [if_neg z]
        exact (hW z).2
    have hgood : (if r = 0 then 0 < x2 else x2 = lim) ↔ ¬ (x2 = 0 ∨ x2 < W2) := by
      by_cases z : r = 0
      · rw [if_pos z] at a1 ⊢
        omega
      · have := hW z
        rw [if_neg z] at a1 hlim ⊢
        omega
    have hp2 : p = r * (W2 + 1) := by
      by_cases z : r = 0
      · rw [hp, z, Nat.zero_mul, Nat.zero_mul]
      · rw [if_neg z] at a1
        rw [hp, a1]
    have hWe : r ≠ 0 → W2 = W := fun z => by
      rw [if_neg z] at a1
      exact a1
    obtain ⟨fc, hfcE⟩ : ∃ fc, fuelc = (fc + 1) + x2 := ⟨fuelc - x2 - 1, by omega⟩
    have c1 := cp_row hC (r := r) (lim := lim) (by omega) x2 0 p (fc + 1) (by omega) (fun i hi => (a4 i hi).1)
    have c2 := cp_end hC (r := r) (x := x2) (lim := lim) (q := p + x2) (by omega) a3 a2 hlim16 a5 fc
    rw [Nat.zero_add, ← hfcE] at c1
    have c3 : cpf gc (cp_faultOf_l11 gc fuelc (r : Int) 0 (lim : Int) (p : Int)) = _ := (congrArg (cpf gc) c1).trans c2
    have xq : ∀ q : Int, exc W_rd nob g0 (gm_wI g2 44 40 q) := fun q => exc_wI (exc_tr hx a6) rfl
    have q40 : ∀ q : Int, gm_I (gm_wI g2 44 40 q) 44 40 = q := fun q => gI_eq
    have q41 : ∀ q : Int, gm_I (gm_wI g2 44 40 q) 44 41 = gm_I g2 44 41 := fun q => gI_ne (by decide)
    have q66 : ∀ q : Int, gm_I (gm_wI g2 44 40 q) 44 66 = gm_I g2 44 66 := fun q => gI_ne (by decide)
    have q67 : ∀ q : Int, gm_I (gm_wI g2 44 40 q) 44 67 = gm_I g2 44 67 := fun q => gI_ne (by decide)
    have q89 : ∀ (q : Int) k, gm_I (gm_wI g2 44 40 q) 89 k = gm_I g2 89 k := fun q k => gI_oth (by decide)
    by_cases g : ¬ (x2 = 0 ∨ x2 < W2)
    · have hx2 : x2 = W2 := by
        by_cases z : r = 0
        · rw [if_pos z] at a1
          omega
        · have := hgood.mpr g
          rw [if_neg z] at this hlim
          have := hWe z
          omega
      have h1 : W2 ≤ 16 := by omega
      have hmul : (r + 1) * (W2 + 1) = r * (W2 + 1) + (W2 + 1) := Nat.succ_mul r (W2 + 1)
      have newrows : ∀ q : Int, rowsOk (gm_wI g2 44 40 q) t W2 (r + 1) := fun q y x hy hx2' => by
        rw [q89]
        by_cases z : y = r
        · rw [z, ← hp2]
          exact a4 x (by omega)
        · have hr0 : r ≠ 0 := by omega
          have e := hWe hr0
          rw [e] at hx2' ⊢
          have := hW hr0
          rw [a10 (16 * y + x) (by omega)]
          exact hrows y x (by omega) hx2'
      have oldbr : ∀ y, y < r → t (y * (W2 + 1) + W2) = 47 := fun y hy => by
        rw [hWe (by omega)]
        exact hbr y hy
      rw [if_neg g] at a9
      by_cases e1 : p + x2 = L
      · rw [if_pos ⟨hgood.mpr g, e1⟩] at c3
        rw [if_neg (fun z => by
          have := hT.2.2.2 (p + x2) (by omega)
          have := z.2.2
          omega)] at a11
        refine ⟨_, a11, xq _, Or.inl ⟨W2, r + 1, ⟨by omega, by omega, by omega, newrows _, fun y hy => oldbr y (by omega)⟩, by rw [q66, a7], by rw [q67, a8], by rw [q41, a9], by rw [q40, e1], c3⟩⟩
      · rw [if_neg (fun z => e1 z.2)] at c3
        by_cases e2 : r + 1 < 16 ∧ t (p + x2) = 47
        · rw [if_pos ⟨hgood.mpr g, e2⟩] at c3
          rw [if_pos ⟨g, e2⟩] at a11
          obtain ⟨g3, b1, b2, b3⟩ := ih (d - 1) (by omega) (r + 1) (p + x2 + 1) W2 (f + 1) fc (gm_wI g2 44 40 ((p + x2 + 1 : Nat) : Int)) (by omega) (by omega) (by omega) (xq _) (q40 _) (by rw [q67, a8]) (fun _ => by rw [q66, a7]) (fun _ => by omega) (by omega) (by omega) (newrows _) (fun y hy => by
            by_cases z : y = r
            · rw [z, ← hp2, ← hx2]
              exact e2.2
            · exact oldbr y (by omega))
          rw [if_neg (by omega), ← hx2] at b3
          rw [a11, c3]
          exact ⟨g3, b1, b2, b3⟩
        · rw [if_neg (fun z => e2 z.2)] at c3 a11
          refine ⟨_, a11, xq _, Or.inr ⟨p + x2, a3, q40 _, Or.inr ⟨by rw [q41, a9], e1⟩, c3⟩⟩
    · rw [if_neg (fun z => g (hgood.mp z.1)), if_neg (fun z => g (hgood.mp z.1))] at c3
      rw [if_neg (fun z => g z.1)] at a11
      rw [if_pos (by omega)] at a9
      exact ⟨_, a11, xq _, Or.inr ⟨p + x2, a3, q40 _, Or.inl (by rw [q41, a9]), c3⟩⟩
theorem scan_eq {g gc : gm_T} {L : Nat} {t : Nat → Int} (hT : isT g L t) (hC : isTc gc L t) : ∃ g2, md_readsRows g = some g2 ∧ exc W_rd nob g g2 ∧ ((∃ W H : Nat, phOk g2 L t W H ∧ gm_I g2 44 66 = (W : Int) ∧ gm_I g2 44 67 = (H : Int) ∧ gm_I g2 44 41 = 0 ∧ cp_faultOf gc = some (-1)) ∨ ∃ q : Nat, q ≤ L ∧ gm_I g2 44 40 = (q : Int) ∧ gm_I g2 44 41 = 1 ∧ cp_faultOf gc = some (q : Int)) := by
  have l2 := hT.2.1
  obtain ⟨g1, hg1⟩ : ∃ g1, g1 = gm_wI (gm_wI (gm_wI (gm_wI g 44 40 0) 44 41 0) 44 66 0) 44 67 0 := ⟨_, rfl⟩
  have x1 : exc W_rd nob g g1 := by
    rw [hg1]
    exact exc_wI (exc_wI (exc_wI (exc_wI exc_rf rfl) rfl) rfl) rfl
  obtain ⟨g2, r1, r2, r3⟩ := rows_all hT hC 15 0 0 0 fz fz g1 rfl (Nat.le_of_lt (fz_gt rfl)) (Nat.le_trans (show L + 1 ≤ 300 by omega) (Nat.le_of_lt (fz_gt rfl))) x1 (by rw [hg1, gI_ne (by decide), gI_ne (by decide), gI_ne (by decide), gI_eq]; rfl) (by rw [hg1, gI_eq]; rfl) (fun z => absurd rfl z) (fun z => absurd rfl z) (Nat.zero_mul 1).symm (Nat.zero_le _) (fun y x hy => by omega) (fun y hy => by omega)
  have eC : cp_faultOf gc = cpf gc (cp_faultOf_l11 gc fz 0 0 16 0) := rfl
  have t2 := isT_tr r2 hT
  unfold md_readsRows
  rw [jl_eq, jl_eq, jl_eq, jl_eq, ← hg1, r1, jb1_some]
  rcases r3 with ⟨W, H, b1, b2, b3, b4, b5, b6⟩ | ⟨q, b1, b2, b3, b4⟩
  · rw [b4, jg_pos (rgk rfl), if_pos rfl, b5, t2.1, jg_pos ⟨rgn (by omega), rgn (by omega)⟩, if_pos rfl, jl_eq]
    refine ⟨_, rfl, exc_wI r2 rfl, Or.inl ⟨W, H, ?_, by rw [gI_ne (by decide), b2], by rw [gI_ne (by decide), b3], gI_eq, eC.trans b6⟩⟩
    obtain ⟨c1, c2, c3, c4, c5⟩ := b1
    exact ⟨c1, c2, c3, fun y x hy hx => by rw [gI_oth (by decide)]; exact c4 y x hy hx, c5⟩
  · have fin : (jg (rg (gm_I g2 44 41)) (if (gm_I g2 44 41) = 0 then (jg (rg (gm_I g2 44 40) ∧ rg (gm_I g2 44 2)) (if (gm_I g2 44 40) = (gm_I g2 44 2) then (jl (gm_wI g2 44 41 0) fun (g67 : gm_T) => some g67) else (jl (gm_wI g2 44 41 1) fun (g68 : gm_T) => some g68))) else (jl (gm_wI g2 44 41 1) fun (g69 : gm_T) => some g69))) = some (gm_wI g2 44 41 1) := by
      rcases b3 with z | ⟨z1, z2⟩
      · rw [z, jg_pos (rgk rfl), if_neg n10]
        rfl
      · rw [z1, jg_pos (rgk rfl), if_pos rfl, b2, t2.1, jg_pos ⟨rgn (by omega), rgn (by omega)⟩, if_neg (by omega)]
        rfl
    rw [fin]
    exact ⟨_, rfl, exc_wI r2 rfl, Or.inr ⟨q, b1, by rw [gI_ne (by decide), b2], gI_eq, eC.trans b4⟩⟩
