/-! Arrangements: the class's lists of placings by fits. -/
def W_ls (w a k : Nat) : Bool := (a == 30 && k == w) || (a == 29 && k / 64 == w)
def J_ls (w a k : Nat) : Bool := a == 28 && k / 64 == w
theorem scr_ls {w : Nat} {g g2 : gm_T} (h : exc (W_ls w) (J_ls w) g g2) : exc scr scrJ g g2 := exc_mono h (fun a k q => by
  simp only [W_ls, Bool.or_eq_true, Bool.and_eq_true, beq_iff_eq] at q
  rcases q with ⟨rfl, -⟩ | ⟨rfl, -⟩ <;> rfl) (fun a k q => by
  simp only [J_ls, Bool.and_eq_true, beq_iff_eq] at q
  rcases q with ⟨rfl, -⟩
  rfl)
theorem W_ls_29 {w i : Nat} (hi : i < 64) : W_ls w 29 (64 * w + i) = true := by
  unfold W_ls
  rw [show (64 * w + i) / 64 = w by omega]
  simp
theorem W_ls_30 (w : Nat) : W_ls w 30 w = true := by
  unfold W_ls
  simp
theorem J_ls_28 {w i : Nat} (hi : i < 64) : J_ls w 28 (64 * w + i) = true := by
  unfold J_ls
  rw [show (64 * w + i) / 64 = w by omega]
  simp
theorem ca_idx_lp {g : gm_T} {w m : Nat} (hw : w < 3) (hm : m ≤ 64) (h30 : gm_I g 30 w = (m : Int)) {pl : Nat → plc} {K : Int} (hK : K ≤ 524287) (hJ : ∀ j, j < m → gm_J g 28 (64 * w + j) = pp (pl j) ∧ bpl K (pl j)) {p : plc} (hp : bpl K p) {c4 : Int} (hc : c4 = ((64 * w : Nat) : Int)) : ∀ (d j fuel : Nat), j + d = m → d < fuel → (∀ i, i < j → pl i ≠ p) → (∃ i, i < m ∧ pl i = p ∧ ca_indexOf_l10 g (w : Int) (pp p) c4 fuel ((64 * w + j : Nat) : Int) = some ((64 * w + i : Nat) : Int)) ∨ ((∀ i, i < m → pl i ≠ p) ∧ ca_indexOf_l10 g (w : Int) (pp p) c4 fuel ((64 * w + j : Nat) : Int) = some (-1)) := by
  intro d
  induction d with
  | zero =>
    intro j fuel hd hf hn
    obtain ⟨f, rfl⟩ : ∃ f, fuel = f + 1 := ⟨fuel - 1, by omega⟩
    refine Or.inr ⟨fun i hi => hn i (by omega), ?_⟩
    unfold ca_indexOf_l10
    rw [jg_pos (by omega), Int.toNat_natCast, h30, hc, jg_pos ⟨⟨by omega, by omega⟩, by omega, by omega⟩, if_neg (by omega)]
  | succ d ih =>
    intro j fuel hd hf hn
    obtain ⟨f, rfl⟩ : ∃ f, fuel = f + 1 := ⟨fuel - 1, by omega⟩
    obtain ⟨j1, j2⟩ := hJ j (by omega)
    unfold ca_indexOf_l10
    rw [jg_pos (by omega), Int.toNat_natCast, Int.toNat_natCast, h30, jg_pos ⟨⟨by omega, by omega⟩, by omega, by omega⟩, if_pos (by omega), jg_pos (by omega), j1]
    by_cases c : pl j = p
    · rw [if_pos (lC_0.mpr (by rw [c]))]
      exact Or.inl ⟨j, by omega, c, rfl⟩
    · rw [if_neg (fun z => c ((pp_inj j2 hp hK hK).mp (lC_0.mp z)))]
      exact ih (j + 1) f (by omega) (by omega) (fun i hi => by
        by_cases z : i = j
        · rw [z]
          exact c
        · exact hn i (by omega))
theorem ca_idx_eq {g : gm_T} {w m : Nat} (hw : w < 3) (hm : m ≤ 64) (h30 : gm_I g 30 w = (m : Int)) {pl : Nat → plc} {K : Int} (hK : K ≤ 524287) (hJ : ∀ j, j < m → gm_J g 28 (64 * w + j) = pp (pl j) ∧ bpl K (pl j)) {p : plc} (hp : bpl K p) : (∃ i, i < m ∧ pl i = p ∧ ca_indexOf g (w : Int) (pp p) = some ((64 * w + i : Nat) : Int)) ∨ ((∀ i, i < m → pl i ≠ p) ∧ ca_indexOf g (w : Int) (pp p) = some (-1)) := by
  have h := ca_idx_lp hw hm h30 hK hJ hp (c4 := (w : Int) * 64) (by omega) m 0 fz (by omega) (Nat.lt_of_le_of_lt hm (fz_gt rfl)) (fun i hi => by omega)
  have e : ca_indexOf g (w : Int) (pp p) = ca_indexOf_l10 g (w : Int) (pp p) ((w : Int) * 64) fz ((64 * w + 0 : Nat) : Int) := by
    unfold ca_indexOf
    rw [jl_eq]
    congr 1
    omega
  rw [e]
  exact h
/-- the list of the fits of b against a, the pairs ahead of (k, l) being done -/
def isLp (g0 : gm_T) (w a b k l : Nat) (g : gm_T) : Prop := ∃ (m : Nat) (pl : Nat → plc), m ≤ 8 * k + l ∧ gm_I g 30 w = (m : Int) ∧ (∀ j, j < m → gm_J g 28 (64 * w + j) = pp (pl j) ∧ gm_I g 29 (64 * w + j) = wpp g0 a b (pl j) k l ∧ FP g0 a b (pl j)) ∧ (∀ i j, i < m → j < m → pl i = pl j → i = j) ∧ ∀ k2 l2 : Nat, (k2 < k ∨ (k2 = k ∧ l2 < l)) → ((k2 : Int) < mE g0 a ∧ (l2 : Int) < mE g0 b) → isF g0 a k2 b l2 → ∃ j, j < m ∧ pl j = fpl g0 a k2 b l2
theorem ca_enlist_eq {n : Nat} {g0 : gm_T} (I : I_fit n g0) {w a b k l : Nat} (hw : w < 3) (ha : a < n) (hb : b < n) (hk : (k : Int) < mE g0 a) (hl : (l : Int) < mE g0 b) (hF : isF g0 a k b l) {g : gm_T} (H : isLp g0 w a b k l g) : ∃ g2, ca_enlist g (w : Int) (pp (fpl g0 a k b l)) (scv g0 a k b l (tn g0 a k b l)) = some g2 ∧ exc (W_ls w) (J_ls w) g g2 ∧ isLp g0 w a b k (l + 1) g2 := by
  obtain ⟨m, pl, h1, h2, h3, h4, h5⟩ := H
  have k8 : k < 8 := by
    have := (I.2.1 a ha).1.2.2
    unfold mE at hk
    omega
  have l8 : l < 8 := by
    have := (I.2.1 b hb).1.2.2
    unfold mE at hl
    omega
  have hfp : FP g0 a b (fpl g0 a k b l) := ⟨k, l, ⟨hk, hl⟩, hF, rfl⟩
  have hfb := FP_b I.2.1 ha hb hfp
  obtain ⟨f, hf⟩ : ∃ f, f = fpl g0 a k b l := ⟨_, rfl⟩
  obtain ⟨sc, hsc⟩ : ∃ sc, sc = scv g0 a k b l (tn g0 a k b l) := ⟨_, rfl⟩
  have wv1 : wv g0 a b f k l = sc := by
    unfold wv
    rw [@if_pos _ (gd _) ⟨⟨⟨hk, hl⟩, hF⟩, hf.symm⟩, hsc]
  have wv0 : ∀ p, p ≠ f → wv g0 a b p k l = 0 := fun p hp => by
    unfold wv
    rw [@if_neg _ (gd _) (fun q => hp (q.2.symm.trans hf.symm))]
  rw [← hf] at hfp hfb ⊢
  rw [← hsc]
  have hix := ca_idx_eq (g := g) hw (show m ≤ 64 by omega) h2 (K := 40) (by decide) (pl := pl) (fun j hj => ⟨(h3 j hj).1, FP_b I.2.1 ha hb (h3 j hj).2.2⟩) hfb
  unfold ca_enlist
  rcases hix with ⟨i, i1, i2, i3⟩ | ⟨i1, i3⟩
  · refine ⟨gm_wI g 29 (64 * w + i) (gm_I g 29 (64 * w + i) + sc), ?_, exc_wI exc_rf (W_ls_29 (by omega)), m, pl, by omega, ?_, fun j hj => ⟨?_, ?_, (h3 j hj).2.2⟩, h4, fun k2 l2 q1 q2 q3 => ?_⟩
    · rw [i3, jb1_some, jg_pos ⟨by omega, by omega⟩, if_neg (by omega), jb2_some, jg_pos (by omega), jl_eq, Int.toNat_natCast]
    · rw [gI_oth (by decide)]
      exact h2
    · rw [gJ_wI]
      exact (h3 j hj).1
    · rw [wpp_s]
      by_cases z : j = i
      · rw [z, gI_eq, (h3 i i1).2.1, i2, wv1]
      · rw [gI_ne (by omega), (h3 j hj).2.1, wv0 (pl j) (fun q => z (h4 j i hj i1 (q.trans i2.symm))), Int.add_zero]
    · by_cases z : k2 = k ∧ l2 = l
      · exact ⟨i, i1, by rw [i2, hf, z.1, z.2]⟩
      · exact h5 k2 l2 (by omega) q2 q3
  · have w0 : wpp g0 a b f k l = 0 := wpp_0 (fun k2 l2 q1 q2 q3 q4 => by
      obtain ⟨j, j1, j2⟩ := h5 k2 l2 q1 q2 q3
      exact i1 j j1 (j2.trans q4))
    obtain ⟨g3, hg3⟩ : ∃ g3, g3 = gm_wI (gm_wI (gm_wJ g 28 (64 * w + m) (pp f)) 29 (64 * w + m) 0) 30 w ((m : Int) + 1) := ⟨_, rfl⟩
    have e29 : gm_I g3 29 (64 * w + m) = 0 := by rw [hg3, gI_oth (by decide), gI_eq]
    have e29o : ∀ j, j ≠ m → gm_I g3 29 (64 * w + j) = gm_I g 29 (64 * w + j) := fun j hj => by rw [hg3, gI_oth (by decide), gI_ne (by omega), gI_wJ]
    have eJ : ∀ j, gm_J g3 28 (64 * w + j) = if j = m then pp f else gm_J g 28 (64 * w + j) := fun j => by
      rw [hg3, gJ_wI, gJ_wI, gJ_wJ, if_pos rfl]
      by_cases z : j = m
      · rw [if_pos z, if_pos (by omega)]
      · rw [if_neg z, if_neg (by omega)]
    have x3 : exc (W_ls w) (J_ls w) g g3 := by
      rw [hg3]
      exact exc_wI (exc_wI (exc_wJ exc_rf (J_ls_28 (by omega))) (W_ls_29 (by omega))) (W_ls_30 w)
    refine ⟨gm_wI g3 29 (64 * w + m) (0 + sc), ?_, exc_wI x3 (W_ls_29 (by omega)), m + 1, fun j => if j = m then f else pl j, by omega, ?_, fun j hj => ?_, fun i j hi hj q => ?_, fun k2 l2 q1 q2 q3 => ?_⟩
    · rw [i3, jb1_some, jg_pos (rgk rfl), if_pos (by decide), jg_pos (by omega), jl_eq, Int.toNat_natCast, h2, show (w : Int) * 64 + (m : Int) = ((64 * w + m : Nat) : Int) by omega, jg_pos (by omega), jl_eq, jl_eq, jl_eq, jb2_some, jg_pos (by omega), jl_eq, Int.toNat_natCast, gI_oth (show 30 ≠ 29 by decide), gI_wJ, h2, ← hg3, e29]
    · rw [gI_oth (by decide), hg3, gI_eq]
      omega
    · rw [gJ_wI, eJ, wpp_s]
      by_cases z : j = m
      · rw [z, if_pos rfl, gI_eq]
        dsimp only
        rw [if_pos rfl, w0, wv1]
        exact ⟨rfl, rfl, hfp⟩
      · obtain ⟨b1, b2, b3⟩ := h3 j (by omega)
        rw [if_neg z, gI_ne (by omega), e29o j z]
        dsimp only
        rw [if_neg z, wv0 (pl j) (i1 j (by omega)), Int.add_zero]
        exact ⟨b1, b2, b3⟩
    · dsimp only at q
      by_cases z1 : i = m
      · by_cases z2 : j = m
        · rw [z1, z2]
        · rw [if_pos z1, if_neg z2] at q
          exact absurd q.symm (i1 j (by omega))
      · by_cases z2 : j = m
        · rw [if_neg z1, if_pos z2] at q
          exact absurd q (i1 i (by omega))
        · rw [if_neg z1, if_neg z2] at q
          exact h4 i j (by omega) (by omega) q
    · by_cases z : k2 = k ∧ l2 = l
      · refine ⟨m, by omega, ?_⟩
        dsimp only
        rw [if_pos rfl, hf, z.1, z.2]
      · obtain ⟨j, j1, j2⟩ := h5 k2 l2 (by omega) q2 q3
        refine ⟨j, by omega, ?_⟩
        dsimp only
        rw [if_neg (by omega)]
        exact j2
theorem isLp_skip {g0 : gm_T} {w a b k l : Nat} (hF : ¬ isF g0 a k b l) {g : gm_T} (H : isLp g0 w a b k l g) : isLp g0 w a b k (l + 1) g := by
  obtain ⟨m, pl, h1, h2, h3, h4, h5⟩ := H
  refine ⟨m, pl, by omega, h2, fun j hj => ?_, h4, fun k2 l2 q1 q2 q3 => h5 k2 l2 ?_ q2 q3⟩
  · obtain ⟨b1, b2, b3⟩ := h3 j hj
    have z : wv g0 a b (pl j) k l = 0 := by
      unfold wv
      rw [@if_neg _ (gd _) (fun q => hF q.1.2)]
    rw [wpp_s, z, Int.add_zero]
    exact ⟨b1, b2, b3⟩
  · by_cases z : k2 = k ∧ l2 = l
    · rw [z.1, z.2] at q3
      exact absurd q3 hF
    · omega
theorem ca_list_row {n : Nat} {g0 : gm_T} (I : I_fit n g0) {w a b k : Nat} (hw : w < 3) (ha : a < n) (hb : b < n) (hk : (k : Int) < mE g0 a) {g1 : gm_T} (e1 : keepF g1 = keepF g0) : ∀ (d l fuel : Nat) (g : gm_T), (l : Int) + (d : Int) = mE g0 b → d < fuel → exc (W_ls w) (J_ls w) g1 g → isLp g0 w a b k l g → ∃ g2, ca_list_l30 n (w : Int) (a : Int) (b : Int) (k : Int) fuel (l : Int) g = some g2 ∧ exc (W_ls w) (J_ls w) g1 g2 ∧ isLp g0 w a b k (mE g0 b).toNat g2 := by
  have h30 := I.1.2.2
  have b8 := (I.2.1 b hb).1.2.2
  have hEb : mE g0 b = gm_I g0 46 b := rfl
  intro d
  induction d with
  | zero =>
    intro l fuel g hd hf x H
    obtain ⟨f, rfl⟩ : ∃ f, fuel = f + 1 := ⟨fuel - 1, by omega⟩
    have e : keepF g = keepF g0 := (keepF_A (keepA_scr (scr_ls x))).trans e1
    have V := (I_fit_tr e I).2.1
    have hc : gm_I g (bA b) 3 = mE g0 b := by rw [(V b hb).1.1]; exact k_mE e b
    unfold ca_list_l30
    rw [jg_pos (by omega), Int.toNat_natCast, hc, jg_pos ⟨⟨by omega, by omega⟩, by omega, by omega⟩, if_neg (by omega)]
    refine ⟨g, rfl, x, ?_⟩
    rw [show (mE g0 b).toNat = l by omega]
    exact H
  | succ d ih =>
    intro l fuel g hd hf x H
    obtain ⟨f, rfl⟩ : ∃ f, fuel = f + 1 := ⟨fuel - 1, by omega⟩
    have e : keepF g = keepF g0 := (keepF_A (keepA_scr (scr_ls x))).trans e1
    have I2 := I_fit_tr e I
    have hc : gm_I g (bA b) 3 = mE g0 b := by rw [(I2.2.1 b hb).1.1]; exact k_mE e b
    have hl : (l : Int) < mE g0 b := by omega
    unfold ca_list_l30
    rw [jg_pos (by omega), Int.toNat_natCast, hc, jg_pos ⟨⟨by omega, by omega⟩, by omega, by omega⟩, if_pos hl]
    by_cases hF : isF g0 a k b l
    · obtain ⟨q1, q2, q3⟩ := cf_fit_p I2 ha hb (by rw [k_mE e]; exact hk) (by rw [k_mE e]; exact hl) (by rw [k_isF e]; exact hF)
      rw [k_fpl e] at q1 q2 q3
      obtain ⟨g3, s1, s2, s3⟩ := ca_enlist_eq I hw ha hb hk hl hF H
      rw [q1, jb1_some, if_neg q2, q3, jb1_some, cf_scoreOf_eq I2.2.1 I2.2.2.2.2.1 ha hb (by rw [k_mE e]; exact hk) (by rw [k_mE e]; exact hl), jb1_some, k_scv e, k_tn e, s1, jb1_some]
      exact ih (l + 1) f g3 (by omega) (by omega) (exc_tr x s2) s3
    · rw [cf_fit_n I2 ha hb (by rw [k_mE e]; exact hk) (by rw [k_mE e]; exact hl) (by rw [k_isF e]; exact hF), jb1_some, if_pos lC_m1]
      exact ih (l + 1) f g (by omega) (by omega) x (isLp_skip hF H)
theorem ca_list_lp {n : Nat} {g0 : gm_T} (I : I_fit n g0) {w a b : Nat} (hw : w < 3) (ha : a < n) (hb : b < n) {g1 : gm_T} (e1 : keepF g1 = keepF g0) : ∀ (d k fuel : Nat) (g : gm_T), (k : Int) + (d : Int) = mE g0 a → d < fuel → exc (W_ls w) (J_ls w) g1 g → isLp g0 w a b k 0 g → ∃ g2, ca_list_l10 n (w : Int) (a : Int) (b : Int) fuel (k : Int) g = some g2 ∧ exc (W_ls w) (J_ls w) g1 g2 ∧ isLp g0 w a b (mE g0 a).toNat 0 g2 := by
  have h30 := I.1.2.2
  have a8 := (I.2.1 a ha).1.2
  have b8 := (I.2.1 b hb).1.2
  have hEa : mE g0 a = gm_I g0 46 a := rfl
  have hEb : mE g0 b = gm_I g0 46 b := rfl
  intro d
  induction d with
  | zero =>
    intro k fuel g hd hf x H
    obtain ⟨f, rfl⟩ : ∃ f, fuel = f + 1 := ⟨fuel - 1, by omega⟩
    have e : keepF g = keepF g0 := (keepF_A (keepA_scr (scr_ls x))).trans e1
    have hc : gm_I g (bA a) 3 = mE g0 a := by rw [((I_fit_tr e I).2.1 a ha).1.1]; exact k_mE e a
    unfold ca_list_l10
    rw [jg_pos (by omega), Int.toNat_natCast, hc, jg_pos ⟨⟨by omega, by omega⟩, by omega, by omega⟩, if_neg (by omega)]
    refine ⟨g, rfl, x, ?_⟩
    rw [show (mE g0 a).toNat = k by omega]
    exact H
  | succ d ih =>
    intro k fuel g hd hf x H
    obtain ⟨f, rfl⟩ : ∃ f, fuel = f + 1 := ⟨fuel - 1, by omega⟩
    have e : keepF g = keepF g0 := (keepF_A (keepA_scr (scr_ls x))).trans e1
    have hc : gm_I g (bA a) 3 = mE g0 a := by rw [((I_fit_tr e I).2.1 a ha).1.1]; exact k_mE e a
    have hk : (k : Int) < mE g0 a := by omega
    obtain ⟨g2, r1, r2, m, pl, h1, h2, h3, h4, h5⟩ := ca_list_row I hw ha hb hk e1 (mE g0 b).toNat 0 fz g (by omega) (Nat.lt_of_le_of_lt (show (mE g0 b).toNat ≤ 300 by omega) (fz_gt rfl)) x H
    have H2 : isLp g0 w a b (k + 1) 0 g2 := ⟨m, pl, by omega, h2, fun j hj => by
      rw [← wpp_n]
      exact h3 j hj, h4, fun k2 l2 q1 q2 q3 => h5 k2 l2 (by omega) q2 q3⟩
    obtain ⟨g3, s1, s2, s3⟩ := ih (k + 1) f g2 (by omega) (by omega) r2 H2
    unfold ca_list_l10
    rw [jg_pos (by omega), Int.toNat_natCast, hc, jg_pos ⟨⟨by omega, by omega⟩, by omega, by omega⟩, if_pos hk, show ca_list_l30 n (w : Int) (a : Int) (b : Int) (k : Int) fz 0 g = _ from r1, jb1_some]
    exact ⟨g3, s1, s2, s3⟩
def isL (g0 : gm_T) (w a b : Nat) (g : gm_T) : Prop := ∃ (m : Nat) (pl : Nat → plc), m ≤ 64 ∧ gm_I g 30 w = (m : Int) ∧ (∀ j, j < m → gm_J g 28 (64 * w + j) = pp (pl j) ∧ gm_I g 29 (64 * w + j) = wt g0 a b (pl j) ∧ FP g0 a b (pl j)) ∧ ∀ p, FP g0 a b p → ∃ j, j < m ∧ pl j = p
theorem ca_list_eq {n : Nat} {g0 : gm_T} (I : I_fit n g0) {w a b : Nat} (hw : w < 3) (ha : a < n) (hb : b < n) {g1 : gm_T} (e1 : keepF g1 = keepF g0) : ∃ g2, ca_list n g1 (w : Int) (a : Int) (b : Int) = some g2 ∧ exc (W_ls w) (J_ls w) g1 g2 ∧ isL g0 w a b g2 := by
  have a8 := (I.2.1 a ha).1.2
  have hEa : mE g0 a = gm_I g0 46 a := rfl
  have x0 : exc (W_ls w) (J_ls w) g1 (gm_wI g1 30 w 0) := exc_wI exc_rf (W_ls_30 w)
  obtain ⟨g2, r1, r2, m, pl, h1, h2, h3, h4, h5⟩ := ca_list_lp I hw ha hb e1 (mE g0 a).toNat 0 fz (gm_wI g1 30 w 0) (by omega) (Nat.lt_of_le_of_lt (show (mE g0 a).toNat ≤ 300 by omega) (fz_gt rfl)) x0 ⟨0, fun _ => p0, by omega, gI_eq, fun j hj => by omega, fun i j hi => by omega, fun k2 l2 q => by omega⟩
  refine ⟨g2, ?_, r2, m, pl, by omega, h2, fun j hj => h3 j hj, fun p hp => ?_⟩
  · unfold ca_list
    rw [jg_pos (by omega), jl_eq, Int.toNat_natCast, show ca_list_l10 n (w : Int) (a : Int) (b : Int) fz 0 (gm_wI g1 30 w 0) = _ from r1, jb1_some]
  · obtain ⟨k, l, ⟨q1, q2⟩, q3, rfl⟩ := hp
    exact h5 k l (by omega) ⟨q1, q2⟩ q3
