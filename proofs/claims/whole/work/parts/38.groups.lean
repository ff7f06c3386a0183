/-! The reference's groups: gathered; their sizes, words, holders. -/
theorem md_pass_eq {n : Nat} {g : gm_T} (I : I_fit n g) (V : V_jm n g) {P : Nat → plc} (hP : isWm n g P) {r : Nat} (hr : r < n) : ∀ (d J fuel : Nat) (v : Int) (h : gm_T), J + d = jm g → d < fuel → (v = 0 ∨ v = 1) → exc W_gr nob g h → GS n g P r h → ∃ v2 h2, md_groups_l81 (r : Int) fuel v (J : Int) h = some (v2, h2) ∧ exc W_gr nob g h2 ∧ GS n g P r h2 ∧ (∀ b, b < n → gm_I h 78 b = (r : Int) → gm_I h2 78 b = (r : Int)) ∧ ((v2 = 0 ∧ v = 0 ∧ h2 = h ∧ ∀ j, J ≤ j → j < jm g → jE g j = true → (gm_I h 78 (jA g j) = (r : Int) ↔ gm_I h 78 (jB g j) = (r : Int))) ∨ (v2 = 1 ∧ (v = 1 ∨ ∃ b, b < n ∧ gm_I h2 78 b = (r : Int) ∧ gm_I h 78 b ≠ (r : Int)))) := by
  obtain ⟨m60, m1, m2⟩ := jm_60m V
  intro d
  induction d with
  | zero =>
    intro J fuel v h hd hf hv he H
    obtain ⟨f, rfl⟩ : ∃ f, fuel = f + 1 := ⟨fuel - 1, by omega⟩
    unfold md_groups_l81
    rw [he.1 44 24 rfl, m1, jg_pos ⟨rgn (by omega), rgn (by omega)⟩, if_neg (by omega)]
    refine ⟨v, h, rfl, he, H, fun _ _ q => q, ?_⟩
    rcases hv with hv | hv
    · exact Or.inl ⟨hv, hv, rfl, fun j h1 h2 => by omega⟩
    · exact Or.inr ⟨hv, Or.inl hv⟩
  | succ d ih =>
    intro J fuel v h hd hf hv he H
    obtain ⟨f, rfl⟩ : ∃ f, fuel = f + 1 := ⟨fuel - 1, by omega⟩
    unfold md_groups_l81
    rw [he.1 44 24 rfl, m1, jg_pos ⟨rgn (by omega), rgn (by omega)⟩, if_pos (by omega)]
    rcases md_reaches_eq I V hP hr he H (show J < jm g by omega) with ⟨e1, e2⟩ | ⟨h2, e1, e2, e3, e4, e5⟩
    · rw [e1, jb2_some, jg_pos (rgk rfl), if_pos rfl]
      obtain ⟨v2, h3, k1, k2, k3, k4, k5⟩ := ih (J + 1) f v h (by omega) (by omega) hv he H
      refine ⟨v2, h3, ?_, k2, k3, k4, ?_⟩
      · rcases hv with hv | hv
        · subst hv
          rw [jg_pos (rgk rfl), if_pos rfl]
          exact k1
        · subst hv
          rw [jg_pos (rgk rfl), if_neg n10]
          exact k1
      · rcases k5 with ⟨q1, q2, q3, q4⟩ | q
        · refine Or.inl ⟨q1, q2, q3, fun j hj1 hj2 hj3 => ?_⟩
          by_cases hjJ : j = J
          · rw [hjJ] at hj3 ⊢
            exact e2 hj3
          · exact q4 j (by omega) hj2 hj3
        · exact Or.inr q
    · rw [e1, jb2_some, jg_pos (rgk rfl), if_neg n10]
      obtain ⟨v2, h3, k1, k2, k3, k4, k5⟩ := ih (J + 1) f 1 h2 (by omega) (by omega) (Or.inr rfl) e2 e3
      refine ⟨v2, h3, k1, k2, k3, fun b hb q => k4 b hb (e4 b hb q), ?_⟩
      obtain ⟨b, hb, q1, q2⟩ := e5
      rcases k5 with ⟨-, q3, -⟩ | ⟨q3, -⟩
      · exact absurd q3 (by decide)
      · exact Or.inr ⟨q3, Or.inr ⟨b, hb, k4 b hb q1, q2⟩⟩
theorem md_while_eq {n : Nat} {g : gm_T} (I : I_fit n g) (V : V_jm n g) {P : Nat → plc} (hP : isWm n g P) {r : Nat} (hr : r < n) : ∀ (k fuel : Nat) (h : gm_T), n ≤ k + ct (fun b => decide (gm_I h 78 b = (r : Int))) n → k + 1 < fuel → exc W_gr nob g h → GS n g P r h → ∃ h2, md_groups_l73 (r : Int) fuel 1 h = some h2 ∧ exc W_gr nob g h2 ∧ GS n g P r h2 ∧ (∀ b, b < n → gm_I h 78 b = (r : Int) → gm_I h2 78 b = (r : Int)) ∧ ∀ j, j < jm g → jE g j = true → (gm_I h2 78 (jA g j) = (r : Int) ↔ gm_I h2 78 (jB g j) = (r : Int)) := by
  have m60 := (jm_60m V).1
  intro k
  induction k with
  | zero =>
    intro fuel h hc hf he H
    obtain ⟨f, rfl⟩ : ∃ f, fuel = f + 1 := ⟨fuel - 1, by omega⟩
    obtain ⟨f2, rfl⟩ : ∃ f2, f = f2 + 1 := ⟨f - 1, by omega⟩
    obtain ⟨v2, h2, k1, k2, k3, k4, k5⟩ := md_pass_eq I V hP hr (jm g) 0 fz 0 h (by omega) (Nat.lt_of_le_of_lt m60 (fz_gt rfl)) (Or.inl rfl) he H
    rw [show ((0 : Nat) : Int) = 0 from rfl] at k1
    rcases k5 with ⟨q1, -, q3, q4⟩ | ⟨q1, q2 | ⟨b, hb, q2, q3⟩⟩
    · subst q1 q3
      unfold md_groups_l73
      rw [jg_pos (rgk rfl), if_neg n10, k1, jb2_some]
      unfold md_groups_l73
      rw [jg_pos (rgk rfl), if_pos rfl]
      exact ⟨h2, rfl, he, H, fun _ _ q => q, fun j hj => q4 j (Nat.zero_le _) hj⟩
    · exact absurd q2 (by decide)
    · have h1 := ct_more1 (p := fun b => decide (gm_I h 78 b = (r : Int))) (q := fun b => decide (gm_I h2 78 b = (r : Int))) (n := n) (fun i hi z => decide_eq_true (k4 i hi (of_decide_eq_true z))) ⟨b, hb, decide_eq_true q2, decide_eq_false q3⟩
      have h3 := ct_le (fun b => decide (gm_I h2 78 b = (r : Int))) n
      omega
  | succ k ih =>
    intro fuel h hc hf he H
    obtain ⟨f, rfl⟩ : ∃ f, fuel = f + 1 := ⟨fuel - 1, by omega⟩
    obtain ⟨v2, h2, k1, k2, k3, k4, k5⟩ := md_pass_eq I V hP hr (jm g) 0 fz 0 h (by omega) (Nat.lt_of_le_of_lt m60 (fz_gt rfl)) (Or.inl rfl) he H
    rw [show ((0 : Nat) : Int) = 0 from rfl] at k1
    rcases k5 with ⟨q1, -, q3, q4⟩ | ⟨q1, q2 | ⟨b, hb, q2, q3⟩⟩
    · obtain ⟨f2, rfl⟩ : ∃ f2, f = f2 + 1 := ⟨f - 1, by omega⟩
      subst q1 q3
      unfold md_groups_l73
      rw [jg_pos (rgk rfl), if_neg n10, k1, jb2_some]
      unfold md_groups_l73
      rw [jg_pos (rgk rfl), if_pos rfl]
      exact ⟨h2, rfl, he, H, fun _ _ q => q, fun j hj => q4 j (Nat.zero_le _) hj⟩
    · exact absurd q2 (by decide)
    · have h1 := ct_more1 (p := fun b => decide (gm_I h 78 b = (r : Int))) (q := fun b => decide (gm_I h2 78 b = (r : Int))) (n := n) (fun i hi z => decide_eq_true (k4 i hi (of_decide_eq_true z))) ⟨b, hb, decide_eq_true q2, decide_eq_false q3⟩
      obtain ⟨h3, s1, s2, s3, s4, s5⟩ := ih f h2 (by omega) (by omega) k2 k3
      subst q1
      unfold md_groups_l73
      rw [jg_pos (rgk rfl), if_neg n10, k1, jb2_some]
      exact ⟨h3, s1, s2, s3, fun b hb q => s4 b hb (k4 b hb q), s5⟩
/-- the groups of the bits with roots before r stand -/
def GB (n : Nat) (g : gm_T) (P : Nat → plc) (r : Nat) (h : gm_T) : Prop := ∀ b, b < n → (rt g b < r → gm_I h 78 b = (rt g b : Int) ∧ gG h b = rel (P (rt g b)) (P b)) ∧ (r ≤ rt g b → gm_I h 78 b = -1)
theorem md_groups_lp {n : Nat} {g : gm_T} (I : I_fit n g) (V : V_jm n g) {P : Nat → plc} (hP : isWm n g P) : ∀ (d r fuel : Nat) (h : gm_T), r + d = n → d < fuel → exc W_gr nob g h → GB n g P r h → ∃ h2, md_groups_l25 fuel (r : Int) h = some h2 ∧ exc W_gr nob g h2 ∧ GB n g P n h2 := by
  have hn := I.1
  have h30 := hn.2.2
  have ok : ∀ c, okt (P c) := fun c => (hP.2.2.1 c).1
  intro d
  induction d with
  | zero =>
    intro r fuel h hd hf he H
    obtain ⟨f, rfl⟩ : ∃ f, fuel = f + 1 := ⟨fuel - 1, by omega⟩
    have hr : r = n := by omega
    subst hr
    unfold md_groups_l25
    rw [he.1 44 3 rfl, hn.2.1, jg_pos ⟨rgn (by omega), rgn (by omega)⟩, if_neg (by omega)]
    exact ⟨h, rfl, he, H⟩
  | succ d ih =>
    intro r fuel h hd hf he H
    obtain ⟨f, rfl⟩ : ∃ f, fuel = f + 1 := ⟨fuel - 1, by omega⟩
    have hr : r < n := by omega
    have hrr := rt_le g r
    unfold md_groups_l25
    rw [he.1 44 3 rfl, hn.2.1, jg_pos ⟨rgn (by omega), rgn (by omega)⟩, if_pos (by omega), jg_pos (by omega), Int.toNat_natCast]
    by_cases c1 : rt g r = r
    · have h78 := (H r hr).2 (by omega)
      rw [h78, jg_pos (rgk rfl), if_pos rfl]
      simp only [jl_eq, Int.toNat_natCast]
      generalize hG : gm_wI (gm_wI (gm_wI (gm_wI h 78 r (r : Int)) 79 r 0) 80 r 0) 81 r 0 = h1
      have g78 : ∀ b, gm_I h1 78 b = if b = r then (r : Int) else gm_I h 78 b := by
        intro b
        rw [← hG, gI_oth (by decide), gI_oth (by decide), gI_oth (by decide)]
        by_cases hb : b = r
        · rw [if_pos hb, hb, gI_eq]
        · rw [if_neg hb, gI_ne hb]
      have gGe : gG h1 r = p0 := by
        rw [← hG]
        unfold gG p0
        refine pl_ext ?_ ?_ ?_
        · dsimp only
          rw [gI_oth (by decide), gI_oth (by decide), gI_eq]
        · dsimp only
          rw [gI_oth (by decide), gI_eq]
        · dsimp only
          rw [gI_eq]
      have gGo : ∀ b, b ≠ r → gG h1 b = gG h b := by
        intro b hb
        rw [← hG]
        unfold gG
        refine pl_ext ?_ ?_ ?_
        · dsimp only
          rw [gI_oth (by decide), gI_oth (by decide), gI_ne hb, gI_oth (by decide)]
        · dsimp only
          rw [gI_oth (by decide), gI_ne hb, gI_oth (by decide), gI_oth (by decide)]
        · dsimp only
          rw [gI_ne hb, gI_oth (by decide), gI_oth (by decide), gI_oth (by decide)]
      have he1 : exc W_gr nob g h1 := by
        rw [← hG]
        exact exc_wI (exc_wI (exc_wI (exc_wI he rfl) rfl) rfl) rfl
      have H1 : GS n g P r h1 := by
        intro b hb
        rw [g78 b]
        by_cases hbr : b = r
        · rw [if_pos hbr, hbr]
          refine ⟨fun q => by omega, fun q => by omega, fun _ => Or.inl ⟨rfl, ?_⟩⟩
          rw [gGe, rel_self (ok _)]
        · rw [if_neg hbr, gGo b hbr]
          exact ⟨(H b hb).1, fun q => (H b hb).2 (by omega), fun q => Or.inr ((H b hb).2 (by omega))⟩
      obtain ⟨h2, s1, s2, s3, s4, s5⟩ := md_while_eq I V hP hr n fz h1 (by omega) (Nat.lt_of_le_of_lt (show n + 1 ≤ 31 by omega) (fz_gt rfl)) he1 H1
      rw [s1, jb1_some]
      refine ih (r + 1) f h2 (by omega) (by omega) s2 (fun b hb => ⟨fun q => ?_, fun q => (s3 b hb).2.1 (by omega)⟩)
      by_cases hbr : rt g b = r
      · have hcn : cn g r b := by
          rw [← hbr]
          exact gC_sy (rt_sp g b).1
        have h3 := gC_closed (S := fun x => gm_I h2 78 x = (r : Int)) s5 (s4 r hr (by rw [g78, if_pos rfl])) hcn
        have h4 := (GS_in s3 hb).2.2 h3
        rw [hbr]
        exact ⟨h3, h4.2⟩
      · exact (s3 b hb).1 (by omega)
    · have h78 := (H r hr).1 (by omega)
      rw [h78.1, jg_pos ⟨by omega, by omega⟩, if_neg (by omega)]
      refine ih (r + 1) f h (by omega) (by omega) he (fun b hb => ⟨fun q => (H b hb).1 ?_, fun q => (H b hb).2 (by omega)⟩)
      have h5 := rt_rt g b
      by_cases hbr : rt g b = r
      · rw [hbr] at h5
        exact absurd h5 c1
      · omega
theorem md_groups_0 {n : Nat} {g : gm_T} (hn : V_num n g) : ∀ (d b fuel : Nat) (h : gm_T), b + d = n → d < fuel → exc W_gr nob g h → (∀ c, c < b → gm_I h 78 c = -1) → ∃ h2, md_groups_l2 fuel (b : Int) h = some h2 ∧ exc W_gr nob g h2 ∧ ∀ c, c < n → gm_I h2 78 c = -1 := by
  have h30 := hn.2.2
  intro d
  induction d with
  | zero =>
    intro b fuel h hd hf he hw
    obtain ⟨f, rfl⟩ : ∃ f, fuel = f + 1 := ⟨fuel - 1, by omega⟩
    have hr : b = n := by omega
    subst hr
    unfold md_groups_l2
    rw [he.1 44 3 rfl, hn.2.1, jg_pos ⟨rgn (by omega), rgn (by omega)⟩, if_neg (by omega)]
    exact ⟨h, rfl, he, hw⟩
  | succ d ih =>
    intro b fuel h hd hf he hw
    obtain ⟨f, rfl⟩ : ∃ f, fuel = f + 1 := ⟨fuel - 1, by omega⟩
    unfold md_groups_l2
    rw [he.1 44 3 rfl, hn.2.1, jg_pos ⟨rgn (by omega), rgn (by omega)⟩, if_pos (by omega), jg_pos (by omega), jl_eq, Int.toNat_natCast]
    exact ih (b + 1) f (gm_wI h 78 b (-1)) (by omega) (by omega) (exc_wI he rfl) (fun c hc => by
      by_cases q : c = b
      · rw [q, gI_eq]
      · rw [gI_ne q]
        exact hw c (by omega))
/-- the groups stand in the reference's cells -/
def isGr (n : Nat) (g : gm_T) (P : Nat → plc) (h : gm_T) : Prop := ∀ b, b < n → gm_I h 78 b = (rt g b : Int) ∧ gG h b = rel (P (rt g b)) (P b)
theorem md_groups_eq {n : Nat} {g : gm_T} (I : I_fit n g) (V : V_jm n g) {P : Nat → plc} (hP : isWm n g P) : ∃ h, md_groups g = some h ∧ exc W_gr nob g h ∧ isGr n g P h := by
  have hn := I.1
  have h30 := hn.2.2
  obtain ⟨h1, e1, e2, e3⟩ := md_groups_0 hn n 0 fz g (by omega) (Nat.lt_of_le_of_lt h30 (fz_gt rfl)) exc_rf (fun c hc => by omega)
  obtain ⟨h2, f1, f2, f3⟩ := md_groups_lp I V hP n 0 fz h1 (by omega) (Nat.lt_of_le_of_lt h30 (fz_gt rfl)) e2 (fun b hb => ⟨fun q => by omega, fun _ => e3 b hb⟩)
  rw [show ((0 : Nat) : Int) = 0 from rfl] at e1 f1
  unfold md_groups
  rw [e1, jb1_some, f1, jb1_some]
  refine ⟨h2, rfl, f2, fun b hb => (f3 b hb).1 ?_⟩
  have := rt_le g b
  omega
theorem isGr_exc {n : Nat} {g : gm_T} {P : Nat → plc} {W WJ : Nat → Nat → Bool} {h h2 : gm_T} (H : isGr n g P h) (e : exc W WJ h h2) (hW : ∀ a k, (a == 78 || a == 79 || a == 80 || a == 81) = true → W a k = false) : isGr n g P h2 := fun b hb => by
  unfold gG
  rw [e.1 78 b (hW _ _ rfl), e.1 79 b (hW _ _ rfl), e.1 80 b (hW _ _ rfl), e.1 81 b (hW _ _ rfl)]
  exact H b hb
theorem W_p_gr (a k : Nat) (h : (a == 78 || a == 79 || a == 80 || a == 81) = true) : W_p a k = false := by
  simp only [Bool.or_eq_true, beq_iff_eq] at h
  rcases h with ((rfl | rfl) | rfl) | rfl <;> rfl
theorem isGr_p {n : Nat} {g : gm_T} {P : Nat → plc} {h h2 : gm_T} (H : isGr n g P h) (e : exc W_p nob h h2) : isGr n g P h2 := isGr_exc H e W_p_gr
theorem gG_b {n : Nat} {g : gm_T} (I : I_fit n g) (V : V_jm n g) {P : Nat → plc} (hP : isWm n g P) {h : gm_T} (H : isGr n g P h) {a : Nat} (ha : a < n) : bpl 1160 (gG h a) := by
  rw [(H a ha).2]
  exact rel_b I V hP (Nat.lt_of_le_of_lt (rt_le g a) ha) (gC_sy (rt_sp g a).1)
theorem md_thenWithin_eq {n : Nat} {g : gm_T} (I : I_fit n g) (V : V_jm n g) {P : Nat → plc} (hP : isWm n g P) {h : gm_T} (H : isGr n g P h) {a b : Nat} (ha : a < n) (hb : b < n) (hab : cn g a b) {M : Int} (hM : bpl M (pH h)) (hM2 : M ≤ 900000) (h0 : 0 ≤ M) : ∃ h2, md_thenWithin h (a : Int) (b : Int) = some h2 ∧ pH h2 = pon (pH h) (rel (P a) (P b)) ∧ exc W_p nob h h2 := by
  have h30 := I.1.2.2
  have ok : ∀ c, okt (P c) := fun c => (hP.2.2.1 c).1
  have ba := gG_b I V hP H ha
  obtain ⟨h1, e1, e2, e3⟩ := md_thenBack_eq hM (x := gm_I h 79 a) (y := gm_I h 80 a) (z := gm_I h 81 a) ba (by omega) h0
  have H1 := isGr_p H e3
  have bb := gG_b I V hP H1 hb
  obtain ⟨h2, f1, f2, f3⟩ := md_then_eq (M := M + 1160) (by rw [e2]; exact bpl_on hM (bpl_in ba)) (x := gm_I h1 79 b) (y := gm_I h1 80 b) (z := gm_I h1 81 b) bb (by omega)
  unfold md_thenWithin
  rw [jg_pos (by omega), Int.toNat_natCast, e1, jb1_some, jg_pos (by omega), Int.toNat_natCast, f1, jb1_some]
  refine ⟨h2, rfl, ?_, exc_tr e3 f3⟩
  have q1 : (gm_I h 79 a, gm_I h 80 a, gm_I h 81 a) = rel (P (rt g a)) (P a) := (H a ha).2
  have q2 : (gm_I h1 79 b, gm_I h1 80 b, gm_I h1 81 b) = rel (P (rt g b)) (P b) := (H1 b hb).2
  rw [f2, e2, q1, q2, ← rt_cn hab, pin_rel (ok _) (ok _), pon_assoc hM.1 (rel_okt (ok _) (ok _)), rel_rel (ok _) (ok _) (ok _)]
theorem md_within_eq {n : Nat} {g : gm_T} (I : I_fit n g) (V : V_jm n g) {P : Nat → plc} (hP : isWm n g P) {h : gm_T} (H : isGr n g P h) {a b : Nat} (ha : a < n) (hb : b < n) (hab : cn g a b) : ∃ h2, md_within h (a : Int) (b : Int) = some h2 ∧ pH h2 = rel (P a) (P b) ∧ exc W_p nob h h2 := by
  have ok : ∀ c, okt (P c) := fun c => (hP.2.2.1 c).1
  obtain ⟨h1, e1, e2, e3⟩ := md_holds_eq h 0 0 0
  obtain ⟨h2, f1, f2, f3⟩ := md_thenWithin_eq I V hP (isGr_p H e3) ha hb hab (M := 0) (by rw [e2]; exact ⟨⟨by decide, by decide⟩, ⟨by decide, by decide⟩, by decide, by decide⟩) (by decide) (by decide)
  unfold md_thenWithin at f1
  unfold md_within
  rw [e1, jb1_some, f1]
  refine ⟨h2, rfl, ?_, exc_tr e3 f3⟩
  rw [f2, e2]
  exact p0_on (rel_okt (ok _) (ok _))
-- the first one of a kind
def fb (p : Nat → Bool) : Nat → Nat → Int
  | 0, _ => -1
  | d + 1, k => if p k = true then (k : Int) else fb p d (k + 1)
theorem fb_sp (p : Nat → Bool) : ∀ d k, (fb p d k = -1 ∧ ∀ i, k ≤ i → i < k + d → p i = false) ∨ ∃ i, k ≤ i ∧ i < k + d ∧ p i = true ∧ fb p d k = (i : Int) ∧ ∀ j, k ≤ j → j < i → p j = false
  | 0, k => Or.inl ⟨rfl, fun i h1 h2 => by omega⟩
  | d + 1, k => by
    by_cases h : p k = true
    · right
      exact ⟨k, Nat.le_refl _, by omega, h, by unfold fb; rw [if_pos h], fun j h1 h2 => by omega⟩
    · have hk : p k = false := by
        cases q : p k with
        | false => rfl
        | true => exact absurd q h
      have e : fb p (d + 1) k = fb p d (k + 1) := by
        show (if p k = true then (k : Int) else fb p d (k + 1)) = _
        rw [if_neg h]
      rw [e]
      rcases fb_sp p d (k + 1) with ⟨h1, h2⟩ | ⟨i, h1, h2, h3, h4, h5⟩
      · refine Or.inl ⟨h1, fun i q1 q2 => ?_⟩
        by_cases hi : i = k
        · rw [hi]; exact hk
        · exact h2 i (by omega) (by omega)
      · refine Or.inr ⟨i, by omega, by omega, h3, h4, fun j q1 q2 => ?_⟩
        by_cases hj : j = k
        · rw [hj]; exact hk
        · exact h5 j (by omega) q2
theorem fb_cong {p q : Nat → Bool} : ∀ d k, (∀ i, k ≤ i → i < k + d → p i = q i) → fb p d k = fb q d k
  | 0, _, _ => rfl
  | d + 1, k, h => by
    unfold fb
    rw [h k (Nat.le_refl _) (by omega), fb_cong d (k + 1) (fun i h1 h2 => h i (by omega) (by omega))]
theorem fb_in (p : Nat → Bool) (d k : Nat) : -1 ≤ fb p d k ∧ fb p d k < ((k + d : Nat) : Int) := by
  rcases fb_sp p d k with ⟨h, -⟩ | ⟨i, h1, h2, -, h, -⟩ <;> omega
/-- the least bit of the group of root r with a word, with a put -/
noncomputable def pw (g : gm_T) (r b : Nat) : Bool := @decide (rt g b = r) (gd _) && hw g b
noncomputable def pu (g : gm_T) (r b : Nat) : Bool := @decide (rt g b = r) (gd _) && hp g b
noncomputable def hl (n : Nat) (g : gm_T) (r : Nat) : Int := if fb (pw g r) n 0 = -1 then fb (pu g r) n 0 else fb (pw g r) n 0
theorem c_hw {g g2 : gm_T} (e : keepC g2 = keepC g) : hw g2 = hw g := by
  show hw (keepC g2) = hw (keepC g)
  rw [e]
theorem c_hp {g g2 : gm_T} (e : keepC g2 = keepC g) : hp g2 = hp g := by
  show hp (keepC g2) = hp (keepC g)
  rw [e]
theorem a_hw {g g2 : gm_T} (e : keepA g2 = keepA g) : hw g2 = hw g := by
  show hw (keepA g2) = hw (keepA g)
  rw [e]
theorem a_hp {g g2 : gm_T} (e : keepA g2 = keepA g) : hp g2 = hp g := by
  show hp (keepA g2) = hp (keepA g)
  rw [e]
theorem md_holder_lp {n : Nat} {g : gm_T} (hn : V_num n g) {P : Nat → plc} (hP : isWm n g P) {h : gm_T} (eh : keepC h = keepC g) (H : isGr n g P h) {r : Nat} (hr : r < n) : ∀ (k fuel : Nat), k ≤ n → k < fuel → md_holder_l12 h (r : Int) fuel (fb (pw g r) (n - k) k) (fb (pu g r) (n - k) k) ((k : Int) - 1) = some (fb (pw g r) n 0, fb (pu g r) n 0) := by
  have h30 := hn.2.2
  have hPh := isWm_tr eh hP
  intro k
  induction k with
  | zero =>
    intro fuel hk hf
    obtain ⟨f, rfl⟩ : ∃ f, fuel = f + 1 := ⟨fuel - 1, by omega⟩
    unfold md_holder_l12
    rw [jg_pos ⟨by omega, by omega⟩, if_pos (by omega)]
    rfl
  | succ k ih =>
    intro fuel hk hf
    obtain ⟨f, rfl⟩ : ∃ f, fuel = f + 1 := ⟨fuel - 1, by omega⟩
    have hkn : k < n := by omega
    obtain ⟨w01, u01, -⟩ := hPh.2.2.2.2.2 k hkn
    have hrt := rt_le g k
    have next := ih f (by omega) (by omega)
    have d1 : n - k = (n - (k + 1)) + 1 := by omega
    have e1 : fb (pw g r) (n - k) k = if pw g r k = true then (k : Int) else fb (pw g r) (n - (k + 1)) (k + 1) := by rw [d1]; rfl
    have e2 : fb (pu g r) (n - k) k = if pu g r k = true then (k : Int) else fb (pu g r) (n - (k + 1)) (k + 1) := by rw [d1]; rfl
    unfold md_holder_l12
    rw [show ((k + 1 : Nat) : Int) - 1 = (k : Int) by omega, jg_pos (rgn (by omega)), if_neg (by omega), jg_pos (by omega), Int.toNat_natCast, (H k hkn).1, jg_pos ⟨rgn (by omega), rgn (by omega)⟩, show (k : Int) + -1 = (k : Int) - 1 by omega]
    have hhw : hw g k = decide (gm_I h 70 k ≠ 0) := by rw [← c_hw eh]; rfl
    have hhp : hp g k = decide (gm_I h 71 k ≠ 0) := by rw [← c_hp eh]; rfl
    by_cases c1 : rt g k = r
    · have p1 : pw g r k = decide (gm_I h 70 k ≠ 0) := by unfold pw; rw [@decide_eq_true _ (gd _) c1, Bool.true_and, hhw]
      have p2 : pu g r k = decide (gm_I h 71 k ≠ 0) := by unfold pu; rw [@decide_eq_true _ (gd _) c1, Bool.true_and, hhp]
      rw [p1] at e1
      rw [p2] at e2
      rw [e1, e2] at next
      have hc : ((rt g k : Nat) : Int) = (r : Int) := by omega
      have hrr : rg ((rt g k : Nat) : Int) ∧ rg (r : Int) := ⟨rgn (by omega), rgn (by omega)⟩
      have hu : rg (gm_I h 71 k) := by
        rcases u01 with q | q
        · rw [q]; exact rgk rfl
        · rw [q]; exact rgk rfl
      rw [if_pos hc]
      rcases w01 with q | q
      · rw [q] at next
        rw [q, jg_pos (rgk rfl), if_pos rfl, jb1_some, jg_pos hrr, if_pos hc, jg_pos hu]
        rcases u01 with q2 | q2
        · rw [q2] at next
          rw [q2, if_pos rfl]
          exact next
        · rw [q2] at next
          rw [q2, if_neg n10]
          exact next
      · rw [q] at next
        rw [q, jg_pos (rgk rfl), if_neg n10, jb1_some, jg_pos hrr, if_pos hc, jg_pos hu]
        rcases u01 with q2 | q2
        · rw [q2] at next
          rw [q2, if_pos rfl]
          exact next
        · rw [q2] at next
          rw [q2, if_neg n10]
          exact next
    · have p1 : pw g r k = false := by unfold pw; rw [@decide_eq_false _ (gd _) c1, Bool.false_and]
      have p2 : pu g r k = false := by unfold pu; rw [@decide_eq_false _ (gd _) c1, Bool.false_and]
      rw [p1] at e1
      rw [p2] at e2
      rw [e1, e2] at next
      have hc : ¬ ((rt g k : Nat) : Int) = (r : Int) := by omega
      have hrr : rg ((rt g k : Nat) : Int) ∧ rg (r : Int) := ⟨rgn (by omega), rgn (by omega)⟩
      rw [if_neg hc, jb1_some, jg_pos hrr, if_neg hc]
      exact next
theorem md_holder_eq {n : Nat} {g : gm_T} (hn : V_num n g) {P : Nat → plc} (hP : isWm n g P) {h : gm_T} (eh : keepC h = keepC g) (H : isGr n g P h) {r : Nat} (hr : r < n) : md_holder h (r : Int) = some (hl n g r) := by
  have h30 := hn.2.2
  have h3 : gm_I h 44 3 = (n : Int) := by
    have h4 : gm_I (keepC h) 44 3 = gm_I (keepC g) 44 3 := by rw [eh]
    exact h4.trans hn.2.1
  have h1 := md_holder_lp hn hP eh H hr n fz (Nat.le_refl _) (Nat.lt_of_le_of_lt h30 (fz_gt rfl))
  rw [Nat.sub_self] at h1
  unfold md_holder
  rw [jl_eq, h3, show md_holder_l12 h (r : Int) fz (-1) (-1) ((n : Int) - 1) = some (fb (pw g r) n 0, fb (pu g r) n 0) from h1, jb2_some]
  have h2 := fb_in (pw g r) n 0
  rw [jg_pos ⟨by omega, by omega⟩]
  unfold hl
  split
  · rfl
  · rfl
