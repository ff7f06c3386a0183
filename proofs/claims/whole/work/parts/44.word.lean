/-! word, put. -/
theorem brg_E {n : Nat} {g : gm_T} {P : Nat → plc} (h : IW n g P) {b : Nat} (hb : b < n) {q : plc} (hq : bpl 500 q) : (∀ c, n ≤ c → brg g P b q c = p0) ∧ (∀ c, bpl (Kb g) (brg g P b q c)) ∧ ∀ j, j < jm g → jE g j = true → brg g P b q (jB g j) = pon (brg g P b q (jA g j)) (jpl g j) := by
  have ok := IW_ok h
  refine ⟨fun c hc => ?_, fun c => ?_, fun j hj hE => ?_⟩
  · unfold brg
    rw [@if_neg _ (gd _) (fun z => by have := cn_lt h.2.1 hb z; omega)]
    exact h.2.2.2.2.1 c hc
  · unfold brg
    by_cases z : cn g b c
    · rw [@if_pos _ (gd _) z]
      exact bpl_mono (bpl_on hq (rel_b h.1 (vm h.2.1) (wm h.2.2.2) hb z)) (by unfold Kb; omega)
    · rw [@if_neg _ (gd _) z]
      exact h.2.2.2.2.2.1 c
  · have h1 := h.2.2.2.2.2.2.1 j hj hE
    have hok := (jn_jpl h.1 (vm h.2.1) hj).1
    have hAB : cn g (jA g j) (jB g j) := gC_AB hj hE (gC_rf _)
    unfold brg
    by_cases z : cn g b (jA g j)
    · rw [@if_pos _ (gd _) z, @if_pos _ (gd _) (show cn g b (jB g j) from gC_tr z hAB), h1, ← rel_on (ok _) (ok _) hok, ← pon_assoc hq.1 (rel_okt (ok _) (ok _))]
    · rw [@if_neg _ (gd _) z, @if_neg _ (gd _) (show ¬ cn g b (jB g j) from fun y => z (gC_tr y (gC_sy hAB)))]
      exact h1
theorem brg_J {n : Nat} {g : gm_T} {P : Nat → plc} (h : IW n g P) {b : Nat} (hb : b < n) {q : plc} (c : Nat) : @ite _ (c < n ∧ cn g b c) (gd _) (pon q (rel (P b) (P c))) (P c) = brg g P b q c := by
  unfold brg
  by_cases z : cn g b c
  · rw [@if_pos _ (gd _) z, @if_pos _ (gd _) ⟨cn_lt h.2.1 hb z, z⟩]
  · rw [@if_neg _ (gd _) z, @if_neg _ (gd _) (fun y => z y.2)]
theorem brg_b {g : gm_T} {P : Nat → plc} {b : Nat} {q : plc} (hP : okt (P b)) (hq : okt q) : brg g P b q b = q := by
  unfold brg
  rw [@if_pos _ (gd _) (show cn g b b from gC_rf b), rel_self hP, pon_0 hq]
theorem brg_same {g : gm_T} {P : Nat → plc} {b : Nat} (hP : ∀ c, okt (P c)) (c : Nat) : brg g P b (P b) c = P c := by
  unfold brg
  by_cases z : cn g b c
  · rw [@if_pos _ (gd _) z, pon_rel (hP b) (hP c)]
  · rw [@if_neg _ (gd _) z]
/-- the reference's loop over the group's other words: none says otherwise, or the first that does -/
def othw (g : gm_T) (b c : Nat) : Prop := c ≠ b ∧ cn g b c ∧ hw g c = true
theorem md_ap3_lp {n : Nat} {g : gm_T} {P : Nat → plc} (h : IWm n g P) {g0 : gm_T} (e0 : keepC g0 = keepC g) (H0 : isGr n g P g0) {b : Nat} (hb : b < n) {q : plc} (hq : bpl 500 q) : ∀ (d c fuel : Nat) (g1 : gm_T), c + d = n → d < fuel → exc W_p nob g0 g1 → (q = P b ∨ ∀ c2, c2 < c → ¬ othw g b c2) → ((q = P b ∨ ∀ c2, c2 < n → ¬ othw g b c2) ∧ ∃ g2, md_againstPlace_l3 (b : Int) q.1 q.2.1 q.2.2 fuel (c : Int) g1 = some (.inl g2) ∧ exc W_p nob g0 g2) ∨ (q ≠ P b ∧ ∃ c2, c2 < n ∧ othw g b c2 ∧ (∀ c3, c3 < c2 → ¬ othw g b c3) ∧ ∃ d, d < n ∧ gbf (jA g) (jB g) (jE g) (jm g) b n c2 = (d : Int) ∧ ∃ g2, md_againstPlace_l3 (b : Int) q.1 q.2.1 q.2.2 fuel (c : Int) g1 = some (.inr (-14, g2)) ∧ gm_I g2 44 35 = 4 ∧ gm_I g2 44 36 = (d : Int) ∧ gm_I g2 44 37 = (c2 : Int) ∧ gm_I g2 44 38 = (b : Int) ∧ (∀ j, j < d → gm_I g2 75 j = ((gj (jA g) (jB g) (jE g) (jm g) (gbf (jA g) (jB g) (jE g) (jm g) b n) c2 j : Nat) : Int)) ∧ exc km scrJ g0 g2) := by
  have h30 := h.1.1.2.2
  have ok := IWm_ok h
  have hK : Kb g ≤ 147000 := by
    have := (jm_60m h.2.1).1
    unfold Kb
    omega
  intro d
  induction d with
  | zero =>
    intro c fuel g1 hd hf hx hno
    obtain ⟨f, rfl⟩ : ∃ f, fuel = f + 1 := ⟨fuel - 1, by omega⟩
    have hk : c = n := by omega
    subst hk
    have e1 := (keepC_scr (scr_p hx)).trans e0
    left
    unfold md_againstPlace_l3
    rw [(num_C e1 h.1.1).2.1, jg_pos ⟨rgn (by omega), rgn (by omega)⟩, if_neg (by omega)]
    exact ⟨hno, g1, rfl, hx⟩
  | succ d ih =>
    intro c fuel g1 hd hf hx hno
    obtain ⟨f, rfl⟩ : ∃ f, fuel = f + 1 := ⟨fuel - 1, by omega⟩
    have hc : c < n := by omega
    have hrb := rt_le g b
    have hrc := rt_le g c
    have e1 := (keepC_scr (scr_p hx)).trans e0
    have H1 := isGr_p H0 hx
    have skip := fun (g1' : gm_T) (hx' : exc W_p nob g0 g1') (hq2 : q = P b ∨ ¬ othw g b c) => ih (c + 1) f g1' (by omega) (by omega) hx' (by
      rcases hno with z | z
      · exact Or.inl z
      · rcases hq2 with y | y
        · exact Or.inl y
        · exact Or.inr (fun c2 hc2 => by
            by_cases w : c2 = c
            · rw [w]; exact y
            · exact z c2 (by omega)))
    have w01 := ((isWm_tr e1 h.2.2.2).2.2.2.2.2 c hc)
    have hhw : hw g c = decide (gm_I g1 70 c ≠ 0) := by rw [← c_hw e1]; rfl
    unfold md_againstPlace_l3
    rw [(num_C e1 h.1.1).2.1, jg_pos ⟨rgn (by omega), rgn (by omega)⟩, if_pos (by omega), jg_pos (rgn (by omega))]
    by_cases c1 : c = b
    · rw [if_pos (by omega)]
      exact skip g1 hx (Or.inr (fun z => z.1 c1))
    · rw [if_neg (by omega), jg_pos (by omega), jg_pos (by omega), Int.toNat_natCast, Int.toNat_natCast, (H1 c hc).1, (H1 b hb).1, jg_pos ⟨rgn (by omega), rgn (by omega)⟩]
      by_cases c2 : rt g c = rt g b
      · have hcn : cn g b c := rt_iff.mp c2.symm
        rw [if_pos (by omega)]
        rcases w01.1 with z | z
        · rw [z] at hhw
          rw [z, jg_pos (rgk rfl), if_pos rfl]
          exact skip g1 hx (Or.inr (fun y => by have y2 := y.2.2; rw [hhw] at y2; exact absurd y2 (by decide)))
        · rw [z] at hhw
          have hw1 : hw g c = true := by rw [hhw]; rfl
          rw [z, jg_pos (rgk rfl), if_neg n10]
          obtain ⟨g2, k1, k2, k3⟩ := md_holds_eq g1 q.1 q.2.1 q.2.2
          have e2 := (keepC_scr (scr_p k3)).trans e1
          obtain ⟨g3, l1, l2, l3⟩ := md_thenWithin_eq (I_fit_tr (keepF_C e2) h.1) (V_jm_tr e2 h.2.1) (isWm_tr e2 h.2.2.2) (P := P) (h := g2) (by
            have := isGr_p H1 k3
            intro x hx2
            rw [c_rt e2]
            exact this x hx2) hb hc (by rw [c_cn e2]; exact hcn) (M := 500) (by rw [k2]; exact hq) (by decide) (by decide)
          have hx3 : exc W_p nob g1 g3 := exc_tr k3 l3
          have hb3 : bpl 1660 (pH g3) := by
            rw [l2, k2]
            exact bpl_on hq (rel_b h.1 h.2.1 h.2.2.2 hb hcn)
          have hwl := w01.2.2 (Or.inl (by rw [c_hw e1]; exact hw1))
          have p72 : gm_I g3 72 c = (P c).1 := by rw [hx3.1 72 c rfl]; exact hwl.1
          have p73 : gm_I g3 73 c = (P c).2.1 := by rw [hx3.1 73 c rfl]; exact hwl.2.1
          have p74 : gm_I g3 74 c = (P c).2.2 := by rw [hx3.1 74 c rfl]; exact hwl.2.2
          rw [k1, jb1_some, l1, jb1_some, p72, p73, p74, md_isHeld_eq hb3 (x := (P c).1) (y := (P c).2.1) (z := (P c).2.2) (N := Kb g) (h.2.2.2.2.2.1 c) (by decide) (by omega), jb1_some, jg_pos rg01]
          have hiff : pH g3 = ((P c).1, (P c).2.1, (P c).2.2) ↔ q = P b := by
            rw [l2, k2]
            constructor
            · intro y
              refine pon_right (rel_okt (ok b) (ok c)) hq.1 (ok b) ?_
              rw [pon_rel (ok b) (ok c)]
              exact y
            · intro y
              rw [show ((q.1, q.2.1, q.2.2) : plc) = P b from y, pon_rel (ok b) (ok c)]
          by_cases c3 : q = P b
          · rw [if_pos (hiff.mpr c3), if_neg n10]
            exact skip g3 (exc_tr hx hx3) (Or.inl c3)
          · rw [if_neg (fun y => c3 (hiff.mp y)), if_pos rfl, jl_eq]
            right
            have hno2 : ∀ c2, c2 < c → ¬ othw g b c2 := by
              rcases hno with y | y
              · exact absurd y c3
              · exact y
            obtain ⟨dd, d1, d2⟩ := cn_far h.2.1 hb hcn
            have e3 := (keepC_scr (scr_p hx3)).trans e1
            have e4 : keepC (gm_wI g3 44 55 0) = keepC g := (keepC_scr (exc_wI exc_rf rfl)).trans e3
            obtain ⟨g4, m1, m2, m3, m4, m5⟩ := md_goes_eq (g := gm_wI g3 44 55 0) (num_C e4 h.1.1) (V_jm_tr e4 h.2.1) (E := jE g) (best := 0) (fun g' hg' j hj => by
              have e5 : keepC g' = keepC g := (keepC_scr (scr_goes hg')).trans e4
              have := md_leads_0 (V_jm_tr e5 h.2.1) (j := j) (by rw [c_jm e5]; rw [c_jm e4] at hj; exact hj)
              rw [c_jE e5] at this
              exact this) (a := b) (b := c) (d := dd) (u := 0) hb hc (by rw [c_jA e4, c_jB e4, c_jm e4]; exact d2) (by omega) gI_eq
            rw [c_jA e4, c_jB e4, c_jm e4] at m5
            obtain ⟨g5, r1, r2, r3, r4, r5, r6, r7⟩ := md_clby_eq (g := g4) (k := 4) (one := (c : Int)) (two := (b : Int)) (u := 0 + dd) (by omega) m3
            rw [m1, jb1_some, r1, jb2_some]
            refine ⟨c3, c, hc, ⟨c1, hcn, hw1⟩, hno2, dd, d1, d2, g5, rfl, r2, by rw [r3]; omega, r4, r5, fun j hj => ?_, ?_⟩
            · rw [r6 j (by omega)]
              have := m5 j hj
              rw [Nat.zero_add] at this
              exact this
            · refine exc_tr (km_scr (scr_p hx)) (exc_tr (km_scr (exc_wI (scr_p hx3) rfl)) (exc_tr (km_scr (scr_goes m2)) (exc_mono r7 (fun a k q => ?_) (fun _ _ q => by cases q))))
              simp only [W_cl, Bool.or_eq_true, Bool.and_eq_true, beq_iff_eq] at q
              rcases q with rfl | ⟨rfl, ((rfl | rfl) | rfl) | rfl⟩ <;> rfl
      · rw [if_neg (by omega)]
        exact skip g1 hx (Or.inr (fun z => c2 (rt_cn z.2.1).symm))
/-- the reference's againstPlace: nothing; the clash 4; the clash 5 -/
theorem md_apl_eq {n : Nat} {g : gm_T} {P : Nat → plc} (h : IWm n g P) {g0 : gm_T} (e0 : keepC g0 = keepC g) (H0 : isGr n g P g0) {b : Nat} (hb : b < n) {q : plc} (hq : bpl 500 q) : ((q = P b ∨ ∀ c2, c2 < n → ¬ othw g b c2) ∧ (((∀ i k, i < n → k < n → ¬ hitb n g P b q i k) ∧ ∃ g2, md_againstPlace g0 (b : Int) q.1 q.2.1 q.2.2 = some (0, g2) ∧ exc scr scrJ g0 g2 ∧ isGr n g P g2) ∨ ∃ i k, LF (hitb n g P b q) n i k ∧ ∃ g2, md_againstPlace g0 (b : Int) q.1 q.2.1 q.2.2 = some (-15, g2) ∧ gm_I g2 44 35 = 5 ∧ gm_I g2 44 36 = 0 ∧ gm_I g2 44 37 = (i : Int) ∧ gm_I g2 44 38 = (k : Int) ∧ exc km scrJ g0 g2)) ∨ (q ≠ P b ∧ ∃ c2, c2 < n ∧ othw g b c2 ∧ (∀ c3, c3 < c2 → ¬ othw g b c3) ∧ ∃ d, d < n ∧ gbf (jA g) (jB g) (jE g) (jm g) b n c2 = (d : Int) ∧ ∃ g2, md_againstPlace g0 (b : Int) q.1 q.2.1 q.2.2 = some (-14, g2) ∧ gm_I g2 44 35 = 4 ∧ gm_I g2 44 36 = (d : Int) ∧ gm_I g2 44 37 = (c2 : Int) ∧ gm_I g2 44 38 = (b : Int) ∧ (∀ j, j < d → gm_I g2 75 j = ((gj (jA g) (jB g) (jE g) (jm g) (gbf (jA g) (jB g) (jE g) (jm g) b n) c2 j : Nat) : Int)) ∧ exc km scrJ g0 g2) := by
  have h30 := h.1.1.2.2
  unfold md_againstPlace
  rcases md_ap3_lp h e0 H0 hb hq n 0 fz g0 (by omega) (Nat.lt_of_le_of_lt h30 (fz_gt rfl)) exc_rf (Or.inr (fun c2 hc2 => by omega)) with ⟨z1, g1, z2, z3⟩ | ⟨z1, c2, z2, z3, z4, d, z5, z6, g2, z7, z8⟩
  · left
    rw [show ((0 : Nat) : Int) = 0 from rfl] at z2
    rw [z2, jc1_inl]
    refine ⟨z1, ?_⟩
    rcases md_ap_eq h ((keepC_scr (scr_p z3)).trans e0) (isGr_p H0 z3) hb hq with ⟨y1, g2, y2, y3, y4⟩ | ⟨i, k, y1, g2, y2, y3, y4, y5, y6, y7⟩
    · exact Or.inl ⟨y1, g2, y2, exc_tr (scr_p z3) y3, y4⟩
    · exact Or.inr ⟨i, k, y1, g2, y2, y3, y4, y5, y6, exc_tr (km_scr (scr_p z3)) y7⟩
  · right
    rw [show ((0 : Nat) : Int) = 0 from rfl] at z7
    rw [z7, jc1_inr]
    exact ⟨z1, c2, z2, z3, z4, d, z5, z6, g2, rfl, z8⟩
theorem md_isPlace_eq {g : gm_T} {t x y : Int} (ht : rg t) (hx : rg x) (hy : rg y) : md_isPlace g t x y = some (@ite _ (isPl t x y) (gd _) 1 0) := by
  unfold md_isPlace isPl
  rw [md_in_eq ht (rgk rfl) (rgk rfl), jb_tst, md_in_eq hx (rgk rfl) (rgk rfl), jb_tst, md_in_eq hy (rgk rfl) (rgk rfl), jb_tst]
  by_cases c1 : 0 ≤ t ∧ t ≤ 3
  · rw [if_pos c1]
    by_cases c2 : -500 ≤ x ∧ x ≤ 500
    · rw [if_pos c2]
      by_cases c3 : -500 ≤ y ∧ y ≤ 500
      · rw [if_pos c3, @if_pos _ (gd _) ⟨c1, c2, c3⟩]
      · rw [if_neg c3, @if_neg _ (gd _) (fun z => c3 z.2.2)]
    · rw [if_neg c2, @if_neg _ (gd _) (fun z => c2 z.2.1)]
  · rw [if_neg c1, @if_neg _ (gd _) (fun z => c1 z.1)]
theorem pl_bpl {t x y : Int} (h : isPl t x y) : bpl 500 (t, x, y) := ⟨h.1, h.2.1, h.2.2⟩
theorem cc_of_pl {g : gm_T} {t x y : Int} (h : isPl t x y) : cc_of g t x y = some (pp (t, x, y)) := by
  obtain ⟨h1, h2, h3⟩ := h
  rw [cc_of_eq (by omega) (by omega) (by omega), show t % 4 = t by omega]
  rfl
theorem md_stays_eq {g : gm_T} {b : Nat} (hb : b < 30) (t x y : Int) : ∃ g2, md_stays g (b : Int) t x y = some g2 ∧ (∀ c, gm_I g2 72 c = if c = b then t else gm_I g 72 c) ∧ (∀ c, gm_I g2 73 c = if c = b then x else gm_I g 73 c) ∧ (∀ c, gm_I g2 74 c = if c = b then y else gm_I g 74 c) ∧ exc (fun a _ => a == 72 || a == 73 || a == 74) nob g g2 := by
  unfold md_stays
  rw [jg_pos (by omega)]
  simp only [jl_eq, Int.toNat_natCast]
  refine ⟨_, rfl, fun c => ?_, fun c => ?_, fun c => ?_, exc_wI (exc_wI (exc_wI exc_rf rfl) rfl) rfl⟩
  · rw [gI_oth (by decide), gI_oth (by decide)]
    by_cases z : c = b
    · rw [if_pos z, z, gI_eq]
    · rw [if_neg z, gI_ne z]
  · rw [gI_oth (by decide)]
    by_cases z : c = b
    · rw [if_pos z, z, gI_eq]
    · rw [if_neg z, gI_ne z, gI_oth (by decide)]
  · by_cases z : c = b
    · rw [if_pos z, z, gI_eq]
    · rw [if_neg z, gI_ne z, gI_oth (by decide), gI_oth (by decide)]
theorem V_clash_wd {WJ : Nat → Nat → Bool} {g g2 : gm_T} (x : exc wd WJ g g2) (h : V_clash g) : V_clash g2 := by
  unfold V_clash
  rw [x.1 22 5 rfl, x.1 22 6 rfl, x.1 22 7 rfl, x.1 22 8 rfl, x.1 44 35 rfl, x.1 44 36 rfl, x.1 44 37 rfl, x.1 44 38 rfl]
  obtain ⟨h1, h2, h3, h4, h5⟩ := h
  refine ⟨h1, h2, h3, h4, fun k hk => ?_⟩
  rw [x.1 24 k rfl, x.1 75 k rfl]
  exact h5 k hk
/-- a clash told on both sides -/
theorem V_clash_of {g1 g2 : gm_T} (x : exc km scrJ g1 g2) {k d : Nat} {one two : Int} (hk : k ≤ 5) (hd : d ≤ 60) (c1 : gm_I g1 22 5 = (k : Int)) (c2 : gm_I g1 22 6 = one) (c3 : gm_I g1 22 7 = two) (c4 : gm_I g1 22 8 = (d : Int)) {w : Nat → Int} (c5 : ∀ j, j < d → gm_I g1 24 j = w j) (m1 : gm_I g2 44 35 = (k : Int)) (m2 : gm_I g2 44 36 = (d : Int)) (m3 : gm_I g2 44 37 = one) (m4 : gm_I g2 44 38 = two) (m5 : ∀ j, j < d → gm_I g2 75 j = w j) : V_clash g2 := by
  unfold V_clash
  rw [x.1 22 5 rfl, x.1 22 6 rfl, x.1 22 7 rfl, x.1 22 8 rfl, c1, c2, c3, c4, m1, m2, m3, m4]
  refine ⟨⟨rfl, by omega, by omega⟩, ⟨rfl, by omega, by omega⟩, rfl, rfl, fun j hj => ?_⟩
  rw [x.1 24 j rfl, c5 j (by omega), m5 j (by omega)]
theorem pp_inj {M N : Int} {p q : plc} (hp : bpl M p) (hq : bpl N q) (hM : M ≤ 524287) (hN : N ≤ 524287) : pp p = pp q ↔ p = q := by
  unfold pp
  rw [pk_inj (bpl_ok hp hM) (bpl_ok hq hN)]
  exact ⟨fun z => pl_ext z.1 z.2.1 z.2.2, fun z => by rw [z]; exact ⟨rfl, rfl, rfl⟩⟩
theorem keepC_cl {W WJ : Nat → Nat → Bool} {g g2 : gm_T} (x : exc W WJ g g2) (h1 : ∀ a k, W a k = true → (scr a k || cls a) = true) (h2 : ∀ a k, WJ a k = true → (scrJ a k || cls a) = true) : keepC g2 = keepC g := keepC_exc x h1 h2
theorem keepC_W22 {g g2 : gm_T} (x : exc W_22 nob g g2) : keepC g2 = keepC g := keepC_exc x (fun a k q => by
  simp only [W_22, Bool.or_eq_true, Bool.and_eq_true, beq_iff_eq] at q
  rcases q with ⟨rfl, ((rfl | rfl) | rfl) | rfl⟩ <;> rfl) (fun _ _ q => by cases q)
theorem keepC_tw {g g2 : gm_T} (x : exc W_tw nob g g2) : keepC g2 = keepC g := keepC_exc x (fun a k q => by
  simp only [W_tw, Bool.or_eq_true, Bool.and_eq_true, beq_iff_eq] at q
  rcases q with ((rfl | rfl) | rfl) | ⟨rfl, rfl⟩ <;> rfl) (fun _ _ q => by cases q)
theorem keepC_23 {g g2 : gm_T} (x : exc nob (fun a _ => a == 23) g g2) : keepC g2 = keepC g := keepC_exc x (fun a k q => by cases q) (fun a k q => by
  rw [beq_iff_eq] at q
  subst q
  cases scrJ 23 k <;> rfl)
/-- what bring gives, with the clash told -/
def saidG (n : Nat) (g : gm_T) (P : Nat → plc) (b : Nat) (q : plc) (o : Option (Int × gm_T)) : Prop := (∃ i k, LF (hitb n g P b q) n i k ∧ ∃ g2, o = some (5, g2) ∧ gm_I g2 22 5 = 5 ∧ gm_I g2 22 6 = (i : Int) ∧ gm_I g2 22 7 = (k : Int) ∧ gm_I g2 22 8 = 0 ∧ exc W_22 nob g g2) ∨ ((∀ i k, i < n → k < n → ¬ hitb n g P b q i k) ∧ ∃ g2, o = some (0, g2) ∧ exc nob (fun a _ => a == 23) g g2 ∧ ∀ c, c < 30 → gm_J g2 23 c = pp (brg g P b q c))
theorem cv_bring_eq2 {n : Nat} {g : gm_T} {P : Nat → plc} (h : IW n g P) {b : Nat} (hb : b < n) {q : plc} (hq : bpl 500 q) : saidG n g P b q (cv_bring n g (b : Int) (pp q)) := by
  rcases cv_bring_eq h hb hq with z | ⟨z1, g2, z2, z3, z4⟩
  · exact Or.inl z
  · exact Or.inr ⟨z1, g2, z2, z3, fun c hc => by rw [z4 c hc, brg_J h hb]⟩
