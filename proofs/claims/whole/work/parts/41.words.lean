/-! Words and puts change: unsay, lift. -/
def wd (a k : Nat) : Bool := scr a k || (a == 22 && (k == 3 || k == 4)) || (Nat.ble 70 a && Nat.ble a 74)
def keepB (g : gm_T) : gm_T := (fun a k => if wd a k = true then 0 else g.1 a k, fun a k => if scrJ a k = true then 0 else g.2 a k)
theorem keepB_exc {W WJ : Nat → Nat → Bool} {g g2 : gm_T} (h : exc W WJ g g2) (hw : ∀ a k, W a k = true → wd a k = true) (hj : ∀ a k, WJ a k = true → scrJ a k = true) : keepB g2 = keepB g := by
  unfold keepB
  refine Prod.ext ?_ ?_
  · funext a k
    dsimp only
    split
    · rfl
    · rename_i q
      exact h.1 a k (by
        cases hq : W a k with
        | false => rfl
        | true => exact absurd (hw a k hq) q)
  · funext a k
    dsimp only
    split
    · rfl
    · rename_i q
      exact h.2 a k (by
        cases hq : WJ a k with
        | false => rfl
        | true => exact absurd (hj a k hq) q)
theorem keepF_keepB (g : gm_T) : keepF (keepB g) = keepF g := by
  unfold keepF keepB
  refine Prod.ext ?_ ?_
  · funext a k
    dsimp only
    split
    · rename_i q
      split
      · rename_i q2
        exfalso
        simp only [R_fit, wd, scr, Bool.or_eq_true, Bool.and_eq_true, beq_iff_eq, Nat.ble_eq] at q q2
        omega
      · rfl
    · rfl
  · funext a k
    dsimp only
    split
    · rename_i q
      split
      · rename_i q2
        exfalso
        simp only [scrJ, Bool.or_eq_true, Bool.and_eq_true, beq_iff_eq, Nat.ble_eq] at q q2
        omega
      · rfl
    · rfl
theorem keepF_B {g g2 : gm_T} (e : keepB g2 = keepB g) : keepF g2 = keepF g := by
  rw [← keepF_keepB g2, e, keepF_keepB]
theorem b_cn {g g2 : gm_T} (e : keepB g2 = keepB g) : cn g2 = cn g := by
  show cn (keepB g2) = cn (keepB g)
  rw [e]
theorem b_rt {g g2 : gm_T} (e : keepB g2 = keepB g) : rt g2 = rt g := by
  unfold rt
  rw [b_cn e]
theorem V_jn_B {n : Nat} {g g2 : gm_T} (e : keepB g2 = keepB g) (h : V_jn n g) : V_jn n g2 := by
  have h1 : V_jn n (keepB g) := h
  rw [← e] at h1
  exact h1
theorem V_grp_B {n : Nat} {g g2 : gm_T} (e : keepB g2 = keepB g) (h : V_grp n g) : V_grp n g2 := by
  have h1 : V_grp n (keepB g) := h
  rw [← e] at h1
  exact h1
/-- the words' part of isW -/
def isV (n : Nat) (g : gm_T) (P : Nat → plc) : Prop := (∃ w u : Nat, gm_I g 22 3 = (w : Int) ∧ gm_I g 22 4 = (u : Int) ∧ w < 2 ^ 30 ∧ u < 2 ^ 30 ∧ ∀ b, w.testBit b = (decide (b < n) && hw g b) ∧ u.testBit b = (decide (b < n) && hp g b)) ∧ ∀ b, b < n → (gm_I g 70 b = 0 ∨ gm_I g 70 b = 1) ∧ (gm_I g 71 b = 0 ∨ gm_I g 71 b = 1) ∧ ((hw g b = true ∨ hp g b = true) → gm_I g 72 b = (P b).1 ∧ gm_I g 73 b = (P b).2.1 ∧ gm_I g 74 b = (P b).2.2)
theorem isW_B {n : Nat} {g g2 : gm_T} {P : Nat → plc} (e : keepB g2 = keepB g) (h : isW n g P) (hv : isV n g2 P) : isW n g2 P := by
  obtain ⟨h1, h2, h3, h4, -, -⟩ := h
  have k : (∀ b, b < 30 → gm_J (keepB g) 23 b = pp (P b)) ∧ (∀ b, n ≤ b → P b = p0) ∧ (∀ b, bpl (Kb (keepB g)) (P b)) ∧ (∀ j, j < jm (keepB g) → jE (keepB g) j = true → P (jB (keepB g) j) = pon (P (jA (keepB g) j)) (jpl (keepB g) j)) := ⟨h1, h2, h3, h4⟩
  rw [← e] at k
  obtain ⟨k1, k2, k3, k4⟩ := k
  exact ⟨k1, k2, k3, k4, hv.1, hv.2⟩
theorem IW_B {n : Nat} {g g2 : gm_T} {P : Nat → plc} (e : keepB g2 = keepB g) (h : IW n g P) (hv : isV n g2 P) : IW n g2 P := ⟨I_fit_tr (keepF_B e) h.1, V_jn_B e h.2.1, V_grp_B e h.2.2.1, isW_B e h.2.2.2 hv⟩
def W_71 (a k : Nat) : Bool := a == 71
theorem md_putsNone_lp {n : Nat} {g : gm_T} {P : Nat → plc} (hn : V_num n g) {g0 : gm_T} (h3 : gm_I g0 44 3 = (n : Int)) (H : isGr n g P g0) {r : Nat} (hr : r < n) (h01 : ∀ c, c < n → gm_I g0 71 c = 0 ∨ gm_I g0 71 c = 1) : ∀ (d k fuel : Nat) (g1 : gm_T), k + d = n → d < fuel → exc W_71 nob g0 g1 → (∀ c, gm_I g1 71 c = if c < k ∧ rt g c = r then 0 else gm_I g0 71 c) → ∃ g2, md_putsNone_l2 (r : Int) fuel (k : Int) g1 = some g2 ∧ exc W_71 nob g0 g2 ∧ ∀ c, gm_I g2 71 c = if c < n ∧ rt g c = r then 0 else gm_I g0 71 c := by
  have h30 := hn.2.2
  intro d
  induction d with
  | zero =>
    intro k fuel g1 hd hf hx h1
    obtain ⟨f, rfl⟩ : ∃ f, fuel = f + 1 := ⟨fuel - 1, by omega⟩
    have hk : k = n := by omega
    subst hk
    unfold md_putsNone_l2
    rw [hx.1 44 3 rfl, h3, jg_pos ⟨rgn (by omega), rgn (by omega)⟩, if_neg (by omega)]
    exact ⟨g1, rfl, hx, h1⟩
  | succ d ih =>
    intro k fuel g1 hd hf hx h1
    obtain ⟨f, rfl⟩ : ∃ f, fuel = f + 1 := ⟨fuel - 1, by omega⟩
    have hrt := rt_le g k
    have hq := h1 k
    rw [if_neg (by omega)] at hq
    have go : ∀ v : Int, v = (if rt g k = r then 0 else gm_I g0 71 k) → ∃ g2, md_putsNone_l2 (r : Int) f ((k : Int) + 1) (gm_wI g1 71 k v) = some g2 ∧ exc W_71 nob g0 g2 ∧ ∀ c, gm_I g2 71 c = if c < n ∧ rt g c = r then 0 else gm_I g0 71 c := by
      intro v hv
      refine ih (k + 1) f (gm_wI g1 71 k v) (by omega) (by omega) (exc_wI hx rfl) (fun c => ?_)
      by_cases hc : c = k
      · subst hc
        rw [gI_eq, hv]
        by_cases c2 : rt g c = r
        · rw [if_pos c2, if_pos ⟨by omega, c2⟩]
        · rw [if_neg c2, if_neg (fun z => c2 z.2)]
      · rw [gI_ne hc, h1 c]
        by_cases c2 : c < k ∧ rt g c = r
        · rw [if_pos c2, if_pos ⟨by omega, c2.2⟩]
        · rw [if_neg c2, if_neg (fun z => c2 ⟨by omega, z.2⟩)]
    unfold md_putsNone_l2
    rw [hx.1 44 3 rfl, h3, jg_pos ⟨rgn (by omega), rgn (by omega)⟩, if_pos (by omega), jg_pos (by omega), Int.toNat_natCast, hq, hx.1 78 k rfl, (H k (by omega)).1]
    rcases h01 k (by omega) with q | q
    · rw [q, jg_pos (rgk rfl), if_pos rfl, jl_eq]
      exact go 0 (by rw [q, ite_self])
    · rw [q, jg_pos (rgk rfl), if_neg n10, jg_pos ⟨rgn (by omega), rgn (by omega)⟩]
      by_cases c2 : rt g k = r
      · rw [if_pos (by omega), jl_eq]
        exact go 0 (by rw [if_pos c2])
      · rw [if_neg (by omega), jl_eq]
        exact go 1 (by rw [if_neg c2, q])
theorem md_putsNone_eq {n : Nat} {g : gm_T} {P : Nat → plc} (hn : V_num n g) {g0 : gm_T} (h3 : gm_I g0 44 3 = (n : Int)) (H : isGr n g P g0) {r : Nat} (hr : r < n) (h01 : ∀ c, c < n → gm_I g0 71 c = 0 ∨ gm_I g0 71 c = 1) : ∃ g2, md_putsNone g0 (r : Int) = some g2 ∧ exc W_71 nob g0 g2 ∧ ∀ c, gm_I g2 71 c = if c < n ∧ rt g c = r then 0 else gm_I g0 71 c := by
  have h30 := hn.2.2
  obtain ⟨g2, e1, e2⟩ := md_putsNone_lp hn h3 H hr h01 n 0 fz g0 (by omega) (Nat.lt_of_le_of_lt h30 (fz_gt rfl)) exc_rf (fun c => by rw [if_neg (by omega)])
  unfold md_putsNone
  rw [show md_putsNone_l2 (r : Int) fz 0 g0 = some g2 from e1, jb1_some]
  exact ⟨g2, rfl, e2⟩
theorem isGr_71 {n : Nat} {g : gm_T} {P : Nat → plc} {h h2 : gm_T} (H : isGr n g P h) (e : exc W_71 nob h h2) : isGr n g P h2 := isGr_exc H e (fun a k q => by
  simp only [Bool.or_eq_true, beq_iff_eq] at q
  rcases q with ((rfl | rfl) | rfl) | rfl <;> rfl)
theorem isGr_w {n : Nat} {g : gm_T} {P : Nat → plc} {h : gm_T} (H : isGr n g P h) {a k : Nat} {v : Int} (ha : (a == 78 || a == 79 || a == 80 || a == 81) = false) : isGr n g P (gm_wI h a k v) := by
  simp only [Bool.or_eq_false_iff, beq_eq_false_iff_ne] at ha
  obtain ⟨⟨⟨h1, h2⟩, h3⟩, h4⟩ := ha
  intro b hb
  unfold gG
  rw [gI_oth (fun z => h1 z.symm), gI_oth (fun z => h2 z.symm), gI_oth (fun z => h3 z.symm), gI_oth (fun z => h4 z.symm)]
  exact H b hb
theorem wd_71 {g g2 : gm_T} (h : exc W_71 nob g g2) : exc wd scrJ g g2 := exc_mono h (fun a k q => by
  simp only [W_71, wd, scr, Bool.or_eq_true, Bool.and_eq_true, beq_iff_eq, Nat.ble_eq] at q ⊢
  omega) (fun _ _ q => by cases q)
theorem wd_scr {g g2 : gm_T} (h : exc scr scrJ g g2) : exc wd scrJ g g2 := exc_mono h (fun a k q => by
  simp only [wd, Bool.or_eq_true]
  exact Or.inl (Or.inl q)) (fun _ _ q => q)
theorem wd_k {g g2 : gm_T} (h : exc wd scrJ g g2) : keepB g2 = keepB g := keepB_exc h (fun _ _ q => q) (fun _ _ q => q)
theorem dec2 {a b : Bool} (h : a = true ↔ b = true) : a = b := by
  cases a <;> cases b <;> simp at h ⊢
theorem md_groups_C {n : Nat} {g : gm_T} {P : Nat → plc} (h : IWm n g P) {g0 : gm_T} (e : keepC g0 = keepC g) : ∃ g1, md_groups g0 = some g1 ∧ exc W_gr nob g0 g1 ∧ isGr n g P g1 ∧ keepC g1 = keepC g := by
  obtain ⟨g1, e1, e2, e3⟩ := md_groups_eq (I_fit_tr (keepF_C e) h.1) (V_jm_tr e h.2.1) (isWm_tr e h.2.2.2)
  refine ⟨g1, e1, e2, fun b hb => ?_, (keepC_scr (scr_gr e2)).trans e⟩
  have := e3 b hb
  rw [c_rt e] at this
  exact this
/-- bits 22 of the class alone -/
theorem keepC_22 (g : gm_T) (k : Nat) (v : Int) : keepC (gm_wI g 22 k v) = keepC g := keepC_exc (W := fun a _ => a == 22) (WJ := nob) (exc_wI exc_rf rfl) (fun a k q => by
  simp only [beq_iff_eq] at q
  subst q
  cases scr 22 k <;> rfl) (fun _ _ q => by cases q)
theorem num_C {n : Nat} {g g2 : gm_T} (e : keepC g2 = keepC g) (h : V_num n g) : V_num n g2 := by
  have h1 : V_num n (keepC g) := h
  rw [← e] at h1
  exact h1
theorem tb_lt {n : Nat} {g : gm_T} (V : V_jn n g) {b M : Nat} (hb : b < n) (h : isG g b M) (c : Nat) : M.testBit c = true ↔ c < n ∧ rt g c = rt g b := by
  rw [h.2 c]
  exact ⟨fun q => ⟨cn_lt V hb q, (rt_cn q).symm⟩, fun q => rt_iff.mp q.2.symm⟩
theorem op_lift {n : Nat} {g : gm_T} {P : Nat → plc} (h : IW n g P) {a : Int} (ha : rg a) : ∃ r g1 g2, cw_lift g a = some (r, g1) ∧ md_lift g1 a = some (r, g2) ∧ IW n g2 P ∧ exc wd scrJ g g2 := by
  have hn := h.1.1
  have h30 := hn.2.2
  unfold cw_lift
  simp only [cw_isBit_eq hn ha, jb_tst]
  by_cases h1 : 0 ≤ a ∧ a < (n : Int)
  · obtain ⟨b, rfl⟩ : ∃ b : Nat, a = (b : Int) := ⟨_, (Int.toNat_of_nonneg h1.1).symm⟩
    have hb : b < n := by omega
    obtain ⟨M, m1, m2⟩ := h.2.2.1 b hb
    have hrb : rt g b < n := Nat.lt_of_le_of_lt (rt_le g b) hb
    rw [if_pos h1, cv_stands_eq h hb, jb_gd]
    by_cases c1 : onW n g b
    · rw [@if_pos _ (gd _) c1, cv_ghw_eq h hb, jb_gd]
      by_cases c2 : hasW n g b
      · rw [@if_pos _ (gd _) c2]
        obtain ⟨g1, e1, e2, e3, eh⟩ := md_groups_C (im h) (rfl : keepC g = keepC g)
        refine ⟨_, g, g1, rfl, ?_, IW_tr (keepA_scr (scr_gr e2)) h, wd_scr (scr_gr e2)⟩
        unfold md_lift
        rw [md_isBit_eq hn ha, jb_tst, if_pos h1, e1, jb1_some, jg_pos (by omega), Int.toNat_natCast, (e3 b hb).1, md_holder_eq hn (wm h.2.2.2) eh e3 hrb, jb1_some]
        rcases hl_sp (n := n) g b with ⟨q1, q2⟩ | ⟨c, q1, q2, -⟩
        · exact absurd c1 q2
        · rw [q2, jg_pos (rgn (by omega)), if_neg (by omega), md_hwi_all (im h) eh e3 hb, jb_gd, @if_pos _ (gd _) c2]
      · rw [@if_neg _ (gd _) c2, jg_pos (by omega), Int.toNat_natCast, jl_eq, gI_oth (by decide), m1, bc_grp h30 h.2.1 _ hb m2, jb1_some]
        obtain ⟨⟨w, u, w1, u1, w2, u2, w3⟩, hcell⟩ := h.2.2.2.2.2.2.2
        rw [u1, zA_not (by omega)]
        have e0 := keepC_22 g 4 ((ndf u M : Nat) : Int)
        generalize hG : gm_wI g 22 4 ((ndf u M : Nat) : Int) = g0 at e0
        have x0 : exc wd scrJ g g0 := by
          rw [← hG]
          exact exc_wI exc_rf rfl
        have h0 : gm_I g0 22 4 = ((ndf u M : Nat) : Int) := by rw [← hG, gI_eq]
        have h03 : gm_I g0 22 3 = (w : Int) := by rw [← hG, gI_ne (by decide)]; exact w1
        have h0c : ∀ a k, a ≠ 22 → gm_I g0 a k = gm_I g a k := fun a k q => by rw [← hG, gI_oth q]
        obtain ⟨g1, e1, e2, e3, eh⟩ := md_groups_C (im h) e0
        have c01 : ∀ c, c < n → gm_I g1 71 c = 0 ∨ gm_I g1 71 c = 1 := fun c hc => by
          rw [e2.1 71 c rfl, h0c 71 c (by decide)]
          exact (hcell c hc).2.1
        obtain ⟨g2, f1, f2, f3⟩ := md_putsNone_eq hn (num_C eh hn).2.1 e3 hrb c01
        refine ⟨_, g0, g2, rfl, ?_, ?_, exc_tr x0 (exc_tr (wd_scr (scr_gr e2)) (wd_71 f2))⟩
        · unfold md_lift
          rw [md_isBit_eq (num_C e0 hn) ha, jb_tst, if_pos h1, e1, jb1_some, jg_pos (by omega), Int.toNat_natCast, (e3 b hb).1, md_holder_eq hn (wm h.2.2.2) eh e3 hrb, jb1_some]
          rcases hl_sp (n := n) g b with ⟨q1, q2⟩ | ⟨c, q1, q2, -⟩
          · exact absurd c1 q2
          · rw [q2, jg_pos (rgn (by omega)), if_neg (by omega), md_hwi_all (im h) eh e3 hb, jb_gd, @if_neg _ (gd _) c2, f1, jb1_some, f2.1 78 b rfl, (e3 b hb).1, md_sizeOf_eq hn (by rw [f2.1 44 3 rfl]; exact (num_C eh hn).2.1) (isGr_71 e3 f2) hrb, jb1_some]
        · have y70 : ∀ a k, (a = 70 ∨ a = 72 ∨ a = 73 ∨ a = 74) → gm_I g2 a k = gm_I g a k := by
            rintro a k (rfl | rfl | rfl | rfl)
            · rw [f2.1 70 k rfl, e2.1 70 k rfl, h0c 70 k (by decide)]
            · rw [f2.1 72 k rfl, e2.1 72 k rfl, h0c 72 k (by decide)]
            · rw [f2.1 73 k rfl, e2.1 73 k rfl, h0c 73 k (by decide)]
            · rw [f2.1 74 k rfl, e2.1 74 k rfl, h0c 74 k (by decide)]
          have y71 : ∀ c, gm_I g2 71 c = if c < n ∧ rt g c = rt g b then 0 else gm_I g 71 c := by
            intro c
            rw [f3 c, e2.1 71 c rfl, h0c 71 c (by decide)]
          have yw : ∀ c, hw g2 c = hw g c := fun c => by
            unfold hw
            rw [y70 70 c (Or.inl rfl)]
          have yp : ∀ c, hp g2 c = true ↔ hp g c = true ∧ ¬ (c < n ∧ rt g c = rt g b) := fun c => by
            unfold hp
            rw [y71 c, decide_eq_true_eq, decide_eq_true_eq]
            by_cases q : c < n ∧ rt g c = rt g b
            · rw [if_pos q]
              exact ⟨fun z => absurd rfl z, fun z => absurd q z.2⟩
            · rw [if_neg q]
              exact ⟨fun z => ⟨z, q⟩, fun z => z.1⟩
          refine IW_B (wd_k (exc_tr x0 (exc_tr (wd_scr (scr_gr e2)) (wd_71 f2)))) h ⟨⟨w, ndf u M, ?_, ?_, w2, Nat.lt_of_le_of_lt (ndf_le u M) u2, fun c => ⟨?_, ?_⟩⟩, fun c hc => ⟨?_, ?_, fun q => ?_⟩⟩
          · rw [f2.1 22 3 rfl, e2.1 22 3 rfl, h03]
          · rw [f2.1 22 4 rfl, e2.1 22 4 rfl, h0]
          · rw [(w3 c).1, yw c]
          · apply dec2
            rw [ndf_bit, (w3 c).2, Bool.and_eq_true, ndd, ndd, yp c, Bool.not_eq_true', ← Bool.not_eq_true, tb_lt h.2.1 hb m2]
            constructor
            · rintro ⟨⟨z1, z2⟩, z3⟩
              exact ⟨z1, z2, z3⟩
            · rintro ⟨z1, z2, z3⟩
              exact ⟨⟨z1, z2⟩, z3⟩
          · rw [y70 70 c (Or.inl rfl)]
            exact (hcell c hc).1
          · rw [y71 c]
            split
            · exact Or.inl rfl
            · exact (hcell c hc).2.1
          · rw [y70 72 c (Or.inr (Or.inl rfl)), y70 73 c (Or.inr (Or.inr (Or.inl rfl))), y70 74 c (Or.inr (Or.inr (Or.inr rfl)))]
            refine (hcell c hc).2.2 ?_
            rcases q with q | q
            · exact Or.inl (by rw [← yw c]; exact q)
            · exact Or.inr ((yp c).mp q).1
    · rw [@if_neg _ (gd _) c1]
      obtain ⟨g1, e1, e2, e3, eh⟩ := md_groups_C (im h) (rfl : keepC g = keepC g)
      refine ⟨_, g, g1, rfl, ?_, IW_tr (keepA_scr (scr_gr e2)) h, wd_scr (scr_gr e2)⟩
      unfold md_lift
      rw [md_isBit_eq hn ha, jb_tst, if_pos h1, e1, jb1_some, jg_pos (by omega), Int.toNat_natCast, (e3 b hb).1, md_holder_eq hn (wm h.2.2.2) eh e3 hrb, jb1_some]
      rcases hl_sp (n := n) g b with ⟨q1, q2⟩ | ⟨c, q1, q2, q3, q4, q5⟩
      · rw [q1, jg_pos (rgk rfl), if_pos rfl]
      · exact absurd q5 c1
  · rw [if_neg h1]
    refine ⟨_, g, g, rfl, ?_, h, exc_rf⟩
    unfold md_lift
    rw [md_isBit_eq hn ha, jb_tst, if_neg h1]
theorem cv_ghw_raw {g : gm_T} {b M w : Nat} (hb : b < 30) (h1 : gm_I g 19 b = (M : Int)) (h2 : gm_I g 22 3 = (w : Int)) (hw : w < 2 ^ 30) : cv_groupHasWord g (b : Int) = some (if w &&& M = 0 then 0 else 1) := by
  unfold cv_groupHasWord
  rw [jg_pos (by omega), Int.toNat_natCast, h1, h2, zA_n _ (by omega)]
  by_cases c : w &&& M = 0
  · rw [if_pos (by rw [c]; rfl), if_pos c]
  · rw [if_neg (by omega), if_neg c]
theorem cv_putBy_eq {g : gm_T} {b M u : Nat} (hb : b < 30) (h1 : gm_I g 19 b = (M : Int)) (h2 : gm_I g 22 4 = (u : Int)) (hu : u < 2 ^ 30) : cv_putBy g (b : Int) = some (gm_wI g 22 4 ((ndf u M ||| 2 ^ b : Nat) : Int)) := by
  unfold cv_putBy
  have h3 := ndf_le u M
  rw [jg_pos (by omega), Int.toNat_natCast, h1, h2, zA_not (by omega), zSl_1 (by omega), zO_n (by omega) (p30 hb), jl_eq]
theorem isWm_70 {n : Nat} {g : gm_T} {P : Nat → plc} (h : IWm n g P) (b : Nat) : IWm n (gm_wI g 70 b 0) P := by
  have e : keepF (gm_wI g 70 b 0) = keepF g := keepF_exc (W := fun a _ => a == 70) (WJ := nob) (exc_wI exc_rf rfl) (fun a k q => by
    cases hw : a == 70 with
    | false => rfl
    | true =>
      exfalso
      rw [beq_iff_eq] at hw
      subst hw
      exact Bool.noConfusion (show false = true from q)) (fun _ _ _ => rfl)
  obtain ⟨h1, h2, -, -, p2, p3, p4, -, p6⟩ := h
  refine ⟨I_fit_tr e h1, h2, trivial, trivial, p2, p3, p4, trivial, fun c hc => ?_⟩
  obtain ⟨q1, q2, q3⟩ := p6 c hc
  have hc70 : gm_I (gm_wI g 70 b 0) 70 c = if c = b then 0 else gm_I g 70 c := by
    by_cases z : c = b
    · rw [if_pos z, z, gI_eq]
    · rw [if_neg z, gI_ne z]
  refine ⟨?_, q2, fun z => q3 ?_⟩
  · rw [hc70]
    split
    · exact Or.inl rfl
    · exact q1
  · rcases z with z | z
    · left
      unfold hw at z ⊢
      rw [hc70] at z
      by_cases y : c = b
      · rw [if_pos y] at z
        exact absurd z (by decide)
      · rw [if_neg y] at z
        exact z
    · exact Or.inr z
theorem op_unsay {n : Nat} {g : gm_T} {P : Nat → plc} (h : IW n g P) {a : Int} (ha : rg a) : ∃ r g1 g2, cw_unsay g a = some (r, g1) ∧ md_unsay g1 a = some (r, g2) ∧ IW n g2 P ∧ exc wd scrJ g g2 := by
  have hn := h.1.1
  have h30 := hn.2.2
  unfold cw_unsay
  simp only [cw_isBit_eq hn ha, jb_tst]
  by_cases h1 : 0 ≤ a ∧ a < (n : Int)
  · obtain ⟨b, rfl⟩ : ∃ b : Nat, a = (b : Int) := ⟨_, (Int.toNat_of_nonneg h1.1).symm⟩
    have hb : b < n := by omega
    obtain ⟨M, m1, m2⟩ := h.2.2.1 b hb
    have hrb : rt g b < n := Nat.lt_of_le_of_lt (rt_le g b) hb
    obtain ⟨⟨w, u, w1, u1, w2, u2, w3⟩, hcell⟩ := h.2.2.2.2.2.2.2
    have hwb : hw g b = decide (gm_I g 70 b ≠ 0) := rfl
    rw [if_pos h1, cv_hasWord_eq h hb, jb_tst]
    by_cases c1 : hw g b = true
    · have h70 : gm_I g 70 b = 1 := by
        rw [c1] at hwb
        have := of_decide_eq_true hwb.symm
        have := (hcell b hb).1
        omega
      have hM : M.testBit b = true := (m2.2 b).mpr (gC_rf b)
      rw [if_pos c1]
      unfold cv_takeBack
      rw [w1, zSl_1 (by omega), zA_not (by omega), jl_eq]
      have hw' : ndf w (2 ^ b) < 2 ^ 30 := Nat.lt_of_le_of_lt (ndf_le _ _) w2
      have e0 := keepC_22 g 3 ((ndf w (2 ^ b) : Nat) : Int)
      have hbit : ∀ c, (ndf w (2 ^ b)).testBit c = true ↔ (c < n ∧ hw g c = true) ∧ c ≠ b := by
        intro c
        rw [ndf_bit, (w3 c).1, Bool.and_eq_true, ndd, Nat.testBit_two_pow, Bool.not_eq_true', decide_eq_false_iff_not]
        exact ⟨fun z => ⟨z.1, fun y => z.2 y.symm⟩, fun z => ⟨z.1, fun y => z.2 y.symm⟩⟩
      generalize hG : gm_wI g 22 3 ((ndf w (2 ^ b) : Nat) : Int) = g0 at e0
      have x0 : exc wd scrJ g g0 := by
        rw [← hG]
        exact exc_wI exc_rf rfl
      have h03 : gm_I g0 22 3 = ((ndf w (2 ^ b) : Nat) : Int) := by rw [← hG, gI_eq]
      have h04 : gm_I g0 22 4 = (u : Int) := by rw [← hG, gI_ne (by decide)]; exact u1
      have h0c : ∀ a k, a ≠ 22 → gm_I g0 a k = gm_I g a k := fun a k q => by rw [← hG, gI_oth q]
      rw [cv_ghw_raw (by omega) (by rw [h0c 19 b (by decide)]; exact m1) h03 hw']
      -- another word in the group
      have hoth : ¬ (ndf w (2 ^ b) &&& M = 0) ↔ ∃ c, c < n ∧ rt g c = rt g b ∧ (c : Int) ≠ (b : Int) ∧ hw (gm_wI g 70 b 0) c = true := by
        have hx : ∀ c, c ≠ b → hw (gm_wI g 70 b 0) c = hw g c := fun c hc => by
          unfold hw
          rw [gI_ne hc]
        constructor
        · intro hq
          apply Classical.byContradiction
          intro hno
          apply hq
          rw [and0]
          rintro i ⟨q1, q2⟩
          rw [hbit] at q1
          rw [tb_lt h.2.1 hb m2] at q2
          exact hno ⟨i, q1.1.1, q2.2, by omega, by rw [hx i q1.2]; exact q1.1.2⟩
        · rintro ⟨c, q1, q2, q3, q4⟩ hq
          have hcb : c ≠ b := by omega
          rw [hx c hcb] at q4
          exact and0.mp hq c ⟨(hbit c).mpr ⟨⟨q1, q4⟩, hcb⟩, (tb_lt h.2.1 hb m2 c).mpr ⟨q1, q2⟩⟩
      have hmod : ∀ g1, keepC g1 = keepC g → ∃ g2, md_groups g1 = some g2 ∧ exc W_gr nob g1 g2 ∧ isGr n g P g2 ∧ keepC g2 = keepC g := fun g1 e => md_groups_C (im h) e
      have h70g : IWm n (gm_wI g 70 b 0) P := isWm_70 (im h) b
      have rt70 : rt (gm_wI g 70 b 0) = rt g := rfl
      by_cases c2 : ndf w (2 ^ b) &&& M = 0
      · rw [if_pos c2, jb1_some, jg_pos (rgk rfl), if_pos rfl, cv_putBy_eq (by omega) (by rw [h0c 19 b (by decide)]; exact m1) h04 u2, jb1_some, jb1_some]
        have e1' := (keepC_22 g0 4 ((ndf u M ||| 2 ^ b : Nat) : Int)).trans e0
        have hu' : ndf u M ||| 2 ^ b < 2 ^ 30 := Nat.or_lt_two_pow (Nat.lt_of_le_of_lt (ndf_le _ _) u2) (Nat.pow_lt_pow_right (by decide) (by omega))
        generalize hG1 : gm_wI g0 22 4 ((ndf u M ||| 2 ^ b : Nat) : Int) = g1 at e1'
        have x1 : exc wd scrJ g g1 := by
          rw [← hG1]
          exact exc_wI x0 rfl
        have h13 : gm_I g1 22 3 = ((ndf w (2 ^ b) : Nat) : Int) := by rw [← hG1, gI_ne (by decide)]; exact h03
        have h14 : gm_I g1 22 4 = ((ndf u M ||| 2 ^ b : Nat) : Int) := by rw [← hG1, gI_eq]
        have h1c : ∀ a k, a ≠ 22 → gm_I g1 a k = gm_I g a k := fun a k q => by rw [← hG1, gI_oth q, h0c a k q]
        obtain ⟨g2, e1, e2, e3, eh⟩ := hmod g1 e1'
        have eh3 : keepC (gm_wI g2 70 b 0) = keepC (gm_wI g 70 b 0) := by
          have t : ∀ x : gm_T, keepC (gm_wI x 70 b 0) = gm_wI (keepC x) 70 b 0 := by
            intro x
            unfold keepC gm_wI
            refine Prod.ext ?_ rfl
            funext a k
            dsimp only
            unfold jm_u
            by_cases q : a = 70
            · subst q
              by_cases q2 : k = b
              · subst q2; simp
              · simp [q2]
            · simp [q]
          rw [t, t, eh]
        have e3' : isGr n (gm_wI g 70 b 0) P (gm_wI g2 70 b 0) := isGr_w e3 rfl
        have hwi := md_hwi_eq h70g eh3 e3' hrb (but := (b : Int)) (rgn (by omega))
        rw [rt70, @if_neg _ (gd _) (fun q => hoth.mpr q c2)] at hwi
        have c01 : ∀ c, c < n → gm_I (gm_wI g2 70 b 0) 71 c = 0 ∨ gm_I (gm_wI g2 70 b 0) 71 c = 1 := fun c hc => by
          rw [gI_oth (by decide), e2.1 71 c rfl, h1c 71 c (by decide)]
          exact (hcell c hc).2.1
        obtain ⟨g3, f1, f2, f3⟩ := md_putsNone_eq hn (g0 := gm_wI g2 70 b 0) (by rw [gI_oth (by decide)]; exact (num_C eh hn).2.1) (isGr_w e3 rfl) hrb c01
        have xf : exc wd scrJ g (gm_wI g3 71 b 1) := exc_wI (exc_tr (exc_wI (exc_tr x1 (wd_scr (scr_gr e2))) rfl) (wd_71 f2)) rfl
        refine ⟨1, g1, gm_wI g3 71 b 1, rfl, ?_, ?_, xf⟩
        · unfold md_unsay
          rw [md_isBit_eq (num_C e1' hn) ha, jb_tst, if_pos h1, jg_pos (by omega), Int.toNat_natCast, h1c 70 b (by decide), h70, jg_pos (rgk rfl), if_neg n10, e1, jb1_some, jl_eq, gI_oth (by decide), (e3 b hb).1, hwi, jb1_some, jg_pos (rgk rfl), if_pos rfl, f1, jb1_some, jl_eq]
        · have y70 : ∀ c, gm_I (gm_wI g3 71 b 1) 70 c = if c = b then 0 else gm_I g 70 c := by
            intro c
            rw [gI_oth (by decide), f2.1 70 c rfl]
            by_cases q : c = b
            · rw [if_pos q, q, gI_eq]
            · rw [if_neg q, gI_ne q, e2.1 70 c rfl, h1c 70 c (by decide)]
          have y71 : ∀ c, gm_I (gm_wI g3 71 b 1) 71 c = if c = b then 1 else if c < n ∧ rt g c = rt g b then 0 else gm_I g 71 c := by
            intro c
            by_cases q : c = b
            · rw [if_pos q, q, gI_eq]
            · rw [if_neg q, gI_ne q, f3 c, gI_oth (by decide), e2.1 71 c rfl, h1c 71 c (by decide)]
          have y7x : ∀ a k, (a = 72 ∨ a = 73 ∨ a = 74) → gm_I (gm_wI g3 71 b 1) a k = gm_I g a k := by
            rintro a k (rfl | rfl | rfl)
            · rw [gI_oth (by decide), f2.1 72 k rfl, gI_oth (by decide), e2.1 72 k rfl, h1c 72 k (by decide)]
            · rw [gI_oth (by decide), f2.1 73 k rfl, gI_oth (by decide), e2.1 73 k rfl, h1c 73 k (by decide)]
            · rw [gI_oth (by decide), f2.1 74 k rfl, gI_oth (by decide), e2.1 74 k rfl, h1c 74 k (by decide)]
          have yw : ∀ c, hw (gm_wI g3 71 b 1) c = true ↔ hw g c = true ∧ c ≠ b := fun c => by
            unfold hw
            rw [y70 c, decide_eq_true_eq, decide_eq_true_eq]
            by_cases q : c = b
            · rw [if_pos q]
              exact ⟨fun z => absurd rfl z, fun z => absurd q z.2⟩
            · rw [if_neg q]
              exact ⟨fun z => ⟨z, q⟩, fun z => z.1⟩
          have yp : ∀ c, hp (gm_wI g3 71 b 1) c = true ↔ (hp g c = true ∧ ¬ (c < n ∧ rt g c = rt g b)) ∨ c = b := fun c => by
            unfold hp
            rw [y71 c, decide_eq_true_eq, decide_eq_true_eq]
            by_cases q : c = b
            · rw [if_pos q]
              exact ⟨fun _ => Or.inr q, fun _ => by decide⟩
            · rw [if_neg q]
              by_cases q2 : c < n ∧ rt g c = rt g b
              · rw [if_pos q2]
                exact ⟨fun z => absurd rfl z, fun z => by
                  rcases z with z | z
                  · exact absurd q2 z.2
                  · exact absurd z q⟩
              · rw [if_neg q2]
                exact ⟨fun z => Or.inl ⟨z, q2⟩, fun z => by
                  rcases z with z | z
                  · exact z.1
                  · exact absurd z q⟩
          refine IW_B (wd_k xf) h ⟨⟨ndf w (2 ^ b), ndf u M ||| 2 ^ b, ?_, ?_, hw', hu', fun c => ⟨?_, ?_⟩⟩, fun c hc => ⟨?_, ?_, fun q => ?_⟩⟩
          · rw [gI_oth (by decide), f2.1 22 3 rfl, gI_oth (by decide), e2.1 22 3 rfl, h13]
          · rw [gI_oth (by decide), f2.1 22 4 rfl, gI_oth (by decide), e2.1 22 4 rfl, h14]
          · apply dec2
            rw [hbit c, ndd, yw c]
            exact ⟨fun z => ⟨z.1.1, z.1.2, z.2⟩, fun z => ⟨⟨z.1, z.2.1⟩, z.2.2⟩⟩
          · apply dec2
            rw [Nat.testBit_or, ndf_bit, (w3 c).2, Bool.or_eq_true, Bool.and_eq_true, ndd, ndd, yp c, Bool.not_eq_true', ← Bool.not_eq_true, tb_lt h.2.1 hb m2, Nat.testBit_two_pow, decide_eq_true_eq]
            constructor
            · rintro (⟨⟨z1, z2⟩, z3⟩ | z)
              · exact ⟨z1, Or.inl ⟨z2, z3⟩⟩
              · exact ⟨by omega, Or.inr z.symm⟩
            · rintro ⟨z1, ⟨z2, z3⟩ | z⟩
              · exact Or.inl ⟨⟨z1, z2⟩, z3⟩
              · exact Or.inr z.symm
          · rw [y70 c]
            split
            · exact Or.inl rfl
            · exact (hcell c hc).1
          · rw [y71 c]
            split
            · exact Or.inr rfl
            · split
              · exact Or.inl rfl
              · exact (hcell c hc).2.1
          · rw [y7x 72 c (Or.inl rfl), y7x 73 c (Or.inr (Or.inl rfl)), y7x 74 c (Or.inr (Or.inr rfl))]
            refine (hcell c hc).2.2 ?_
            rcases q with q | q
            · exact Or.inl ((yw c).mp q).1
            · rcases (yp c).mp q with z | z
              · exact Or.inr z.1
              · rw [z]
                exact Or.inl c1
      · rw [if_neg c2, jb1_some, jg_pos (rgk rfl), if_neg n10, jb1_some]
        obtain ⟨g2, e1, e2, e3, eh⟩ := hmod g0 e0
        have eh3 : keepC (gm_wI g2 70 b 0) = keepC (gm_wI g 70 b 0) := by
          have t : ∀ x : gm_T, keepC (gm_wI x 70 b 0) = gm_wI (keepC x) 70 b 0 := by
            intro x
            unfold keepC gm_wI
            refine Prod.ext ?_ rfl
            funext a k
            dsimp only
            unfold jm_u
            by_cases q : a = 70
            · subst q
              by_cases q2 : k = b
              · subst q2; simp
              · simp [q2]
            · simp [q]
          rw [t, t, eh]
        have e3' : isGr n (gm_wI g 70 b 0) P (gm_wI g2 70 b 0) := isGr_w e3 rfl
        have hwi := md_hwi_eq h70g eh3 e3' hrb (but := (b : Int)) (rgn (by omega))
        rw [rt70, @if_pos _ (gd _) (hoth.mp c2)] at hwi
        have xf : exc wd scrJ g (gm_wI g2 70 b 0) := exc_wI (exc_tr x0 (wd_scr (scr_gr e2))) rfl
        refine ⟨1, g0, gm_wI g2 70 b 0, rfl, ?_, ?_, xf⟩
        · unfold md_unsay
          rw [md_isBit_eq (num_C e0 hn) ha, jb_tst, if_pos h1, jg_pos (by omega), Int.toNat_natCast, h0c 70 b (by decide), h70, jg_pos (rgk rfl), if_neg n10, e1, jb1_some, jl_eq, gI_oth (by decide), (e3 b hb).1, hwi, jb1_some, jg_pos (rgk rfl), if_neg n10]
        · have y70 : ∀ c, gm_I (gm_wI g2 70 b 0) 70 c = if c = b then 0 else gm_I g 70 c := by
            intro c
            by_cases q : c = b
            · rw [if_pos q, q, gI_eq]
            · rw [if_neg q, gI_ne q, e2.1 70 c rfl, h0c 70 c (by decide)]
          have y7x : ∀ a k, (a = 71 ∨ a = 72 ∨ a = 73 ∨ a = 74) → gm_I (gm_wI g2 70 b 0) a k = gm_I g a k := by
            rintro a k (rfl | rfl | rfl | rfl)
            · rw [gI_oth (by decide), e2.1 71 k rfl, h0c 71 k (by decide)]
            · rw [gI_oth (by decide), e2.1 72 k rfl, h0c 72 k (by decide)]
            · rw [gI_oth (by decide), e2.1 73 k rfl, h0c 73 k (by decide)]
            · rw [gI_oth (by decide), e2.1 74 k rfl, h0c 74 k (by decide)]
          have yw : ∀ c, hw (gm_wI g2 70 b 0) c = true ↔ hw g c = true ∧ c ≠ b := fun c => by
            unfold hw
            rw [y70 c, decide_eq_true_eq, decide_eq_true_eq]
            by_cases q : c = b
            · rw [if_pos q]
              exact ⟨fun z => absurd rfl z, fun z => absurd q z.2⟩
            · rw [if_neg q]
              exact ⟨fun z => ⟨z, q⟩, fun z => z.1⟩
          have yp : ∀ c, hp (gm_wI g2 70 b 0) c = hp g c := fun c => by
            unfold hp
            rw [y7x 71 c (Or.inl rfl)]
          refine IW_B (wd_k xf) h ⟨⟨ndf w (2 ^ b), u, ?_, ?_, hw', u2, fun c => ⟨?_, ?_⟩⟩, fun c hc => ⟨?_, ?_, fun q => ?_⟩⟩
          · rw [gI_oth (by decide), e2.1 22 3 rfl, h03]
          · rw [gI_oth (by decide), e2.1 22 4 rfl, h04]
          · apply dec2
            rw [hbit c, ndd, yw c]
            exact ⟨fun z => ⟨z.1.1, z.1.2, z.2⟩, fun z => ⟨⟨z.1, z.2.1⟩, z.2.2⟩⟩
          · rw [(w3 c).2, yp c]
          · rw [y70 c]
            split
            · exact Or.inl rfl
            · exact (hcell c hc).1
          · rw [y7x 71 c (Or.inl rfl)]
            exact (hcell c hc).2.1
          · rw [y7x 72 c (Or.inr (Or.inl rfl)), y7x 73 c (Or.inr (Or.inr (Or.inl rfl))), y7x 74 c (Or.inr (Or.inr (Or.inr rfl)))]
            refine (hcell c hc).2.2 ?_
            rcases q with q | q
            · exact Or.inl ((yw c).mp q).1
            · exact Or.inr (by rw [← yp c]; exact q)
    · have h70 : gm_I g 70 b = 0 := by
        have := (hcell b hb).1
        rcases this with q | q
        · exact q
        · exact absurd (by rw [hwb, q]; rfl) c1
      rw [if_neg c1]
      refine ⟨_, g, g, rfl, ?_, h, exc_rf⟩
      unfold md_unsay
      rw [md_isBit_eq hn ha, jb_tst, if_pos h1, jg_pos (by omega), Int.toNat_natCast, h70, jg_pos (rgk rfl), if_pos rfl]
  · rw [if_neg h1]
    refine ⟨_, g, g, rfl, ?_, h, exc_rf⟩
    unfold md_unsay
    rw [md_isBit_eq hn ha, jb_tst, if_neg h1]
