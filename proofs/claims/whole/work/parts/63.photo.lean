/-! The operation photograph. -/
def V_photo (g : gm_T) : Prop := (gm_I g 25 1 = 0 ∧ gm_I g 44 59 = 0) ∨ ∃ (W H D : Nat) (M : Nat → Nat), (1 ≤ W ∧ W ≤ 16) ∧ (1 ≤ H ∧ H ≤ 16) ∧ D ≤ 3 ∧ (gm_I g 25 1 = (W : Int) ∧ gm_I g 44 59 = (W : Int)) ∧ (gm_I g 25 2 = (H : Int) ∧ gm_I g 44 60 = (H : Int)) ∧ (gm_I g 25 3 = gm_I g 44 61 ∧ -500 ≤ gm_I g 44 61 ∧ gm_I g 44 61 ≤ 500) ∧ (gm_I g 25 4 = gm_I g 44 62 ∧ -500 ≤ gm_I g 44 62 ∧ gm_I g 44 62 ≤ 500) ∧ gm_I g 44 63 = (D : Int) ∧ isN g M ∧ (∀ y x, y < H → x < W → -1 ≤ gm_I g 88 (16 * y + x) ∧ gm_I g 88 (16 * y + x) ≤ 9) ∧ ∀ k, k < 484 → ∀ c : Nat, (M k).testBit c = true ↔ ∃ y x, (y < H ∧ x < W) ∧ gm_I g 88 (16 * y + x) = (c : Int) ∧ nr D x y k = true
def R_ph (a k : Nat) : Bool := (a == 25 && (k == 1 || k == 2 || k == 3 || k == 4)) || a == 26 || a == 88 || (a == 44 && (k == 59 || k == 60 || k == 61 || k == 62 || k == 63))
theorem V_photo_tr {W J : Nat → Nat → Bool} {g g2 : gm_T} (x : exc W J g g2) (hW : ∀ a k, R_ph a k = true → W a k = false) (h : V_photo g) : V_photo g2 := by
  have o : ∀ a k, R_ph a k = true → gm_I g2 a k = gm_I g a k := fun a k q => x.1 a k (hW a k q)
  unfold V_photo isN at h ⊢
  rw [o 25 1 rfl, o 44 59 rfl, o 25 2 rfl, o 44 60 rfl, o 25 3 rfl, o 44 61 rfl, o 25 4 rfl, o 44 62 rfl, o 44 63 rfl]
  simp only [fun k => o 26 k rfl, fun k => o 88 k rfl]
  exact h
def W_pho (a k : Nat) : Bool := scr a k || (a == 1 && k == 0) || a == 25 || a == 26 || a == 88 || (a == 44 && (k == 2 || k == 59 || k == 60 || k == 61 || k == 62 || k == 63))
theorem pho_scr {g g2 : gm_T} (h : exc scr scrJ g g2) : exc W_pho scrJ g g2 := exc_mono h (fun a k q => by unfold W_pho; rw [q]; rfl) (fun _ _ q => q)
theorem pho_tk {g g2 : gm_T} (h : exc W_tk nob g g2) : exc W_pho scrJ g g2 := exc_mono h (fun a k q => by
  simp only [W_tk, Bool.or_eq_true, Bool.and_eq_true, beq_iff_eq] at q
  rcases q with rfl | ⟨rfl, (((rfl | rfl) | rfl) | rfl) | rfl⟩ <;> rfl) (fun _ _ q => by cases q)
theorem pho_88 {g g2 : gm_T} (h : exc W_88 nob g g2) : exc W_pho scrJ g g2 := exc_mono h (fun a k q => by
  simp only [W_88, beq_iff_eq] at q
  subst q
  rfl) (fun _ _ q => by cases q)
theorem tape_0 {g : gm_T} (h1 : gm_I g 1 0 = 0) (h2 : gm_I g 44 2 = 0) : V_tape g := by
  refine ⟨⟨by rw [h1, h2], by omega, by omega⟩, fun k hk => by omega⟩
theorem op_photograph {g : gm_T} (hT : V_tape g) (hp : V_photo g) {a b c : Int} (ha : rg a) (hb : rg b) (hc : rg c) : ∃ r g1 g2, cw_photograph g a b c = some (r, g1) ∧ md_photograph g1 a b c = some (r, g2) ∧ V_tape g2 ∧ V_photo g2 ∧ exc W_pho scrJ g g2 := by
  have nope : cw_photograph g a b c = some (-2, g) → md_photograph g a b c = some (-2, g) → ∃ r g1 g2, cw_photograph g a b c = some (r, g1) ∧ md_photograph g1 a b c = some (r, g2) ∧ V_tape g2 ∧ V_photo g2 ∧ exc W_pho scrJ g g2 := fun h1 h2 => ⟨_, g, g, h1, h2, hT, hp, exc_rf⟩
  by_cases ca : -500 ≤ a ∧ a ≤ 500
  rotate_left
  · refine nope ?_ ?_
    · unfold cw_photograph
      rw [cw_isNear_eq ha, jb_tst, if_neg ca]
    · unfold md_photograph
      rw [md_in_eq ha (rgk rfl) (rgk rfl), jb_tst, if_neg ca]
  by_cases cb : -500 ≤ b ∧ b ≤ 500
  rotate_left
  · refine nope ?_ ?_
    · unfold cw_photograph
      rw [cw_isNear_eq ha, jb_tst, if_pos ca, cw_isNear_eq hb, jb_tst, if_neg cb]
    · unfold md_photograph
      rw [md_in_eq ha (rgk rfl) (rgk rfl), jb_tst, if_pos ca, md_in_eq hb (rgk rfl) (rgk rfl), jb_tst, if_neg cb]
  by_cases cc : 0 ≤ c ∧ c ≤ 3
  rotate_left
  · refine nope ?_ ?_
    · unfold cw_photograph
      rw [cw_isNear_eq ha, jb_tst, if_pos ca, cw_isNear_eq hb, jb_tst, if_pos cb, jg_pos hc]
      by_cases z : c < 0
      · rw [if_pos z]
      · rw [if_neg z, if_neg (by omega)]
    · unfold md_photograph
      rw [md_in_eq ha (rgk rfl) (rgk rfl), jb_tst, if_pos ca, md_in_eq hb (rgk rfl) (rgk rfl), jb_tst, if_pos cb, md_in_eq hc (rgk rfl) (rgk rfl), jb_tst, if_neg cc]
  obtain ⟨D, rfl⟩ : ∃ D : Nat, c = (D : Int) := ⟨_, (Int.toNat_of_nonneg cc.1).symm⟩
  have hD : D ≤ 3 := by omega
  obtain ⟨L, t, hTm, hTc⟩ := isT_of hT
  have l2 := hTc.2.1
  have isT1 : ∀ g1, gm_I g1 44 2 = gm_I g 44 2 → (∀ k, gm_I g1 45 k = gm_I g 45 k) → isT g1 L t := fun g1 e1 e2 => ⟨by rw [e1]; exact hTm.1, hTm.2.1, fun k hk => by rw [e2]; exact hTm.2.2.1 k hk, hTm.2.2.2⟩
  obtain ⟨gs, -, -, s1⟩ := scan_eq hTm hTc
  unfold cw_photograph
  rw [cw_isNear_eq ha, jb_tst, if_pos ca, cw_isNear_eq hb, jb_tst, if_pos cb, jg_pos hc, if_neg (by omega), if_pos (by omega)]
  unfold md_photograph
  simp only [fun g' : gm_T => md_in_eq (g := g') (l := -500) (h := 500) ha (rgk rfl) (rgk rfl), fun g' : gm_T => md_in_eq (g := g') (l := -500) (h := 500) hb (rgk rfl) (rgk rfl), fun g' : gm_T => md_in_eq (g := g') (l := 0) (h := 3) hc (rgk rfl) (rgk rfl), jb_tst, if_pos ca, if_pos cb, if_pos cc]
  rcases s1 with ⟨W0, H0, ph0, -, -, -, hf⟩ | ⟨q, q1, -, -, hf⟩
  · obtain ⟨g9, k1, k2, -⟩ := take_eq hTc ph0 hD (X := a) (Y := b)
    have x10 : exc W_pho scrJ g (gm_wI g9 1 0 0) := exc_wI (pho_tk k2) rfl
    obtain ⟨gr, u1, u2, u3⟩ := scan_eq (g := gm_wI g9 1 0 0) (isT1 _ (by rw [gI_oth (by decide), k2.1 44 2 rfl]) (fun k => by rw [gI_oth (by decide), k2.1 45 k rfl])) hTc
    rcases u3 with ⟨W, H, ph, u4, u5, u6, -⟩ | ⟨q, -, -, -, u6⟩
    rotate_left
    · rw [hf] at u6
      have := Option.some.inj u6
      omega
    obtain ⟨g9', m1, m2, m3, m4, m5, m6, M, K, m7, ⟨m8, m9⟩, m10, m11⟩ := take_eq hTc ph hD (X := a) (Y := b)
    have e9 : g9' = g9 := Option.some.inj (m1.symm.trans k1)
    subst e9
    obtain ⟨⟨w1, w2⟩, ⟨b1, b2⟩, hL, hr, hbr⟩ := ph
    have o1 : ∀ ar k, (ar == 1) = false → gm_I (gm_wI g9' 1 0 0) ar k = gm_I g9' ar k := fun ar k q => gI_oth (by
      intro z
      rw [z] at q
      cases q)
    obtain ⟨gF, hgF⟩ : ∃ gF, gF = gm_wI (gm_wI (gm_wI (gm_wI (gm_wI (gm_wI gr 44 2 0) 44 59 (W : Int)) 44 60 (H : Int)) 44 61 a) 44 62 b) 44 63 (D : Int) := ⟨_, rfl⟩
    have F59 : gm_I gF 44 59 = (W : Int) := by rw [hgF, gI_ne (by decide), gI_ne (by decide), gI_ne (by decide), gI_ne (by decide), gI_eq]
    have F60 : gm_I gF 44 60 = (H : Int) := by rw [hgF, gI_ne (by decide), gI_ne (by decide), gI_ne (by decide), gI_eq]
    have F61 : gm_I gF 44 61 = a := by rw [hgF, gI_ne (by decide), gI_ne (by decide), gI_eq]
    have F62 : gm_I gF 44 62 = b := by rw [hgF, gI_ne (by decide), gI_eq]
    have F63 : gm_I gF 44 63 = (D : Int) := by rw [hgF, gI_eq]
    have F2 : gm_I gF 44 2 = 0 := by rw [hgF, gI_ne (by decide), gI_ne (by decide), gI_ne (by decide), gI_ne (by decide), gI_ne (by decide), gI_eq]
    have Fo : ∀ ar k, (ar == 44) = false → gm_I gF ar k = gm_I gr ar k := fun ar k q => by
      have z : ar ≠ 44 := fun z => by
        rw [z] at q
        cases q
      rw [hgF, gI_oth z, gI_oth z, gI_oth z, gI_oth z, gI_oth z, gI_oth z]
    have hcol : ∀ y x, y < H → x < W → cvl (t ((H - 1 - y) * (W + 1) + x)) = -1 ∨ ∃ c : Nat, c < 10 ∧ cvl (t ((H - 1 - y) * (W + 1) + x)) = (c : Int) := fun y x hy hx => cvl_sp (hr (H - 1 - y) x (by omega) hx).1
    obtain ⟨K2, g75, v1, v2, v3, v4, v5⟩ := ref_rows (col := fun y x => cvl (t ((H - 1 - y) * (W + 1) + x))) w2 b2 hcol H 0 fz 0 gF (by omega) (Nat.lt_of_le_of_lt (show H ≤ 300 by omega) (fz_gt rfl)) F59 F60 (fun y x hy hx => by
      rw [Fo 89 _ rfl]
      exact (hr (H - 1 - y) x (by omega) hx).2) ⟨by decide, fun c => by
      rw [Nat.zero_testBit]
      exact ⟨fun z => absurd z (by decide), fun ⟨i, x, z, _⟩ => by omega⟩, fun y x z => by omega⟩
    rw [show ((ct (Nat.testBit 0) 31 : Nat) : Int) = 0 from by
      rw [ct_none (p := Nat.testBit 0) (fun i _ => Nat.zero_testBit i)]
      rfl] at v1
    have flip : ∀ P : Nat → Nat → Int → Prop, (∃ i x, (i < H ∧ x < W) ∧ P (H - 1 - i) x (cvl (t (i * (W + 1) + x)))) ↔ ∃ y x, (y < H ∧ x < W) ∧ P y x (cvl (t ((H - 1 - y) * (W + 1) + x))) := fun P => by
      constructor
      · rintro ⟨i, x, ⟨z1, z2⟩, z3⟩
        refine ⟨H - 1 - i, x, ⟨by omega, z2⟩, ?_⟩
        rw [show H - 1 - (H - 1 - i) = i by omega]
        exact z3
      · rintro ⟨y, x, ⟨z1, z2⟩, z3⟩
        refine ⟨H - 1 - y, x, ⟨by omega, z2⟩, ?_⟩
        rw [show H - 1 - (H - 1 - y) = y by omega]
        exact z3
    have hK : K2 = K := by
      apply Nat.eq_of_testBit_eq
      intro c
      apply dec2
      rw [v4 c, m10 c]
      exact (flip (fun _ _ v => v = (c : Int))).symm
    have hx75 : exc W_pho scrJ g g75 := by
      refine exc_tr (exc_tr x10 (pho_scr (scr_rd u2))) (exc_tr ?_ (pho_88 v2))
      rw [hgF]
      exact exc_wI (exc_wI (exc_wI (exc_wI (exc_wI (exc_wI exc_rf rfl) rfl) rfl) rfl) rfl) rfl
    have c25 : ∀ k, gm_I g75 25 k = gm_I g9' 25 k := fun k => by rw [v2.1 25 k rfl, Fo 25 k rfl, u2.1 25 k rfl, o1 25 k rfl]
    have c44 : ∀ k, gm_I g75 44 k = gm_I gF 44 k := fun k => v2.1 44 k rfl
    refine ⟨((ct K.testBit 31 : Nat) : Int), gm_wI g9' 1 0 0, g75, ?_, ?_, ?_, ?_, hx75⟩
    · rw [hf, jb1_some, jg_pos (rgk rfl), if_pos (by decide), k1, jb1_some, jb1_some, jl_eq, jg_pos (rgk rfl), if_pos (by decide)]
      unfold cp_countColours
      rw [o1 25 5 rfl, m8, jd_bitCount_n _ (Nat.lt_trans m9 (by decide)), jb1_some, jb1_some]
    · rw [jb1_some, jg_pos (rgk rfl), if_neg n10, jb1_some, jg_pos (rgk rfl), if_neg n10, jb1_some, jg_pos (rgk rfl), if_neg n10, u1, jb1_some, jl_eq, gI_ne (by decide), u6, jg_pos (rgk rfl), if_pos rfl, jl_eq, jl_eq, jl_eq, jl_eq, jl_eq, gI_ne (by decide), u4, gI_ne (by decide), gI_ne (by decide), u5, ← hgF, show md_photograph_l102 fz 0 0 0 gF = _ from v1, jb2_some, hK]
    · exact tape_0 (by rw [v2.1 1 0 rfl, Fo 1 0 rfl, u2.1 1 0 rfl, gI_eq]) (by rw [c44, F2])
    · refine Or.inr ⟨W, H, D, M, ⟨w1, w2⟩, ⟨b1, b2⟩, hD, ⟨by rw [c25, m3], by rw [c44, F59]⟩, ⟨by rw [c25, m4], by rw [c44, F60]⟩, ⟨by rw [c25, c44, m5, F61], by rw [c44, F61]; exact ca.1, by rw [c44, F61]; exact ca.2⟩, ⟨by rw [c25, c44, m6, F62], by rw [c44, F62]; exact cb.1, by rw [c44, F62]; exact cb.2⟩, by rw [c44, F63], fun k hk => ?_, fun y x hy hx => ?_, fun k hk c => ?_⟩
      · rw [v2.1 26 k rfl, Fo 26 k rfl, u2.1 26 k rfl, o1 26 k rfl]
        exact m7 k hk
      · rw [v5 y x ⟨hy, hx⟩]
        rcases hcol y x hy hx with z | ⟨c, z1, z2⟩
        · dsimp only
          omega
        · dsimp only
          omega
      · rw [m11 k hk c]
        refine (flip (fun y x v => v = (c : Int) ∧ nr D x y k = true)).trans ?_
        constructor
        · rintro ⟨y, x, z1, z2⟩
          refine ⟨y, x, z1, ?_⟩
          rw [v5 y x z1]
          exact z2
        · rintro ⟨y, x, z1, z2⟩
          rw [v5 y x z1] at z2
          exact ⟨y, x, z1, z2⟩
  · obtain ⟨gr, u1, u2, u3⟩ := scan_eq (g := gm_wI g 1 0 0) (isT1 _ (gI_oth (by decide)) (fun k => gI_oth (by decide))) hTc
    rcases u3 with ⟨W, H, -, -, -, -, u6⟩ | ⟨q', -, u4, u5, u6⟩
    · rw [hf] at u6
      have := Option.some.inj u6
      omega
    have eq' : (q' : Int) = (q : Int) := Option.some.inj (u6.symm.trans hf)
    have x1 : exc (fun a k => W_rd a k || (a == 1 && k == 0) || (a == 44 && k == 2)) nob g (gm_wI gr 44 2 0) := exc_wI (exc_tr (exc_wI exc_rf rfl) (exc_mono u2 (fun a k q => by rw [q]; rfl) (fun _ _ q => q))) rfl
    refine ⟨-10 - (q : Int), gm_wI g 1 0 0, gm_wI gr 44 2 0, ?_, ?_, ?_, ?_, ?_⟩
    · rw [hf, jb1_some, jg_pos (rgn (by omega)), if_neg (by omega), jb1_some, jl_eq, jg_pos (rgn (by omega)), if_neg (by omega)]
    · rw [jb1_some, jg_pos (rgk rfl), if_neg n10, jb1_some, jg_pos (rgk rfl), if_neg n10, jb1_some, jg_pos (rgk rfl), if_neg n10, u1, jb1_some, jl_eq, gI_ne (by decide), u5, jg_pos (rgk rfl), if_neg n10, gI_ne (by decide), u4, eq']
    · exact tape_0 (by rw [gI_oth (by decide), u2.1 1 0 rfl, gI_eq]) gI_eq
    · refine V_photo_tr x1 (fun a k q => ?_) hp
      simp only [R_ph, Bool.or_eq_true, Bool.and_eq_true, beq_iff_eq] at q
      rcases q with ((⟨rfl, ((rfl | rfl) | rfl) | rfl⟩ | rfl) | rfl) | ⟨rfl, (((rfl | rfl) | rfl) | rfl) | rfl⟩ <;> rfl
    · refine exc_mono x1 (fun a k q => ?_) (fun _ _ q => by cases q)
      simp only [W_rd, Bool.or_eq_true, Bool.and_eq_true, beq_iff_eq] at q
      rcases q with ((rfl | ⟨rfl, ((rfl | rfl) | rfl) | rfl⟩) | ⟨rfl, rfl⟩) | ⟨rfl, rfl⟩ <;> rfl
