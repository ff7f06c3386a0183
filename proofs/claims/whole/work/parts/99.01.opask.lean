/-! Questions: the operation ask. -/
def W_mask (a k : Nat) : Bool := scr a k || (a == 44 && (k == 2 || k == 84)) || a == 103
theorem mask_scr {g g2 : gm_T} (h : exc scr scrJ g g2) : exc W_mask scrJ g g2 := exc_mono h (fun a k q => by unfold W_mask; rw [q]; rfl) (fun _ _ q => q)
theorem mask_I {g g2 : gm_T} (x : exc W_mask scrJ g g2) : keepI g2 = keepI g := keepI_exc x (fun a k q => by
  cases h : W_mask a k with
  | false => rfl
  | true =>
    exfalso
    simp only [W_mask, scr, Bool.or_eq_true, Bool.and_eq_true, beq_iff_eq, Nat.ble_eq] at h
    simp only [rI, R_fit, Bool.or_eq_true, Bool.and_eq_true, beq_iff_eq, Nat.ble_eq] at q
    omega) (fun a k q => by
  cases h : scrJ a k with
  | false => rfl
  | true =>
    exfalso
    simp only [scrJ, Bool.or_eq_true, Bool.and_eq_true, beq_iff_eq] at h
    simp only [rJI, Bool.or_eq_true, beq_iff_eq, Nat.ble_eq] at q
    omega)
theorem mask_box {g g2 : gm_T} (x : exc W_mask scrJ g g2) : ∀ a k, ((a == 32 && k == 0) || (a == 44 && k == 87) || a == 33 || a == 34 || a == 35 || a == 104 || a == 105 || a == 106) = true → gm_I g2 a k = gm_I g a k := fun a k q => x.1 a k (by
  simp only [Bool.or_eq_true, Bool.and_eq_true, beq_iff_eq] at q
  rcases q with ((((((⟨rfl, rfl⟩ | ⟨rfl, rfl⟩) | rfl) | rfl) | rfl) | rfl) | rfl) | rfl <;> rfl)
theorem mask_115 {g g2 : gm_T} (x : exc W_115 nob g g2) : exc W_mask scrJ g g2 := exc_mono x (fun a k q => by
  simp only [W_115, W_as, Bool.or_eq_true, Bool.and_eq_true, beq_iff_eq] at q
  rcases q with (⟨rfl, (rfl | rfl) | rfl⟩ | rfl) | ⟨rfl, rfl⟩ <;> rfl) (fun _ _ q => by cases q)
theorem md_ask_eq {n : Nat} {g : gm_T} {P : Nat → plc} (h : IW n g P) (hx : V_box n g) {L : Nat} {t : Nat → Int} (hT : isT g L t) (hE : endT t L) : ((prs t (evl (lvv n g)) 800 0 0).2 = (L, false) → ∃ g2, md_ask g = some (((ct (fun b : Nat => (prs t (evl (lvv n g)) 800 0 0).1 (b : Int)) n : Nat) : Int), g2) ∧ exc W_mask scrJ g g2 ∧ gm_I g2 44 2 = 0 ∧ gm_I g2 44 84 = ((ct (fun b : Nat => (prs t (evl (lvv n g)) 800 0 0).1 (b : Int)) n : Nat) : Int) ∧ ∀ b : Nat, b < n → (prs t (evl (lvv n g)) 800 0 0).1 (b : Int) = true → gm_I g2 103 (ct (fun b : Nat => (prs t (evl (lvv n g)) 800 0 0).1 (b : Int)) b) = (b : Int)) ∧ (¬ (prs t (evl (lvv n g)) 800 0 0).2 = (L, false) → ∃ g2, md_ask g = some (-10 - ((prs t (evl (lvv n g)) 800 0 0).2.1 : Int), g2) ∧ exc W_mask scrJ g g2 ∧ gm_I g2 44 2 = 0 ∧ gm_I g2 44 84 = gm_I g 44 84 ∧ ∀ k, gm_I g2 103 k = gm_I g 103 k) := by
  have h30 := h.1.1.2.2
  have L240 := hT.2.1
  have ho := prs_ok hE (ev := evl (lvv n g)) 800 0 0 (by omega)
  obtain ⟨g2, k1, k2, k3, k4⟩ := md_asks_eq hE hT (a := -1) (rgk rfl) (lv := lvv n g) (fun p z => absurd rfl z)
  have x2 : exc W_mask scrJ g g2 := mask_scr (scr_as k2)
  have h442 : gm_I g2 44 2 = (L : Int) := by rw [k2.1 44 2 rfl]; exact hT.1
  have ev : ∀ v, (jg (rg (gm_I g2 44 41)) (if (gm_I g2 44 41) = 0 then (jg (rg (gm_I g2 44 40) ∧ rg (gm_I g2 44 2)) (if (gm_I g2 44 40) = (gm_I g2 44 2) then (some 0) else (some 1))) else (some 1))) = some v → md_ask g = jb1 (some v) (fun (v3 : Int) => jg (v3 = 0 ∨ v3 = 1) (jl (gm_wI g2 44 41 v3) fun (g6 : gm_T) => jg (rg (gm_I g6 44 41)) (if (gm_I g6 44 41) = 0 then (jb1 (md_groups g6) fun (g8 : gm_T) => jb1 (md_judges g8) fun (g9 : gm_T) => jb1 (md_ask_l63 fz 0 g9) fun (g29 : gm_T) => jl (gm_wI g29 44 84 0) fun (g30 : gm_T) => jb1 (md_ask_l115 fz 0 g30) fun (g47 : gm_T) => jl (gm_wI g47 44 2 0) fun (g48 : gm_T) => some ((gm_I g48 44 84), g48)) else (jl (gm_wI g6 44 2 0) fun (g49 : gm_T) => some (((-10) - (gm_I g49 44 40)), g49))))) := fun v hv => by
    unfold md_ask
    rw [k1, jb2_some, hv]
  obtain ⟨r, hr⟩ : ∃ r, r = prs t (evl (lvv n g)) 800 0 0 := ⟨_, rfl⟩
  rw [← hr] at k3 k4 ho
  refine ⟨fun z => ?_, fun z => ?_⟩
  · rw [← hr] at z
    have zL : r.2.1 = L := by rw [z]
    have zw : r.2.2 = false := by rw [z]
    have ev1 := ev 0 (by rw [k4, zw, wI1_f, jg_pos (rgk rfl), if_pos rfl, k3, h442, jg_pos ⟨rgn (by omega), rgn (by omega)⟩, if_pos (by omega)])
    have x6 : exc W_mask scrJ g (gm_wI g2 44 41 0) := exc_wI x2 rfl
    have xs6 : exc scr scrJ g (gm_wI g2 44 41 0) := exc_wI (scr_as k2) rfl
    obtain ⟨g8, m1, m2, m3, m4⟩ := md_groups_C (im h) (keepC_scr xs6)
    obtain ⟨g9, j1, j2, j3⟩ := md_judges_eq (im h) m4
    have H9 := isGr_exc m3 j2 (fun a k q => by
      simp only [Bool.or_eq_true, beq_iff_eq] at q
      rcases q with ((rfl | rfl) | rfl) | rfl <;> rfl)
    have e9 := (keepC_scr (scr_jd j2)).trans m4
    obtain ⟨g29, u1, u2, u3⟩ := md_ask63_lp (im h) e9 H9 j3 n 0 fz g9 (by omega) (Nat.lt_of_le_of_lt (show n ≤ 300 by omega) (fz_gt rfl)) exc_rf (fun b hb => by omega)
    have H29 := isGr_exc H9 u2 (fun a k q => by
      simp only [Bool.or_eq_true, beq_iff_eq] at q
      rcases q with ((rfl | rfl) | rfl) | rfl <;> rfl)
    have xs29 : exc scr scrJ g g29 := exc_tr xs6 (exc_tr (scr_gr m2) (exc_tr (scr_jd j2) (scr_w63 u2)))
    have x30 : exc W_mask scrJ g (gm_wI g29 44 84 0) := exc_wI (mask_scr xs29) rfl
    have hlv : ∀ (b : Nat) p, b < n → isLt (t p) → ∀ g', exc W_115 nob (gm_wI g29 44 84 0) g' → gm_I g' 44 86 = (b : Int) → md_letter g' (t p) = some (lvv n g (b : Int) (t p)) ∧ rg (lvv n g (b : Int) (t p)) := fun b p hb hl g' x hq => by
      have xx := exc_tr x30 (mask_115 x)
      have H' : isGr n g P g' := isGr_exc (isGr_exc H29 (W := W_115) (WJ := nob) (exc_wI exc_rf rfl) (fun a k q => by
        simp only [Bool.or_eq_true, beq_iff_eq] at q
        rcases q with ((rfl | rfl) | rfl) | rfl <;> rfl)) x (fun a k q => by
        simp only [Bool.or_eq_true, beq_iff_eq] at q
        rcases q with ((rfl | rfl) | rfl) | rfl <;> rfl)
      exact ⟨md_let_eq h (mask_I xx) H' (V_box_e (mask_box xx) hx) (bxv_e (fun a k q => mask_box xx a k (by
        simp only [Bool.or_eq_true, Bool.and_eq_true, beq_iff_eq] at q ⊢
        omega))) hb hq hl (by rw [x.1 102 b rfl, gI_oth (by decide)]; exact (u3 b hb).1) (by rw [x.1 101 b rfl, gI_oth (by decide)]; exact (u3 b hb).2), lvv_rg h hx hb _⟩
    obtain ⟨g47, v1, v2, v3, v4⟩ := md_ask115_lp hE h30 (g0 := gm_wI g29 44 84 0) (by rw [gI_ne (by decide), xs29.1 44 3 rfl]; exact h.1.1.2.1) (isT_e hT (by rw [gI_ne (by decide), xs29.1 44 2 rfl]) (fun k => by rw [gI_oth (by decide), xs29.1 45 k rfl])) (lv := lvv n g) hlv n 0 fz _ (by omega) (Nat.lt_of_le_of_lt (show n ≤ 300 by omega) (fz_gt rfl)) exc_rf (by rw [gI_eq]; rfl) (fun b hb => by omega)
    refine ⟨gm_wI g47 44 2 0, ?_, exc_wI (exc_tr x30 (mask_115 v2)) rfl, gI_eq, by rw [gI_ne (by decide)]; exact v3, fun b hb q => by rw [gI_oth (by decide)]; exact v4 b hb q⟩
    rw [ev1, jb1_some, jg_pos (Or.inl rfl), jl_eq, gI_eq, jg_pos (rgk rfl), if_pos rfl, m1, jb1_some, j1, jb1_some, show md_ask_l63 fz 0 g9 = _ from u1, jb1_some, jl_eq, show md_ask_l115 fz 0 (gm_wI g29 44 84 0) = _ from v1, jb1_some, jl_eq, gI_ne (by decide), v3]
  · rw [← hr] at z
    have ev1 := ev 1 (by
      cases hw : r.2.2 with
      | true => rw [k4, hw, wI1_t, jg_pos (rgk rfl), if_neg n10]
      | false =>
        have zL : r.2.1 ≠ L := fun q => z (by rw [← q, ← hw])
        have := ho.1
        rw [k4, hw, wI1_f, jg_pos (rgk rfl), if_pos rfl, k3, h442, jg_pos ⟨rgn (by omega), rgn (by omega)⟩, if_neg (by omega)])
    refine ⟨gm_wI (gm_wI g2 44 41 1) 44 2 0, ?_, exc_wI (exc_wI x2 rfl) rfl, gI_eq, by rw [gI_ne (by decide), gI_ne (by decide), k2.1 44 84 rfl], fun k => by rw [gI_oth (by decide), gI_oth (by decide), k2.1 103 k rfl]⟩
    rw [ev1, jb1_some, jg_pos (Or.inr rfl), jl_eq, gI_eq, jg_pos (rgk rfl), if_neg n10, jl_eq, gI_ne (by decide), gI_ne (by decide), k3, ← hr]
theorem ct_cont_lp {g : gm_T} {L : Nat} {t : Nat → Int} (hT : isTc g L t) : ∀ (d p fuel : Nat), p + d = L → d < fuel → (∀ q, q < p → t q ≠ 118) → (ct_contains_l2 g 118 fuel (p : Int) = some 0 ∧ ∀ q, q < L → t q ≠ 118) ∨ ct_contains_l2 g 118 fuel (p : Int) = some 1 := by
  have L240 := hT.2.1
  intro d
  induction d with
  | zero =>
    intro p fuel hd hf hq
    obtain ⟨f, rfl⟩ : ∃ f, fuel = f + 1 := ⟨fuel - 1, by omega⟩
    left
    unfold ct_contains_l2
    rw [hT.1, jg_pos ⟨rgn (by omega), rgn (by omega)⟩, if_neg (by omega)]
    exact ⟨rfl, fun q h => hq q (by omega)⟩
  | succ d ih =>
    intro p fuel hd hf hq
    obtain ⟨f, rfl⟩ : ∃ f, fuel = f + 1 := ⟨fuel - 1, by omega⟩
    have hb := isT_b2 hT p
    unfold ct_contains_l2
    rw [hT.1, jg_pos ⟨rgn (by omega), rgn (by omega)⟩, if_pos (by omega), ct_peek_eq hT (by omega), jb1_some, jg_pos ⟨⟨by omega, by omega⟩, rgk rfl⟩]
    by_cases c : t p = 118
    · rw [if_pos c]
      exact Or.inr rfl
    · rw [if_neg c]
      exact ih (p + 1) f (by omega) (by omega) (fun q h => by
        by_cases z : q = p
        · rw [z]
          exact c
        · exact hq q (by omega))
/-- what is told of the last question: the class and the reference -/
def V_ask (g : gm_T) : Prop := ∃ A m : Nat, (gm_I g 40 10 = (A : Int) ∧ gm_I g 44 84 = (m : Int)) ∧ A < 2 ^ 30 ∧ ct A.testBit 30 = m ∧ ∀ b, A.testBit b = true → gm_I g 103 (ct A.testBit b) = (b : Int)
def W_ask (a k : Nat) : Bool := W_mask a k || (a == 1 && k == 0) || (a == 40 && k == 10)
theorem ask_mask {g g2 : gm_T} (h : exc W_mask scrJ g g2) : exc W_ask scrJ g g2 := exc_mono h (fun a k q => by unfold W_ask; rw [q]; rfl) (fun _ _ q => q)
theorem ask_rt {g g2 : gm_T} (h : exc W_rt nob g g2) : exc W_ask scrJ g g2 := exc_mono h (fun a k q => by
  simp only [W_rt, W_cq, Bool.or_eq_true, Bool.and_eq_true, beq_iff_eq] at q
  rcases q with (((⟨rfl, rfl⟩ | rfl) | rfl) | rfl) | ⟨rfl, ((rfl | rfl) | rfl) | rfl⟩ <;> rfl) (fun _ _ q => by cases q)
theorem op_ask {n : Nat} {g : gm_T} {P : Nat → plc} (h : IW n g P) (hx : V_box n g) (hT : V_tape g) (hA : V_ask g) : ∃ r g1 g2, cw_ask n g = some (r, g1) ∧ md_ask g1 = some (r, g2) ∧ V_tape g2 ∧ V_ask g2 ∧ exc W_ask scrJ g g2 := by
  have h30 := h.1.1.2.2
  obtain ⟨L, t, hTm, hTc⟩ := isT_of hT
  have hE : endT t L := hTm.2.2.2
  have L240 := hTm.2.1
  have f0 := Nat.lt_of_le_of_lt (show L ≤ 300 by omega) (fz_gt rfl)
  obtain ⟨S8, a1, a2, a3⟩ := cv_standing_eq h
  have hprov : ∃ S9 : Nat, (jb1 (ct_contains g 118) fun (v1 : Int) => jb1 (jg (rg v1) (if v1 = 0 then (some 0) else (jb1 (cv_proved n g) fun (v4 : Int) => some v4))) fun (v2 : Int) => jb1 (cv_standing g) fun (v5 : Int) => jb2 (cq_readTape n g v5 v2) fun (v6 : Int) (g7 : gm_T) => jl (gm_wI g7 1 0 0) fun (g8 : gm_T) => jg (rg v6) (if v6 < 0 then (jb1 (jd_bitCount g8 (gm_I g8 40 10)) fun (v10 : Int) => some (v10, g8)) else (some (((-10) - v6), g8)))) = (jb2 (cq_readTape n g (S8 : Int) (S9 : Int)) fun (v6 : Int) (g7 : gm_T) => jl (gm_wI g7 1 0 0) fun (g8 : gm_T) => jg (rg v6) (if v6 < 0 then (jb1 (jd_bitCount g8 (gm_I g8 40 10)) fun (v10 : Int) => some (v10, g8)) else (some (((-10) - v6), g8)))) ∧ ((∃ p, t p = 118) → S9 < 2 ^ 30 ∧ ∀ c, S9.testBit c = true ↔ c < n ∧ pvd n g c = true) := by
    have hc : ct_contains g 118 = ct_contains_l2 g 118 fz ((0 : Nat) : Int) := rfl
    rw [hc, a1]
    rcases ct_cont_lp hTc L 0 fz (by omega) f0 (fun q h => by omega) with ⟨z1, z2⟩ | z1
    · refine ⟨0, ?_, fun ⟨p, hp⟩ => ?_⟩
      · rw [z1, jb1_some, jg_pos (rgk rfl), if_pos rfl, jb1_some, jb1_some]
        rfl
      · exact absurd hp (z2 p (qlt_L hE (by omega)))
    · obtain ⟨S9, b1, b2, b3⟩ := cv_proved_eq h
      refine ⟨S9, ?_, fun _ => ⟨b2, b3⟩⟩
      rw [z1, jb1_some, jg_pos (rgk rfl), if_neg n10, b1, jb1_some, jb1_some, jb1_some]
  obtain ⟨S9, b1, b2⟩ := hprov
  have hcw : cw_ask n g = _ := b1
  obtain ⟨c1, c2⟩ := cq_tape_eq h hx hTc hE ⟨a2, a3⟩ b2
  have ho := prs_ok hE (ev := evl (lvv n g)) 800 0 0 (by omega)
  have ref : ∀ g7, exc W_rt nob g g7 → (keepI (gm_wI g7 1 0 0) = keepI g ∧ lvv n (gm_wI g7 1 0 0) = lvv n g) ∧ exc W_ask scrJ g (gm_wI g7 1 0 0) ∧ V_box n (gm_wI g7 1 0 0) ∧ isT (gm_wI g7 1 0 0) L t := fun g7 x => by
    have x8 : exc (fun a k => W_rt a k || (a == 1 && k == 0)) nob g (gm_wI g7 1 0 0) := exc_wI (exc_mono x (fun a k q => by rw [q]; rfl) (fun _ _ q => q)) rfl
    have eI : keepI (gm_wI g7 1 0 0) = keepI g := keepI_exc x8 (fun a k q => by
      cases hh : W_rt a k || (a == 1 && k == 0) with
      | false => rfl
      | true =>
        exfalso
        simp only [rI, R_fit, Bool.or_eq_true, Bool.and_eq_true, beq_iff_eq, Nat.ble_eq] at q
        rw [Bool.or_eq_true] at hh
        rcases hh with hh | hh
        · have := W_rt_40 hh
          omega
        · simp only [Bool.and_eq_true, beq_iff_eq] at hh
          omega) (fun _ _ _ => rfl)
    have eB : ∀ a k, ((a == 32 && k == 0) || (a == 44 && k == 87) || a == 33 || a == 34 || a == 35 || a == 104 || a == 105 || a == 106) = true → gm_I (gm_wI g7 1 0 0) a k = gm_I g a k := fun a k q => by
      rw [gI_oth (by
        simp only [Bool.or_eq_true, Bool.and_eq_true, beq_iff_eq] at q
        omega)]
      exact rt_box x a k q
    refine ⟨⟨eI, lvv_I eI (bxv_e (fun a k q => eB a k (by
      simp only [Bool.or_eq_true, Bool.and_eq_true, beq_iff_eq] at q ⊢
      omega)))⟩, exc_wI (ask_rt x) rfl, V_box_e eB hx, isT_e hTm (by rw [gI_oth (by decide), x.1 44 2 rfl]) (fun k => by rw [gI_oth (by decide), x.1 45 k rfl])⟩
  obtain ⟨r, hr⟩ : ∃ r, r = prs t (evl (lvv n g)) 800 0 0 := ⟨_, rfl⟩
  rw [← hr] at c1 c2 ho
  by_cases z : r.2 = (L, false)
  · obtain ⟨g7, d1, d2, d3⟩ := c1 z
    obtain ⟨⟨e1, e2⟩, e3, e4, e5⟩ := ref g7 d2
    have hm := (md_ask_eq (IW_I e1 h) e4 e5 hE).1
    rw [e2, ← hr] at hm
    obtain ⟨g9, m1, m2, m3, m4, m5⟩ := hm z
    obtain ⟨A, k1, k2, k3⟩ := d3
    have hp2 := p2_30 h30
    have hbc : ∀ c, A.testBit c = true ↔ c < n ∧ r.1 (c : Int) = true := fun c => by
      rw [k3 c, Bool.and_eq_true, decide_eq_true_eq]
    have hct : ∀ b, b ≤ n → ct A.testBit b = ct (fun b : Nat => r.1 (b : Int)) b := fun b hb => ct_cong (fun i hi => by
      rw [k3 i, decide_eq_true (by omega), Bool.true_and])
    refine ⟨_, gm_wI g7 1 0 0, g9, ?_, m1, tape_0 (by rw [m2.1 1 0 rfl, gI_eq]) m3, ⟨A, ct (fun b : Nat => r.1 (b : Int)) n, ⟨by rw [m2.1 40 10 rfl, gI_oth (by decide)]; exact k1, m4⟩, by omega, ?_, fun b hb => ?_⟩, exc_tr e3 (ask_mask m2)⟩
    · rw [hcw, d1, jb2_some, jl_eq, jg_pos (rgk rfl), if_pos (by decide), gI_oth (by decide), k1, bc30 (p := fun b : Nat => r.1 (b : Int)) _ (by omega) h30 hbc, jb1_some]
    · rw [ct_more (p := A.testBit) (m := n) (fun i hi => by rw [k3 i, decide_eq_false (by omega), Bool.false_and]) 30 h30]
      exact hct n (Nat.le_refl n)
    · obtain ⟨q1, q2⟩ := (hbc b).mp hb
      rw [hct b (by omega)]
      exact m5 b q1 q2
  · obtain ⟨g7, d1, d2, d3⟩ := c2 z
    obtain ⟨⟨e1, e2⟩, e3, e4, e5⟩ := ref g7 d2
    have hm := (md_ask_eq (IW_I e1 h) e4 e5 hE).2
    rw [e2, ← hr] at hm
    obtain ⟨g9, m1, m2, m3, m4, m5⟩ := hm z
    have hop := ho.1
    obtain ⟨A, m, ⟨q1, q2⟩, q3, q4, q5⟩ := hA
    refine ⟨_, gm_wI g7 1 0 0, g9, ?_, m1, tape_0 (by rw [m2.1 1 0 rfl, gI_eq]) m3, ⟨A, m, ⟨by rw [m2.1 40 10 rfl, gI_oth (by decide), d3]; exact q1, by rw [m4, gI_oth (by decide), d2.1 44 84 rfl]; exact q2⟩, q3, q4, fun b hb => by rw [m5, gI_oth (by decide), d2.1 103 _ rfl]; exact q5 b hb⟩, exc_tr e3 (ask_mask m2)⟩
    rw [hcw, d1, jb2_some, jl_eq, jg_pos (rgn (by omega)), if_neg (by omega)]
