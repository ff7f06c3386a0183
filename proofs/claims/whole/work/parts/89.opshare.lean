/-! Shares: the operation share. -/
def V_most (g : gm_T) : Prop := ∀ s, s < 1024 → gm_I g 38 (6144 + s) = 0
def W_sh (a k : Nat) : Bool := scr a k || W_38l a k
theorem sh_37 {g g2 : gm_T} (x : exc W_37 nob g g2) : exc W_sh scrJ g g2 := exc_mono x (fun a k q => by
  simp only [W_37, beq_iff_eq] at q
  subst q
  rfl) (fun _ _ q => by cases q)
theorem sh_39 {g g2 : gm_T} (x : exc W_39 nob g g2) : exc W_sh scrJ g g2 := exc_mono x (fun a k q => by
  simp only [W_39, beq_iff_eq] at q
  subst q
  rfl) (fun _ _ q => by cases q)
theorem sh_38 {g g2 : gm_T} (x : exc W_38l nob g g2) : exc W_sh scrJ g g2 := exc_mono x (fun a k q => by unfold W_sh; rw [q, Bool.or_true]) (fun _ _ q => by cases q)
theorem sh_108 {g g2 : gm_T} (x : exc W_108 nob g g2) : exc W_sh scrJ g g2 := exc_mono x (fun a k q => by
  simp only [W_108, beq_iff_eq] at q
  subst q
  rfl) (fun _ _ q => by cases q)
theorem sh_109 {g g2 : gm_T} (x : exc W_109a nob g g2) : exc W_sh scrJ g g2 := exc_mono x (fun a k q => by
  simp only [W_109a, beq_iff_eq] at q
  subst q
  rfl) (fun _ _ q => by cases q)
theorem sh_110 {g g2 : gm_T} (x : exc W_110 nob g g2) : exc W_sh scrJ g g2 := exc_mono x (fun a k q => by
  simp only [W_110, beq_iff_eq] at q
  subst q
  rfl) (fun _ _ q => by cases q)
theorem V_most_tr {W J : Nat → Nat → Bool} {g g2 : gm_T} (x : exc W J g g2) (hW : ∀ k, 6144 ≤ k → W 38 k = false) (h : V_most g) : V_most g2 := fun s hs => by
  rw [x.1 38 _ (hW _ (by omega))]
  exact h s hs
theorem W_sh_38 (k : Nat) (hk : 6144 ≤ k) : W_sh 38 k = false := by
  have h1 : Nat.blt k 6144 = false := by
    cases q : Nat.blt k 6144 with
    | false => rfl
    | true =>
      have : k < 6144 := Nat.le_of_ble_eq_true q
      omega
  unfold W_sh W_38l
  rw [h1]
  rfl
theorem cx_share_eq {n : Nat} {g : gm_T} (hn : V_num n g) (hv : V_bit n g) (hs : V_skill g) (hx : V_box n g) (hm : V_most g) : ∃ g2 bo go, cx_shareOut n g = some (mvf (wf g n) 6 0, g2) ∧ exc W_sh scrJ g g2 ∧ shp (wf g n) 6 bo go ∧ ∀ i, i < 6 → gm_I g2 39 i = if bo i = 10 then -1 else ((bo i : Nat) : Int) := by
  have h30 := hn.2.2
  have hW : ∀ h x, h < 6 → x < 10 → 0 ≤ wf g n h x ∧ wf g n h x ≤ 300 := fun h x hh _ => by
    have := wf_b hv hs hh x n (Nat.le_refl n)
    omega
  obtain ⟨g1, a1, a2, a3⟩ := cx_weigh_eq hn hv hs hx
  have hw1 : isW37 (wf g n) g1 := a3
  have hM6 : M38 (wf g n) 6 g1 := fun s hs _ => by
    rw [a2.1 38 _ rfl, show 1024 * 6 + s = 6144 + s by omega, hm s hs]
    rfl
  obtain ⟨g2, b1, b2, b3⟩ := cx_l7_lp (n := n) hW hw1 6 fz g1 (by omega) (fz_gt rfl) exc_rf (fun h h1 h2 => by
    rw [show h = 6 by omega]
    exact hM6)
  have hw2 : isW37 (wf g n) g2 := fun a b ha hb => by
    rw [b2.1 37 _ rfl]
    exact hw1 a b ha hb
  obtain ⟨g3, bo, go, c1, c2, c3, c4⟩ := cx_l62_lp (n := n) hW hw2 b3 6 0 fz g2 (fun _ => 0) (fun _ => 0) (by omega) (fz_gt rfl) exc_rf ⟨rfl, fun i hi => by omega⟩ (fun i hi => by omega)
  refine ⟨g3, bo, go, ?_, exc_tr (sh_37 a2) (exc_tr (sh_38 b2) (sh_39 c2)), c3, c4⟩
  have h0 : gm_I g3 38 0 = mvf (wf g n) 6 0 := by
    rw [c2.1 38 0 rfl]
    exact b3 0 (by decide) 0 (by decide) (by decide)
  unfold cx_shareOut
  rw [a1, jb1_some, show cx_shareOut_l7 n fz 5 g1 = _ from b1, jb1_some, show cx_shareOut_l62 n fz 0 0 g2 = _ from c1, jb1_some, h0]
theorem md_share_eq {n : Nat} {g : gm_T} (hn : V_num n g) (hv : V_bit n g) (hs : V_skill g) (hx : V_box n g) : ∃ g2 bo go, md_shares g = some (mvf (wf g n) 6 0, g2) ∧ exc W_sh scrJ g g2 ∧ shp (wf g n) 6 bo go ∧ ∀ i, i < 6 → gm_I g2 110 i = if bo i = 10 then -5 else ((bo i : Nat) : Int) := by
  have h30 := hn.2.2
  have hW : ∀ h x, h < 6 → x < 10 → 0 ≤ wf g n h x ∧ wf g n h x ≤ 300 := fun h x hh _ => by
    have := wf_b hv hs hh x n (Nat.le_refl n)
    omega
  obtain ⟨g0, g1, a0, a1, a2, a3⟩ := md_weigh_eq hn hv hs hx
  have hw1 : isW108 (wf g n) g1 := a3
  obtain ⟨g2, b1, b2, b3⟩ := md_l101_lp (g1 := g1) 1024 0 fz g1 (by omega) (fz_gt rfl) exc_rf (fun u hu => by omega)
  have hw2 : isW108 (wf g n) g2 := fun a b ha hb => by
    rw [b2.1 108 _ rfl]
    exact hw1 a b ha hb
  obtain ⟨g3, d1, d2, d3⟩ := md_l127_lp hW hw2 6 fz g2 (by omega) (fz_gt rfl) exc_rf (fun h h1 h2 f hf => by
    rw [show h = 6 by omega, show 1024 * 6 + f = 6144 + f by omega, b3 f hf]
    rfl)
  have hw3 : isW108 (wf g n) g3 := fun a b ha hb => by
    rw [d2.1 108 _ rfl]
    exact hw2 a b ha hb
  have c0 : cpl 1023 = 0 := by decide
  obtain ⟨g4, bo, go, c1, c2, c3, c4⟩ := md_l212_lp hW hw3 d3 6 0 fz g3 1023 (fun _ => 0) (fun _ => 0) (by omega) (fz_gt rfl) (by decide) c0 exc_rf ⟨rfl, fun i hi => by omega⟩ (fun i hi => by omega)
  refine ⟨g4, bo, go, ?_, exc_tr (sh_108 a2) (exc_tr (sh_109 b2) (exc_tr (sh_109 d2) (sh_110 c2))), c3, c4⟩
  have h0 : gm_I g4 109 1023 = mvf (wf g n) 6 0 := by
    rw [c2.1 109 1023 rfl]
    have := d3 0 (by decide) 1023 (by decide)
    rw [c0] at this
    exact this
  unfold md_shares
  rw [a0, jb1_some, a1, jb1_some, show md_shares_l101 fz 0 g1 = _ from b1, jb1_some, show md_shares_l127 fz 5 g2 = _ from d1, jb1_some, show md_shares_l212 fz 1023 0 g3 = _ from c1, jb1_some, h0]
theorem op_share {n : Nat} {g : gm_T} (hn : V_num n g) (hv : V_bit n g) (hs : V_skill g) (hx : V_box n g) (hm : V_most g) {a : Int} (ha : rg a) : ∃ r g1 g2, cw_share n g a = some (r, g1) ∧ md_share g1 a = some (r, g2) ∧ V_most g2 ∧ exc W_sh scrJ g g2 := by
  by_cases c : -1 ≤ a ∧ a ≤ 5
  rotate_left
  · refine ⟨-100000, g, g, ?_, ?_, hm, exc_rf⟩
    · unfold cw_share
      rw [jg_pos ha, if_neg (by omega), cw_isHand_eq ha, jb_tst, if_neg (by omega)]
    · unfold md_share
      rw [md_in_eq ha (rgk rfl) (rgk rfl), jb_tst, if_neg c]
  obtain ⟨g1, bo, go, a1, a2, a3, a4⟩ := cx_share_eq hn hv hs hx hm
  have k1 : keepF g1 = keepF g := keepF_exc a2 (fun a k q => by
    cases h : W_sh a k with
    | false => rfl
    | true =>
      exfalso
      simp only [R_fit, W_sh, W_38l, scr, Bool.or_eq_true, Bool.and_eq_true, beq_iff_eq, Nat.ble_eq] at q h
      omega) (fun a k q => by
    cases h : scrJ a k with
    | false => rfl
    | true =>
      exfalso
      simp only [scrJ, Bool.or_eq_true, Bool.and_eq_true, beq_iff_eq, Nat.ble_eq] at q h
      omega)
  have hn1 : V_num n g1 := ⟨by rw [a2.1 10 1 rfl]; exact hn.1, by rw [a2.1 44 3 rfl]; exact hn.2.1, hn.2.2⟩
  have hv1 : V_bit n g1 := by
    have h1 : V_bit n (keepF g1) ↔ V_bit n g1 := by
      unfold V_bit
      simp only [keepF_b, keepF_b0]
      exact Iff.rfl
    have h2 : V_bit n (keepF g) ↔ V_bit n g := by
      unfold V_bit
      simp only [keepF_b, keepF_b0]
      exact Iff.rfl
    exact h1.mp (k1 ▸ h2.mpr hv)
  have hs1 : V_skill g1 := fun k hk => by
    rw [a2.1 36 k rfl, a2.1 107 k rfl]
    exact hs k hk
  have hx1 : V_box n g1 := by
    unfold V_box at hx ⊢
    rw [a2.1 32 0 rfl, a2.1 44 87 rfl]
    simp only [fun k => a2.1 33 k rfl, fun k => a2.1 34 k rfl, fun k => a2.1 35 k rfl, fun k => a2.1 104 k rfl, fun k => a2.1 105 k rfl, fun k => a2.1 106 k rfl]
    exact hx
  have hbx : ∀ b, bxv g1 b = bxv g b := fun b => by
    unfold bxv
    rw [a2.1 44 87 rfl]
    have : ∀ e, bx_at g1 (b : Int) 999 e = bx_at g (b : Int) 999 e := fun e => by
      induction e with
      | zero => rfl
      | succ e ih =>
        unfold bx_at
        rw [ih, a2.1 104 e rfl, a2.1 105 e rfl, a2.1 106 e rfl]
    rw [this]
  have hwf : wf g1 n = wf g n := by
    funext h x
    unfold wf
    refine si_cong (fun c hc => ?_)
    rw [hbx c, a2.1 56 c rfl, a2.1 107 _ rfl]
  obtain ⟨g2, bo2, go2, b1, b2, b3, b4⟩ := md_share_eq hn1 hv1 hs1 hx1
  rw [hwf] at b1 b3
  have hm2 : V_most g2 := V_most_tr (exc_tr a2 b2) W_sh_38 hm
  have hmd : md_share g1 a = if a = -1 then some (mvf (wf g n) 6 0, g2) else jg (0 ≤ a ∧ a < 6) (some (gm_I g2 110 a.toNat, g2)) := by
    unfold md_share
    rw [md_in_eq ha (rgk rfl) (rgk rfl), jb_tst, if_pos c, b1, jb2_some, jg_pos ha]
  unfold cw_share
  rw [jg_pos ha]
  by_cases c1 : a = -1
  · rw [if_pos c1] at hmd
    rw [if_pos c1, a1, jb2_some, if_pos c1]
    exact ⟨_, g1, g2, rfl, hmd, hm2, exc_tr a2 b2⟩
  · obtain ⟨i, rfl⟩ : ∃ i : Nat, a = (i : Int) := ⟨_, (Int.toNat_of_nonneg (by omega)).symm⟩
    have hi : i < 6 := by omega
    have e := (shp_u a3 b3 i (by omega)).2 hi
    have hb10 : bo i ≤ 10 := by
      rcases (a3.2 i hi).1 with ⟨q, -⟩ | ⟨q, -⟩ <;> omega
    rw [if_neg c1, jg_pos (by omega), Int.toNat_natCast, b4 i hi, ← e] at hmd
    rw [if_neg c1, cw_isHand_eq ha, jb_tst, if_pos (by omega), a1, jb2_some, if_neg c1, jg_pos (by omega), Int.toNat_natCast, a4 i hi]
    by_cases z : bo i = 10
    · rw [if_pos z] at hmd ⊢
      rw [jg_pos (rgk rfl), if_pos (by decide)]
      exact ⟨_, g1, g2, rfl, hmd, hm2, exc_tr a2 b2⟩
    · rw [if_neg z] at hmd ⊢
      rw [jg_pos (rgn (by omega)), if_neg (by omega)]
      exact ⟨_, g1, g2, rfl, hmd, hm2, exc_tr a2 b2⟩
