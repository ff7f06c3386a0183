/-! Fits listed in their order, rivals: score, turned, fits, fit, rival. -/
theorem n10 : ¬ (1 : Int) = 0 := by decide
theorem gI_eq {g : gm_T} {a k : Nat} {v : Int} : gm_I (gm_wI g a k v) a k = v := by rw [gI_wI, if_pos rfl, if_pos rfl]
theorem gI_ne {g : gm_T} {a k j : Nat} {v : Int} (h : j ≠ k) : gm_I (gm_wI g a k v) a j = gm_I g a j := by rw [gI_wI, if_pos rfl, if_neg h]
theorem gI_oth {g : gm_T} {a k b j : Nat} {v : Int} (h : b ≠ a) : gm_I (gm_wI g a k v) b j = gm_I g b j := by rw [gI_wI, if_neg h]
/-- what the facts of bits, cells, fits and scores read -/
def R_fit (a k : Nat) : Bool := Nat.ble 111 a || (a == 10 && (k == 1 || k == 2)) || (a == 44 && (k == 3 || k == 20)) || a == 12 || (Nat.ble 46 a && Nat.ble a 64)
def keepF (g : gm_T) : gm_T := (fun a k => if R_fit a k = true then g.1 a k else 0, fun a k => if Nat.ble 111 a = true then g.2 a k else 0)
theorem keepF_exc {W WJ : Nat → Nat → Bool} {g g2 : gm_T} (h : exc W WJ g g2) (hw : ∀ a k, R_fit a k = true → W a k = false) (hj : ∀ a k, Nat.ble 111 a = true → WJ a k = false) : keepF g2 = keepF g := by
  unfold keepF
  refine Prod.ext ?_ ?_
  · funext a k
    dsimp only
    split
    · rename_i q
      exact h.1 a k (hw a k q)
    · rfl
  · funext a k
    dsimp only
    split
    · rename_i q
      exact h.2 a k (hj a k q)
    · rfl
theorem keepF_b (g : gm_T) (b j k : Nat) : gm_I (keepF g) (bA b + j) k = gm_I g (bA b + j) k := by
  have h : R_fit (bA b + j) k = true := by
    unfold R_fit bA
    rw [show Nat.ble 111 (111 + 8 * b + j) = true from Nat.ble_eq_true_of_le (by omega)]
    rfl
  show (if R_fit (bA b + j) k = true then g.1 (bA b + j) k else 0) = _
  rw [if_pos h]
  rfl
theorem keepF_b0 (g : gm_T) (b k : Nat) : gm_I (keepF g) (bA b) k = gm_I g (bA b) k := keepF_b g b 0 k
theorem keepF_J (g : gm_T) (b j k : Nat) : gm_J (keepF g) (bA b + j) k = gm_J g (bA b + j) k := by
  have h : Nat.ble 111 (bA b + j) = true := Nat.ble_eq_true_of_le (by unfold bA; omega)
  show (if Nat.ble 111 (bA b + j) = true then g.2 (bA b + j) k else 0) = _
  rw [if_pos h]
  rfl
/-- likenesses go both ways -/
def V_sym (g : gm_T) : Prop := ∀ a b : Nat, a < 10 → b < 10 → gm_I g 62 (10 * a + b) = gm_I g 62 (10 * b + a)
def I_fit (n : Nat) (g : gm_T) : Prop := V_num n g ∧ V_bit n g ∧ V_cell n g ∧ V_tol g ∧ V_like g ∧ V_tab n g ∧ V_sym g
theorem I_fit_k (n : Nat) (g : gm_T) : I_fit n (keepF g) ↔ I_fit n g := by
  have h1 : V_bit n (keepF g) ↔ V_bit n g := by
    unfold V_bit
    simp only [keepF_b, keepF_b0]
    exact Iff.rfl
  have h2 : V_cell n (keepF g) ↔ V_cell n g := by
    unfold V_cell
    simp only [keepF_J]
    exact Iff.rfl
  unfold I_fit
  rw [h1, h2]
  exact Iff.rfl
theorem I_fit_tr {n : Nat} {g g2 : gm_T} (e : keepF g2 = keepF g) (h : I_fit n g) : I_fit n g2 := (I_fit_k n g2).mp (e ▸ (I_fit_k n g).mpr h)
theorem k_mE {g g2 : gm_T} (e : keepF g2 = keepF g) (b : Nat) : mE g2 b = mE g b := by
  show mE (keepF g2) b = mE (keepF g) b
  rw [e]
theorem k_tn {g g2 : gm_T} (e : keepF g2 = keepF g) (a k b l : Nat) : tn g2 a k b l = tn g a k b l := by
  show tn (keepF g2) a k b l = tn (keepF g) a k b l
  rw [e]
theorem k_ov {g g2 : gm_T} (e : keepF g2 = keepF g) (a b : Nat) (t x y : Int) : ov g2 a b t x y = ov g a b t x y := by
  show ov (keepF g2) a b t x y = ov (keepF g) a b t x y
  rw [e]
theorem k_isF {g g2 : gm_T} (e : keepF g2 = keepF g) (a k b l : Nat) : isF g2 a k b l = isF g a k b l := by
  show isF (keepF g2) a k b l = isF (keepF g) a k b l
  rw [e]
theorem k_fpl {g g2 : gm_T} (e : keepF g2 = keepF g) (a k b l : Nat) : fpl g2 a k b l = fpl g a k b l := by
  show fpl (keepF g2) a k b l = fpl (keepF g) a k b l
  rw [e]
theorem k_scv {g g2 : gm_T} (e : keepF g2 = keepF g) (a k b l : Nat) (t : Int) : scv g2 a k b l t = scv g a k b l t := by
  show scv (keepF g2) a k b l t = scv (keepF g) a k b l t
  rw [e]
theorem lC_m1 : lC (-1) 0 < 0 := by
  rw [lC_neg]
  decide
theorem fpl_b {n : Nat} {g : gm_T} (h : V_bit n g) {a b k l : Nat} (ha : a < n) (hb : b < n) (hk : (k : Int) < mE g a) (hl : (l : Int) < mE g b) (ht : tn g a k b l ≠ -1) : bpl 40 (fpl g a k b l) := by
  have h1 := fxy_in h ha hb hk hl
  have h2 := tn_in g a k b l
  exact ⟨⟨by show 0 ≤ tn g a k b l; omega, h2.2⟩, h1.1, h1.2⟩
/-- the class's fitting, of a fit -/
theorem cf_fit_p {n : Nat} {g : gm_T} (I : I_fit n g) {a b k l : Nat} (ha : a < n) (hb : b < n) (hk : (k : Int) < mE g a) (hl : (l : Int) < mE g b) (hF : isF g a k b l) : cf_fitting n g (a : Int) (k : Int) (b : Int) (l : Int) = some (pp (fpl g a k b l)) ∧ ¬ lC (pp (fpl g a k b l)) 0 < 0 ∧ ∀ g', cc_turn g' (pp (fpl g a k b l)) = some (tn g a k b l) := by
  obtain ⟨hn, hv, hc, ht, -⟩ := I
  have h1 := cf_fitting_eq hn.2.2 hv hc ht ha hb hk hl
  have h2 := fpl_b hv ha hb hk hl hF.2.1
  unfold fit64 at h1
  rw [@if_pos _ (gd _) hF] at h1
  refine ⟨h1, ?_, fun g' => ?_⟩
  · rw [lC_neg]
    exact pp_nneg h2 (by decide)
  · exact cc_turn_eq (bpl_ok h2 (by decide))
theorem cf_fit_n {n : Nat} {g : gm_T} (I : I_fit n g) {a b k l : Nat} (ha : a < n) (hb : b < n) (hk : (k : Int) < mE g a) (hl : (l : Int) < mE g b) (hF : ¬ isF g a k b l) : cf_fitting n g (a : Int) (k : Int) (b : Int) (l : Int) = some (-1) := by
  obtain ⟨hn, hv, hc, ht, -⟩ := I
  have h1 := cf_fitting_eq hn.2.2 hv hc ht ha hb hk hl
  unfold fit64 at h1
  rwa [@if_neg _ (gd _) hF] at h1
theorem md_fit_p {n : Nat} {g : gm_T} (I : I_fit n g) {a b k l : Nat} (ha : a < n) (hb : b < n) (hk : (k : Int) < mE g a) (hl : (l : Int) < mE g b) (hF : isF g a k b l) : md_isFit g (a : Int) (k : Int) (b : Int) (l : Int) = some 1 := by
  obtain ⟨hn, hv, hc, ht, -, htb, -⟩ := I
  have h1 := md_isFit_eq hn.2.2 hv ht htb ha hb hk hl
  rwa [@if_pos _ (gd _) hF] at h1
theorem md_fit_n {n : Nat} {g : gm_T} (I : I_fit n g) {a b k l : Nat} (ha : a < n) (hb : b < n) (hk : (k : Int) < mE g a) (hl : (l : Int) < mE g b) (hF : ¬ isF g a k b l) : md_isFit g (a : Int) (k : Int) (b : Int) (l : Int) = some 0 := by
  obtain ⟨hn, hv, hc, ht, -, htb, -⟩ := I
  have h1 := md_isFit_eq hn.2.2 hv ht htb ha hb hk hl
  rwa [@if_neg _ (gd _) hF] at h1
/-- a bit and an edge of it -/
abbrev isE (n : Nat) (g : gm_T) (a e : Int) : Prop := 0 ≤ a ∧ a < (n : Int) ∧ 0 ≤ e ∧ e < gm_I g 46 a.toNat
theorem cw_refuse_p {n : Nat} {g : gm_T} (I : I_fit n g) {a e b f : Int} (ha : rg a) (he : rg e) (hb : rg b) (hf : rg f) (h1 : isE n g a e) (h2 : isE n g b f) : cw_refusePair n g a e b f = some (if a = b then -2 else 0) := by
  obtain ⟨hn, hv, -⟩ := I
  unfold cw_refusePair isE at *
  simp only [cw_isEdge_eq hn hv ha he, cw_isEdge_eq hn hv hb hf, jb_tst]
  rw [if_pos h1, if_pos h2, jg_pos ⟨ha, hb⟩, ite_some2]
theorem cw_refuse_n {n : Nat} {g : gm_T} (I : I_fit n g) {a e b f : Int} (ha : rg a) (he : rg e) (hb : rg b) (hf : rg f) (h : ¬ (isE n g a e ∧ isE n g b f)) : cw_refusePair n g a e b f = some (-1) := by
  obtain ⟨hn, hv, -⟩ := I
  unfold cw_refusePair isE at *
  simp only [cw_isEdge_eq hn hv ha he, cw_isEdge_eq hn hv hb hf, jb_tst]
  by_cases h1 : 0 ≤ a ∧ a < (n : Int) ∧ 0 ≤ e ∧ e < gm_I g 46 a.toNat
  · rw [if_pos h1, if_neg (fun q => h ⟨h1, q⟩)]
  · rw [if_neg h1]
theorem isE_nat {n : Nat} {g : gm_T} {a e : Int} (h : isE n g a e) : ∃ b k : Nat, a = (b : Int) ∧ e = (k : Int) ∧ b < n ∧ (k : Int) < mE g b := by
  obtain ⟨h1, h2, h3, h4⟩ := h
  exact ⟨a.toNat, e.toNat, (Int.toNat_of_nonneg h1).symm, (Int.toNat_of_nonneg h3).symm, by omega, by unfold mE; omega⟩
theorem op_score {n : Nat} {g : gm_T} (I : I_fit n g) {a e b f : Int} (ha : rg a) (he : rg e) (hb : rg b) (hf : rg f) : ∃ r, cw_score n g a e b f = some r ∧ md_score g a e b f = some r := by
  have hn := I.1
  have hv := I.2.1
  unfold cw_score md_score
  simp only [md_isEdge_eq hn hv ha he, md_isEdge_eq hn hv hb hf, jb_tst]
  by_cases h : isE n g a e ∧ isE n g b f
  · obtain ⟨h1, h2⟩ := h
    rw [cw_refuse_p I ha he hb hf h1 h2, if_pos h1, if_pos h2, jg_pos ⟨ha, hb⟩, jb1_some]
    by_cases hab : a = b
    · rw [if_pos hab, if_pos hab, jg_pos (rgk rfl), if_neg (by decide)]
      exact ⟨_, rfl, rfl⟩
    · rw [if_neg hab, if_neg hab, jg_pos (rgk rfl), if_pos rfl]
      obtain ⟨c, k, rfl, rfl, hc, hk⟩ := isE_nat h1
      obtain ⟨d, l, rfl, rfl, hd, hl⟩ := isE_nat h2
      have hcd : c ≠ d := fun q => hab (by rw [q])
      by_cases hF : isF g c k d l
      · obtain ⟨q1, q2, q3⟩ := cf_fit_p I hc hd hk hl hF
        rw [q1, jb1_some, if_neg q2, q3, jb1_some, cf_scoreOf_eq hv I.2.2.2.2.1 hc hd hk hl, jb1_some, md_fit_p I hc hd hk hl hF, jb1_some, jg_pos (rgk rfl), if_neg n10, md_scoreOf_eq hn.2.2 hv I.2.2.2.2.1 I.2.2.2.2.2.1 hc hd hcd hk hl hF.2.1, jb1_some]
        exact ⟨_, rfl, rfl⟩
      · rw [cf_fit_n I hc hd hk hl hF, jb1_some, if_pos lC_m1, md_fit_n I hc hd hk hl hF, jb1_some, jg_pos (rgk rfl), if_pos rfl]
        exact ⟨_, rfl, rfl⟩
  · rw [cw_refuse_n I ha he hb hf h, jb1_some, jg_pos (rgk rfl), if_neg (by decide)]
    refine ⟨_, rfl, ?_⟩
    by_cases h1 : isE n g a e
    · rw [if_pos h1, if_neg (fun q => h ⟨h1, q⟩)]
    · rw [if_neg h1]
/-- the reference's fitX, fitY -/
theorem md_next_eq {n : Nat} {g : gm_T} (h30 : n ≤ 30) (h : V_bit n g) {b k : Nat} (hb : b < n) (hk : (k : Int) < mE g b) : md_next g (b : Int) (k : Int) = some ((8 * b + nx g b k : Nat) : Int) := by
  obtain ⟨⟨c1, c2, c3⟩, -⟩ := h b hb
  unfold md_next nx mE at *
  rw [jg_pos (by omega), Int.toNat_natCast, jg_pos ⟨⟨by omega, by omega⟩, by omega, by omega⟩]
  by_cases hq : (k : Int) + 1 < gm_I g 46 b
  · rw [if_pos hq, Int.emod_eq_of_lt (by omega) hq]
    congr 1
  · rw [if_neg hq, show (k : Int) + 1 = gm_I g 46 b by omega, Int.emod_self]
    congr 1
theorem md_fitX_eq {n : Nat} {g : gm_T} (I : I_fit n g) {a b k l : Nat} (ha : a < n) (hb : b < n) (hab : a ≠ b) (hk : (k : Int) < mE g a) (hl : (l : Int) < mE g b) (ht : tn g a k b l ≠ -1) : md_fitX g (a : Int) (k : Int) (b : Int) (l : Int) = some (fX g a k b l) ∧ md_fitY g (a : Int) (k : Int) (b : Int) (l : Int) = some (fY g a k b l) := by
  obtain ⟨hn, hv, -, -, -, htb, -⟩ := I
  have h30 := hn.2.2
  obtain ⟨n1, n2⟩ := nx_lt hv ha hk
  obtain ⟨x3, y3, -, -⟩ := xy_in hv hb hl
  obtain ⟨-, a8⟩ := (hv a ha).1.2
  obtain ⟨-, b8⟩ := (hv b hb).1.2
  have h2 := tn_in g a k b l
  unfold md_fitX md_fitY md_entry
  unfold mE at hk hl n1
  have e1 : (8 * (b : Int) + (l : Int)).toNat = 8 * b + l := by omega
  have e2 : (240 * (8 * (a : Int) + (k : Int)) + 8 * (b : Int) + (l : Int)).toNat = at4 a k b l := by unfold at4; omega
  simp only [jl_eq, md_next_eq h30 hv ha hk, jb1_some, Int.toNat_natCast, e1, e2]
  rw [jg_pos (by omega), jg_pos (by omega), jg_pos (by omega), jg_pos (by omega), jg_pos (by omega), jg_pos (by omega), (htb a b k l ha hb hab hk hl).1]
  have x4 : -20 ≤ gm_I g 47 (8 * b + l) ∧ gm_I g 47 (8 * b + l) ≤ 20 := x3
  have y4 : -20 ≤ gm_I g 48 (8 * b + l) ∧ gm_I g 48 (8 * b + l) ≤ 20 := y3
  rw [md_turnedX_eq ⟨by omega, h2.2⟩ ⟨by omega, by omega⟩ ⟨by omega, by omega⟩, md_turnedY_eq ⟨by omega, h2.2⟩ ⟨by omega, by omega⟩ ⟨by omega, by omega⟩]
  exact ⟨rfl, rfl⟩
theorem cw_partOf_eq {g : gm_T} {p : plc} {M : Int} (hp : bpl M p) (hM : M ≤ 524287) {w : Int} (hw : rg w) : cw_partOf g (pp p) w = some (if w = 0 then p.1 else if w = 1 then p.2.1 else if w = 2 then p.2.2 else -100000) := by
  have h := bpl_ok hp hM
  unfold cw_partOf
  show jg (rg w) (if w = 0 then jb1 (cc_turn g (pk p.1 p.2.1 p.2.2)) (fun v => some v) else if w = 1 then jb1 (cc_x g (pk p.1 p.2.1 p.2.2)) (fun v => some v) else if w = 2 then jb1 (cc_y g (pk p.1 p.2.1 p.2.2)) (fun v => some v) else some (-100000)) = _
  rw [jg_pos hw, cc_turn_eq h, cc_x_eq h, cc_y_eq h]
  simp only [jb1_some, ite_some2]
theorem op_turned {n : Nat} {g : gm_T} (I : I_fit n g) {a e b f w : Int} (ha : rg a) (he : rg e) (hb : rg b) (hf : rg f) (hw : rg w) : ∃ r, cw_turned n g a e b f w = some r ∧ md_turned g a e b f w = some r := by
  have hn := I.1
  have hv := I.2.1
  unfold cw_turned md_turned
  simp only [md_isEdge_eq hn hv ha he, md_isEdge_eq hn hv hb hf, jb_tst, md_in_eq hw (rgk rfl : rg 0) (rgk rfl : rg 2)]
  by_cases h : isE n g a e ∧ isE n g b f
  · obtain ⟨h1, h2⟩ := h
    rw [cw_refuse_p I ha he hb hf h1 h2, if_pos h1, if_pos h2, jb1_some]
    obtain ⟨c, k, rfl, rfl, hc, hk⟩ := isE_nat h1
    obtain ⟨d, l, rfl, rfl, hd, hl⟩ := isE_nat h2
    have hF0 : (c : Int) = (d : Int) → ¬ isF g c k d l := fun q p => p.1 (by omega)
    by_cases hF : isF g c k d l
    · obtain ⟨q1, q2, q3⟩ := cf_fit_p I hc hd hk hl hF
      have h40 := fpl_b hv hc hd hk hl hF.2.1
      obtain ⟨x1, y1⟩ := md_fitX_eq I hc hd hF.1 hk hl hF.2.1
      have e1 := (I.2.2.2.2.2.1 c d k l hc hd hF.1 hk hl).1
      have a8 := (hv c hc).1.2.2
      have b8 := (hv d hd).1.2.2
      have h30 := hn.2.2
      have hat : (240 * (8 * (c : Int) + (k : Int)) + 8 * (d : Int) + (l : Int)).toNat = at4 c k d l := by unfold at4; omega
      unfold mE at hk hl
      rw [if_neg (fun q => hF0 q hF), jg_pos (rgk rfl), if_pos rfl, q1, jb1_some, if_neg q2, cw_partOf_eq h40 (by decide) hw, jb1_some]
      by_cases h3 : 0 ≤ w ∧ w ≤ 2
      · rw [if_pos h3, md_fit_p I hc hd hk hl hF, jb1_some, jg_pos (rgk rfl), if_neg n10, jg_pos hw]
        unfold md_entry
        simp only [jb1_some, hat, e1, x1, y1]
        rw [jg_pos (by omega)]
        refine ⟨_, rfl, ?_⟩
        by_cases w0 : w = 0
        · rw [if_pos w0, if_pos w0]; rfl
        · by_cases w1 : w = 1
          · rw [if_neg w0, if_neg w0, if_pos w1, if_pos w1]; rfl
          · rw [if_neg w0, if_neg w0, if_neg w1, if_neg w1, if_pos (by omega)]; rfl
      · rw [if_neg h3, if_neg (by omega), if_neg (by omega), if_neg (by omega)]
        exact ⟨_, rfl, rfl⟩
    · have hr : (if 0 ≤ w ∧ w ≤ 2 then jb1 (md_isFit g (c : Int) (k : Int) (d : Int) (l : Int)) (fun v7 : Int => jg (rg v7) (if v7 = 0 then some (-100000) else jg (rg w) (if w = 0 then jb1 (md_entry g (c : Int) (k : Int) (d : Int) (l : Int)) fun v10 : Int => jg (0 ≤ v10 ∧ v10 < 57600) (some (gm_I g 63 v10.toNat)) else if w = 1 then jb1 (md_fitX g (c : Int) (k : Int) (d : Int) (l : Int)) fun v12 : Int => some v12 else jb1 (md_fitY g (c : Int) (k : Int) (d : Int) (l : Int)) fun v13 : Int => some v13))) else some (-100000)) = some (-100000) := by
        rw [md_fit_n I hc hd hk hl hF, jb1_some, jg_pos (rgk rfl), if_pos rfl, ite_self]
      rw [hr]
      refine ⟨_, ?_, rfl⟩
      by_cases hab : (c : Int) = (d : Int)
      · rw [if_pos hab, jg_pos (rgk rfl), if_neg (by decide)]
      · rw [if_neg hab, jg_pos (rgk rfl), if_pos rfl, cf_fit_n I hc hd hk hl hF, jb1_some, if_pos lC_m1]
  · rw [cw_refuse_n I ha he hb hf h, jb1_some, jg_pos (rgk rfl), if_neg (by decide)]
    refine ⟨_, rfl, ?_⟩
    by_cases h1 : isE n g a e
    · rw [if_pos h1, if_neg (fun q => h ⟨h1, q⟩)]
    · rw [if_neg h1]
