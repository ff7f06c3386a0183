/-! The photograph's rows, all of them. -/
theorem md_l22_0 (f : Nat) (g : gm_T) : md_readsRows_l22 (f + 1) 0 g = some g := by
  unfold md_readsRows_l22
  rw [jg_pos (rgk rfl), if_pos rfl]
/-- one row of the reference -/
theorem md_row {g1 : gm_T} {L : Nat} {t : Nat → Int} (h : isT g1 L t) {p r W : Nat} (hp : gm_I g1 44 40 = (p : Int)) (hl : p ≤ L) (h67 : gm_I g1 44 67 = (r : Int)) (hr : r < 16) (h66 : r ≠ 0 → gm_I g1 44 66 = (W : Int)) (hW : r ≠ 0 → 1 ≤ W ∧ W ≤ 16) (f : Nat) : ∃ (x2 W2 : Nat) (g2 : gm_T), W2 = (if r = 0 then x2 else W) ∧ x2 ≤ (if r = 0 then 16 else W) ∧ p + x2 ≤ L ∧ (∀ i, i < x2 → isc (t (p + i)) = true ∧ gm_I g2 89 (16 * r + i) = cvl (t (p + i))) ∧ (x2 < (if r = 0 then 16 else W) → isc (t (p + x2)) = false) ∧ exc W_rd nob g1 g2 ∧ gm_I g2 44 66 = (W2 : Int) ∧ gm_I g2 44 67 = ((r + 1 : Nat) : Int) ∧ gm_I g2 44 41 = (if x2 = 0 ∨ x2 < W2 then 1 else 0) ∧ (∀ k, k < 16 * r → gm_I g2 89 k = gm_I g1 89 k) ∧ md_readsRows_l22 (f + 2) 1 g1 = if ¬ (x2 = 0 ∨ x2 < W2) ∧ r + 1 < 16 ∧ t (p + x2) = 47 then md_readsRows_l22 (f + 1) 1 (gm_wI g2 44 40 ((p + x2 + 1 : Nat) : Int)) else some (gm_wI g2 44 40 ((p + x2 : Nat) : Int)) := by
  have hlim : (if r = 0 then 16 else W) ≤ 16 := by
    by_cases z : r = 0
    · rw [if_pos z]
      omega
    · rw [if_neg z]
      exact (hW z).2
  obtain ⟨x2, g2, r1, r2, r3, r4, r5, r6, r7, r8, r9⟩ := md_rr_lp h (p := p) (r := r) (lim := if r = 0 then 16 else W) (W := W) h67 hr h66 rfl hlim (if r = 0 then 16 else W) 0 fz g1 (by omega) (Nat.lt_of_le_of_lt hlim (fz_gt rfl)) exc_rf hp hl
  obtain ⟨W2, hW2⟩ : ∃ W2 : Nat, W2 = if r = 0 then x2 else W := ⟨_, rfl⟩
  have hW16 : W2 ≤ 16 := by
    by_cases z : r = 0
    · rw [if_pos z] at hW2
      omega
    · rw [if_neg z] at hW2
      have := (hW z).2
      omega
  have D1 : (jg (rg (gm_I g2 44 67)) (if (gm_I g2 44 67) = 0 then (some (x2 : Int)) else (some (gm_I g2 44 66)))) = some (W2 : Int) := by
    rw [r7.1 44 67 rfl, h67, jg_pos (rgn (by omega)), hW2]
    by_cases c : r = 0
    · rw [if_pos (by omega), if_pos c]
    · rw [if_neg (by omega), if_neg c, r7.1 44 66 rfl, h66 c]
  obtain ⟨v, hv⟩ : ∃ v : Int, v = if x2 = 0 ∨ x2 < W2 then 1 else 0 := ⟨_, rfl⟩
  have hv01 : v = 0 ∨ v = 1 := by
    rw [hv]
    split
    · exact Or.inr rfl
    · exact Or.inl rfl
  have D2 : (jg (rg (x2 : Int)) (if (x2 : Int) = 0 then (some (1 : Int)) else (jg (rg (gm_I (gm_wI g2 44 66 (W2 : Int)) 44 66)) (if (x2 : Int) < (gm_I (gm_wI g2 44 66 (W2 : Int)) 44 66) then (some 1) else (some 0))))) = some v := by
    rw [gI_eq, jg_pos (rgn (by omega)), hv]
    by_cases c : x2 = 0
    · rw [if_pos (by omega), if_pos (Or.inl c)]
    · rw [if_neg (by omega), jg_pos (rgn (by omega))]
      by_cases c2 : x2 < W2
      · rw [if_pos (by omega), if_pos (Or.inr c2)]
      · rw [if_neg (by omega), if_neg (by omega)]
  obtain ⟨G, hG⟩ : ∃ G : gm_T, G = gm_wI (gm_wI (gm_wI g2 44 66 (W2 : Int)) 44 41 v) 44 67 ((r + 1 : Nat) : Int) := ⟨_, rfl⟩
  have G41 : gm_I G 44 41 = v := by rw [hG, gI_ne (by decide), gI_eq]
  have G67 : gm_I G 44 67 = ((r + 1 : Nat) : Int) := by rw [hG, gI_eq]
  have G66 : gm_I G 44 66 = (W2 : Int) := by rw [hG, gI_ne (by decide), gI_ne (by decide), gI_eq]
  have G40 : gm_I G 44 40 = ((p + x2 : Nat) : Int) := by rw [hG, gI_ne (by decide), gI_ne (by decide), gI_ne (by decide), r8]
  have G89 : ∀ k, gm_I G 89 k = gm_I g2 89 k := fun k => by rw [hG, gI_oth (by decide), gI_oth (by decide), gI_oth (by decide)]
  have xG : exc W_rd nob g1 G := by
    rw [hG]
    exact exc_wI (exc_wI (exc_wI (rd_rw r7) rfl) rfl) rfl
  have hb := isT_b1 h (p + x2)
  have D3 : (jg (rg (gm_I G 44 41)) (if (gm_I G 44 41) = 0 then (jg (rg (gm_I G 44 67)) (if (gm_I G 44 67) < 16 then (jb1 (md_byteAt G) fun (v57 : Int) => jg (rg v57) (if v57 = 47 then (some (1 : Int)) else (some 0))) else (some 0))) else (some 0))) = some (if ¬ (x2 = 0 ∨ x2 < W2) ∧ r + 1 < 16 ∧ t (p + x2) = 47 then 1 else 0) := by
    rw [G41, G67, hv]
    by_cases c : x2 = 0 ∨ x2 < W2
    · rw [if_pos c, jg_pos (rgk rfl), if_neg n10, if_neg (fun z => z.1 c)]
    · rw [if_neg c, jg_pos (rgk rfl), if_pos rfl, jg_pos (rgn (by omega))]
      by_cases c2 : r + 1 < 16
      · rw [if_pos (by omega), md_byteAt_eq (isT_tr xG h) G40 r4, jb1_some, jg_pos ⟨by omega, by omega⟩]
        by_cases c3 : t (p + x2) = 47
        · rw [if_pos c3, if_pos ⟨c, c2, c3⟩]
        · rw [if_neg c3, if_neg (fun z => c3 z.2.2)]
      · rw [if_neg (by omega), if_neg (fun z => c2 z.2.1)]
  refine ⟨x2, W2, G, hW2, r3, r4, fun i hi => ?_, r6, xG, G66, G67, by rw [G41, hv], fun k hk => ?_, ?_⟩
  · rw [G89]
    exact r5 i (Nat.zero_le _) hi
  · rw [G89]
    exact r9 k (by omega)
  · conv => lhs; unfold md_readsRows_l22
    rw [jg_pos (rgk rfl), if_neg n10, show md_readsRows_l28 fz 0 g1 = some ((x2 : Int), g2) from r1, jb2_some, D1, jb1_some, jl_eq, D2, jb1_some, jg_pos hv01, jl_eq, jl_eq]
    have eG : gm_wI (gm_wI (gm_wI g2 44 66 (W2 : Int)) 44 41 v) 44 67 (gm_I (gm_wI (gm_wI g2 44 66 (W2 : Int)) 44 41 v) 44 67 + 1) = G := by
      rw [hG, gI_ne (by decide), gI_ne (by decide), r7.1 44 67 rfl, h67]
      rfl
    rw [eG, D3]
    by_cases c : ¬ (x2 = 0 ∨ x2 < W2) ∧ r + 1 < 16 ∧ t (p + x2) = 47
    · rw [if_pos c, if_pos c, jb1_some, jg_pos (rgk rfl), if_neg n10, jl_eq, G40]
      rfl
    · rw [if_neg c, if_neg c, jb1_some, jg_pos (rgk rfl), if_pos rfl, jl_eq, G40, Int.add_zero, md_l22_0]
/-- the class's end of the scan -/
noncomputable def cpf (g : gm_T) (o : Option ((Int × Int × Int) ⊕ Int)) : Option Int := jc3 (ρ := Int) o some fun (v27 : Int) (v28 : Int) (v29 : Int) => jb1 (cp_isWhole g v27 v28 v29) fun (v32 : Int) => jg (rg v32) (if v32 = 0 then (some (gm_I g 1 0)) else (some (-1)))
/-- the class after the cells of a row -/
theorem cp_end {g : gm_T} {L : Nat} {t : Nat → Int} (h : isTc g L t) {r x lim q : Nat} (hr : r < 16) (hq : q ≤ L) (hx : x ≤ lim) (hlim : lim ≤ 16) (hc : x < lim → isc (t q) = false) (f : Nat) : cpf g (cp_faultOf_l11 g (f + 1) (r : Int) (x : Int) (lim : Int) (q : Int)) = if (if r = 0 then 0 < x else x = lim) ∧ q = L then some (-1) else if (if r = 0 then 0 < x else x = lim) ∧ r + 1 < 16 ∧ t q = 47 then cpf g (cp_faultOf_l11 g f ((r + 1 : Nat) : Int) 0 (x : Int) ((q + 1 : Nat) : Int)) else some (q : Int) := by
  have l2 := h.2.1
  have hb := isT_b2 h q
  have hw1 := cp_isWhole_eq g (r := r) (x := x) (w := lim) (by omega) (by omega) (by omega)
  by_cases c : q < L
  · rw [if_neg (fun z => by omega)]
    conv => lhs; unfold cp_faultOf_l11
    rw [h.1, jg_pos ⟨rgn (by omega), rgn (by omega)⟩, if_pos (by omega), ct_peek_eq h hq, jb1_some, jg_pos ⟨by omega, by omega⟩, ct_digit_eq h hq, jb1_some]
    by_cases c1 : isc (t q) = true
    · have hi := isc_iff.mp c1
      have hxl : x = lim := by
        by_cases z : x < lim
        · rw [hc z] at c1
          cases c1
        · omega
      rw [if_neg (show ¬ ((if r = 0 then 0 < x else x = lim) ∧ r + 1 < 16 ∧ t q = 47) from fun z => by
        have := z.2.2
        omega)]
      by_cases z : t q = 46
      · rw [if_pos z, jg_pos ⟨rgn (by omega), rgn (by omega)⟩, if_pos (by omega)]
        rfl
      · rw [if_neg z, if_pos (by omega), jg_pos ⟨by omega, by omega⟩, if_neg (by omega), jg_pos ⟨rgn (by omega), rgn (by omega)⟩, if_pos (by omega)]
        rfl
    · have hni : ¬ (t q = 46 ∨ (48 ≤ t q ∧ t q ≤ 57)) := fun z => c1 (isc_iff.mpr z)
      rw [if_neg (fun z => hni (Or.inl z)), if_neg (fun z => hni (Or.inr z)), jg_pos (rgk rfl), if_pos (by decide)]
      by_cases c2 : t q = 47
      · rw [if_pos c2, hw1, jb1_some, jg_pos (rg01)]
        by_cases c3 : (if r = 0 then 0 < x else x = lim)
        · rw [if_pos c3, if_neg n10, jg_pos (show rg ((r : Int) + 1) from rgn (n := r + 1) (by omega))]
          by_cases c4 : r + 1 < 16
          · rw [if_pos (by omega), if_pos ⟨c3, c4, c2⟩]
            rfl
          · rw [if_neg (by omega), if_neg (fun z => c4 z.2.1)]
            rfl
        · rw [if_neg c3, if_pos rfl, if_neg (fun z => c3 z.1)]
          rfl
      · rw [if_neg c2, if_neg (fun z => c2 z.2.2)]
        rfl
  · have hqL : q = L := by omega
    have ht : t q = -1 := h.2.2.2 q (by omega)
    conv => lhs; unfold cp_faultOf_l11
    rw [h.1, jg_pos ⟨rgn (by omega), rgn (by omega)⟩, if_neg (by omega)]
    unfold cpf
    rw [jc3_inl, hw1, jb1_some, jg_pos rg01, h.1]
    by_cases c3 : (if r = 0 then 0 < x else x = lim)
    · rw [if_pos c3, if_neg n10, if_pos ⟨c3, hqL⟩]
    · rw [if_neg c3, if_pos rfl, if_neg (fun z => c3 z.1), if_neg (fun z => c3 z.1), hqL]
