/-! Questions: the reference's whole reading. -/
theorem wI1_rg (b : Bool) : rg (wI1 b) := by cases b <;> exact rgk rfl
theorem wI1_or (b : Bool) : wI1 b = 0 ∨ wI1 b = 1 := by
  cases b
  · exact Or.inl rfl
  · exact Or.inr rfl
theorem term_lp {t : Nat → Int} {L : Nat} (hE : endT t L) {a : Int} {g0 : gm_T} {rec : Nat → gm_T → Option (Int × gm_T)} {recp : Nat → qres} {p0 : Nat} (hok : ∀ p, p ≤ L → qok L p (recp p)) (hrec : ∀ p g, p ≤ L → p0 ≤ p → exc W_ps nob g0 g → isP g L t a p false → ∃ g2, rec 2 g = some (wI1 ((recp p).1 a), g2) ∧ exc W_ps nob g0 g2 ∧ isP g2 L t a (recp p).2.1 (recp p).2.2) : ∀ (m : Nat) (r : qres) (g : gm_T), exc W_ps nob g0 g → isP g L t a r.2.1 r.2.2 → (p0 ≤ r.2.1 ∧ r.2.1 ≤ L) → L - r.2.1 < m → ∃ g2, md_term_l5 rec m (wI1 (r.1 a)) g = some (wI1 ((lpq 38 and t recp m r).1 a), g2) ∧ exc W_ps nob g0 g2 ∧ isP g2 L t a (lpq 38 and t recp m r).2.1 (lpq 38 and t recp m r).2.2
  | 0, r, g, _, _, _, h => by omega
  | m + 1, r, g, x, h, hp, hm => by
    have hb := isT_b1 h.1 r.2.1
    unfold lpq
    conv => enter [1, g2, 1, 1]; unfold md_term_l5
    rw [h.2.1.2]
    by_cases c : r.2.2 = false ∧ t r.2.1 = 38
    · have l1 := qlt_L hE (p := r.2.1) (by omega)
      have x1 : exc W_ps nob g (gm_wI g 44 40 ((r.2.1 : Int) + 1)) := exc_wI exc_rf rfl
      have h1 : isP (gm_wI g 44 40 ((r.2.1 : Int) + 1)) L t a (r.2.1 + 1) false := isP_w h x1 (by rw [gI_eq]; rfl) (by rw [gI_ne (by decide), h.2.1.2, c.1])
      obtain ⟨g3, k1, k2, k3⟩ := hrec (r.2.1 + 1) _ (by omega) (by omega) (exc_tr x x1) h1
      have ho := hok (r.2.1 + 1) (by omega)
      have next := term_lp hE hok hrec m (fun b => and (r.1 b) ((recp (r.2.1 + 1)).1 b), (recp (r.2.1 + 1)).2) g3 k2 k3 ⟨by have := ho.1.1; dsimp only; omega, ho.1.2⟩ (by have := ho.1.1; dsimp only; omega)
      rw [if_pos c, c.1, wI1_f, jg_pos (rgk rfl), if_pos rfl, md_byteAt_eq h.1 h.2.1.1 hp.2, jb1_some, jg_pos ⟨by omega, by omega⟩, if_pos c.2, jl_eq, h.2.1.1, k1, jb2_some, jg_pos (wI1_rg _)]
      dsimp only at next
      cases e1 : r.1 a with
      | false =>
        rw [e1] at next
        rw [wI1_f, if_pos rfl]
        exact next
      | true =>
        rw [e1] at next
        rw [wI1_t, if_neg n10, jg_pos (wI1_rg _)]
        cases e2 : (recp (r.2.1 + 1)).1 a with
        | false =>
          rw [e2] at next
          rw [wI1_f, if_pos rfl]
          exact next
        | true =>
          rw [e2] at next
          rw [wI1_t, if_neg n10]
          exact next
    · rw [if_neg c]
      cases w : r.2.2 with
      | true =>
        rw [w] at h
        rw [wI1_t, jg_pos (rgk rfl), if_neg n10]
        exact ⟨g, rfl, x, h⟩
      | false =>
        rw [w] at h
        rw [wI1_f, jg_pos (rgk rfl), if_pos rfl, md_byteAt_eq h.1 h.2.1.1 hp.2, jb1_some, jg_pos ⟨by omega, by omega⟩, if_neg (fun z => c ⟨w, z⟩)]
        exact ⟨g, rfl, x, h⟩
theorem quest_lp {t : Nat → Int} {L : Nat} (hE : endT t L) {a : Int} {g0 : gm_T} {rec : Nat → gm_T → Option (Int × gm_T)} {recp : Nat → qres} {p0 : Nat} (hok : ∀ p, p ≤ L → qok L p (recp p)) (hrec : ∀ p g, p ≤ L → p0 ≤ p → exc W_ps nob g0 g → isP g L t a p false → ∃ g2, rec 1 g = some (wI1 ((recp p).1 a), g2) ∧ exc W_ps nob g0 g2 ∧ isP g2 L t a (recp p).2.1 (recp p).2.2) : ∀ (m : Nat) (r : qres) (g : gm_T), exc W_ps nob g0 g → isP g L t a r.2.1 r.2.2 → (p0 ≤ r.2.1 ∧ r.2.1 ≤ L) → L - r.2.1 < m → ∃ g2, md_question_l5 rec m (wI1 (r.1 a)) g = some (wI1 ((lpq 124 or t recp m r).1 a), g2) ∧ exc W_ps nob g0 g2 ∧ isP g2 L t a (lpq 124 or t recp m r).2.1 (lpq 124 or t recp m r).2.2
  | 0, r, g, _, _, _, h => by omega
  | m + 1, r, g, x, h, hp, hm => by
    have hb := isT_b1 h.1 r.2.1
    unfold lpq
    conv => enter [1, g2, 1, 1]; unfold md_question_l5
    rw [h.2.1.2]
    by_cases c : r.2.2 = false ∧ t r.2.1 = 124
    · have l1 := qlt_L hE (p := r.2.1) (by omega)
      have x1 : exc W_ps nob g (gm_wI g 44 40 ((r.2.1 : Int) + 1)) := exc_wI exc_rf rfl
      have h1 : isP (gm_wI g 44 40 ((r.2.1 : Int) + 1)) L t a (r.2.1 + 1) false := isP_w h x1 (by rw [gI_eq]; rfl) (by rw [gI_ne (by decide), h.2.1.2, c.1])
      obtain ⟨g3, k1, k2, k3⟩ := hrec (r.2.1 + 1) _ (by omega) (by omega) (exc_tr x x1) h1
      have ho := hok (r.2.1 + 1) (by omega)
      have next := quest_lp hE hok hrec m (fun b => or (r.1 b) ((recp (r.2.1 + 1)).1 b), (recp (r.2.1 + 1)).2) g3 k2 k3 ⟨by have := ho.1.1; dsimp only; omega, ho.1.2⟩ (by have := ho.1.1; dsimp only; omega)
      rw [if_pos c, c.1, wI1_f, jg_pos (rgk rfl), if_pos rfl, md_byteAt_eq h.1 h.2.1.1 hp.2, jb1_some, jg_pos ⟨by omega, by omega⟩, if_pos c.2, jl_eq, h.2.1.1, k1, jb2_some, jg_pos (wI1_rg _)]
      dsimp only at next
      cases e1 : r.1 a with
      | true =>
        rw [e1] at next
        rw [wI1_t, if_neg n10]
        exact next
      | false =>
        rw [e1] at next
        rw [wI1_f, if_pos rfl, jg_pos (wI1_rg _)]
        cases e2 : (recp (r.2.1 + 1)).1 a with
        | false =>
          rw [e2] at next
          rw [wI1_f, if_pos rfl]
          exact next
        | true =>
          rw [e2] at next
          rw [wI1_t, if_neg n10]
          exact next
    · rw [if_neg c]
      cases w : r.2.2 with
      | true =>
        rw [w] at h
        rw [wI1_t, jg_pos (rgk rfl), if_neg n10]
        exact ⟨g, rfl, x, h⟩
      | false =>
        rw [w] at h
        rw [wI1_f, jg_pos (rgk rfl), if_pos rfl, md_byteAt_eq h.1 h.2.1.1 hp.2, jb1_some, jg_pos ⟨by omega, by omega⟩, if_neg (fun z => c ⟨w, z⟩)]
        exact ⟨g, rfl, x, h⟩
theorem md_qtf_eq {t : Nat → Int} {L : Nat} (hE : endT t L) {a : Int} (ha : rg a) {g0 : gm_T} {lv : Int → Int → Int} (hlv : ∀ p, a ≠ -1 → isLt (t p) → ∀ g', exc W_ps nob g0 g' → md_letter g' (t p) = some (lv a (t p)) ∧ rg (lv a (t p))) : ∀ (f k p : Nat) (g : gm_T), k ≤ 2 → 3 * (L - p) + (3 - k) ≤ f → p ≤ L → exc W_ps nob g0 g → isP g L t a p false → ∃ g2, md_qtf f k g = some (wI1 ((prs t (evl lv) f k p).1 a), g2) ∧ exc W_ps nob g0 g2 ∧ isP g2 L t a (prs t (evl lv) f k p).2.1 (prs t (evl lv) f k p).2.2 := by
  have fzL : ∀ q, L ≤ 240 → L - q < fz := fun q hq => Nat.lt_of_le_of_lt (show L - q ≤ 300 by omega) (fz_gt rfl)
  intro f
  induction f with
  | zero =>
    intro k p g hk hf hp x h
    omega
  | succ f ih =>
    intro k p g hk hf hp x h
    have L240 := h.1.2.1
    match k, hk, hf with
    | 0, hk, hf =>
      obtain ⟨g2, k1, k2, k3⟩ := ih 1 p g (by decide) (by omega) hp x h
      have ho := prs_ok hE (ev := evl lv) f 1 p hp
      obtain ⟨g3, m1, m2, m3⟩ := quest_lp hE (rec := md_qtf f) (recp := prs t (evl lv) f 1) (p0 := p) (fun q hq => prs_ok hE f 1 q hq) (fun q g hq hpq x h => ih 1 q g (by decide) (by omega) hq x h) fz (prs t (evl lv) f 1 p) g2 k2 k3 ho.1 (fzL _ L240)
      refine ⟨g3, ?_, m2, m3⟩
      show md_question_b (md_qtf f) g = _
      unfold md_question_b
      rw [k1, jb2_some, m1, jb2_some, jg_pos (wI1_or _)]
      rfl
    | 1, hk, hf =>
      obtain ⟨g2, k1, k2, k3⟩ := ih 2 p g (by decide) (by omega) hp x h
      have ho := prs_ok hE (ev := evl lv) f 2 p hp
      obtain ⟨g3, m1, m2, m3⟩ := term_lp hE (rec := md_qtf f) (recp := prs t (evl lv) f 2) (p0 := p) (fun q hq => prs_ok hE f 2 q hq) (fun q g hq hpq x h => ih 2 q g (by decide) (by omega) hq x h) fz (prs t (evl lv) f 2 p) g2 k2 k3 ho.1 (fzL _ L240)
      refine ⟨g3, ?_, m2, m3⟩
      show md_term_b (md_qtf f) g = _
      unfold md_term_b
      rw [k1, jb2_some, m1, jb2_some, jg_pos (wI1_or _)]
      rfl
    | 2, hk, hf =>
      have hb := isT_b1 h.1 p
      have hpr : prs t (evl lv) (f + 1) 2 p = if t p = 33 then (fun a => !(prs t (evl lv) f 2 (p + 1)).1 a, (prs t (evl lv) f 2 (p + 1)).2) else if t p = 40 then qpar t (prs t (evl lv) f 0 (p + 1)) else qtst t (evl lv) p := rfl
      have x1 : exc W_ps nob g (gm_wI g 44 40 ((p : Int) + 1)) := exc_wI exc_rf rfl
      have h1 : isP (gm_wI g 44 40 ((p : Int) + 1)) L t a (p + 1) false := isP_w h x1 (by rw [gI_eq]; rfl) (by rw [gI_ne (by decide), h.2.1.2])
      rw [hpr]
      show ∃ g2, md_factor_b (md_qtf f) g = _ ∧ _
      unfold md_factor_b
      rw [h.2.1.2, wI1_f, jg_pos (rgk rfl), if_pos rfl, md_byteAt_eq h.1 h.2.1.1 hp, jb1_some, jg_pos ⟨by omega, by omega⟩]
      by_cases c1 : t p = 33
      · have l1 := qlt_L hE (p := p) (by omega)
        obtain ⟨g2, k1, k2, k3⟩ := ih 2 (p + 1) _ (by decide) (by omega) (by omega) (exc_tr x x1) h1
        rw [if_pos c1, if_pos c1, jl_eq, h.2.1.1, k1, jb2_some, jg_pos (wI1_rg _)]
        refine ⟨g2, ?_, k2, k3⟩
        dsimp only
        cases (prs t (evl lv) f 2 (p + 1)).1 a with
        | false => rw [wI1_f, if_pos rfl]; rfl
        | true => rw [wI1_t, if_neg n10]; rfl
      · rw [if_neg c1, if_neg c1, if_pos rfl, jb1_some, jg_pos ⟨by omega, by omega⟩]
        by_cases c2 : t p = 40
        · have l1 := qlt_L hE (p := p) (by omega)
          obtain ⟨g2, k1, k2, k3⟩ := ih 0 (p + 1) _ (by decide) (by omega) (by omega) (exc_tr x x1) h1
          have ho := prs_ok hE (ev := evl lv) f 0 (p + 1) (by omega)
          obtain ⟨g3, m1, m2, m3⟩ := md_must_eq k3 ho.1.2 (c := 41) (rgk rfl)
          rw [if_pos c2, if_pos c2, jl_eq, h.2.1.1, k1, jb2_some, m1, jb1_some, jg_pos (wI1_or _)]
          refine ⟨g3, ?_, exc_tr k2 m2, ?_⟩
          · unfold qpar
            by_cases d1 : (prs t (evl lv) f 0 (p + 1)).2.2 = true
            · rw [if_pos d1]
            · rw [if_neg d1]
              by_cases d2 : t (prs t (evl lv) f 0 (p + 1)).2.1 = 41
              · rw [if_pos d2]
              · rw [if_neg d2]
          · unfold qpar
            by_cases d1 : (prs t (evl lv) f 0 (p + 1)).2.2 = true
            · rw [if_pos d1, if_pos d1] at m3
              rw [if_pos d1, d1]
              exact m3
            · rw [if_neg d1, if_neg d1] at m3
              rw [if_neg d1]
              by_cases d2 : t (prs t (evl lv) f 0 (p + 1)).2.1 = 41
              · rw [if_pos d2, if_pos d2] at m3
                rw [if_pos d2]
                exact m3
              · rw [if_neg d2, if_neg d2] at m3
                rw [if_neg d2]
                exact m3
        · obtain ⟨g2, k1, k2, k3⟩ := md_test_eq hE ha h hp (lv := lv) (fun z l g' x' => hlv p z l g' (exc_tr x x'))
          rw [if_neg c2, if_neg c2, k1, jb2_some, jg_pos (wI1_or _)]
          exact ⟨g2, rfl, exc_tr x k2, k3⟩
