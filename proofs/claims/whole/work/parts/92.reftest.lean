/-! Questions: a comparison, read by the reference. -/
theorem op_if {c : Int} : (if c = 60 then (some (0 : Int)) else (if c = 61 then (some 0) else (if c = 62 then (some 0) else (some 1)))) = some (@ite _ (isOp c) (gd _) 0 1) := by
  by_cases h : isOp c
  · rw [@if_pos _ (gd _) h]
    unfold isOp at h
    (repeat' split) <;> first | rfl | (exfalso; omega)
  · rw [@if_neg _ (gd _) h]
    unfold isOp at h
    (repeat' split) <;> first | rfl | (exfalso; omega)
/-- the end of the reference's test, behind the two signs -/
noncomputable def tailT (v1 v10 : Int) (g17 : gm_T) : Option (Int × gm_T) := jb2 (md_digit g17) fun (v18 : Int) (g19 : gm_T) => jb2 (md_test_l117 v1 v10 fz v18 0 g19) fun (v37 : Int) (g39 : gm_T) => jg (rg (gm_I g39 44 41)) (if (gm_I g39 44 41) = 0 then (jg (rg (gm_I g39 44 86)) (if (gm_I g39 44 86) = (-1) then (some (0, g39)) else (jb1 (md_letter g39 v1) fun (v42 : Int) => jg (rg v10) (if v10 = 60 then (jg (rg v42 ∧ rg v37) (if v42 < v37 then (some (1, g39)) else (some (0, g39)))) else (if v10 = 61 then (jg (rg v42 ∧ rg v37) (if v42 = v37 then (some (1, g39)) else (some (0, g39)))) else (jg (rg v42 ∧ rg v37) (if v42 ≤ v37 then (some (0, g39)) else (some (1, g39))))))))) else (some (0, g39)))
theorem tailT_no {v1 v10 : Int} {g : gm_T} {L : Nat} {t : Nat → Int} {a : Int} {p : Nat} {w : Bool} (h : isP g L t a p w) (hp : p ≤ L) (hw : ¬ (w = false ∧ isDg (t p))) : ∃ g2, tailT v1 v10 g = some (0, g2) ∧ exc W_ps nob g g2 ∧ isP g2 L t a p true := by
  obtain ⟨g2, v, k1, k2, k3⟩ := md_digit_eq h hp
  rcases k3 with ⟨q1, q2, -⟩ | ⟨-, k4, k5⟩
  · exact absurd ⟨q1, q2⟩ hw
  have r1 : md_test_l117 v1 v10 fz 0 0 g2 = some (0, g2) := by
    rw [show fz = 99999 + 1 from rfl]
    unfold md_test_l117
    rw [jg_pos (rgk rfl), if_pos (by decide), k5.2.1.2, wI1_t, jg_pos (rgk rfl), if_neg n10]
  refine ⟨g2, ?_, k2, k5⟩
  unfold tailT
  rw [k1, jb2_some, k4, r1, jb2_some, k5.2.1.2, wI1_t, jg_pos (rgk rfl), if_neg n10]
theorem tailT_yes {t : Nat → Int} {L : Nat} (hE : endT t L) {a : Int} (ha : rg a) {g : gm_T} {p : Nat} (h : isP g L t a (p + 2) false) (hp : p + 2 ≤ L) (hd : isDg (t (p + 2))) (ho : isOp (t (p + 1))) {lv : Int → Int → Int} (hlv : a ≠ -1 → ∀ g', exc W_ps nob g g' → md_letter g' (t p) = some (lv a (t p)) ∧ rg (lv a (t p))) : ∃ g2, tailT (t p) (t (p + 1)) g = some (wI1 (evl lv a (t p) (t (p + 1)) (cqn t p).1), g2) ∧ exc W_ps nob g g2 ∧ isP g2 L t a (cqn t p).2 false := by
  have d0 : 48 ≤ t (p + 2) ∧ t (p + 2) ≤ 57 := hd
  have l2 := qlt_L hE (p := p + 2) (by omega)
  obtain ⟨g2, v, k1, k2, k3⟩ := md_digit_eq h hp
  rcases k3 with ⟨-, -, k4, k5⟩ | ⟨k4, -⟩
  rotate_left
  · exact absurd ⟨rfl, hd⟩ k4
  obtain ⟨g3, r1, r2, r3, r4, r5⟩ := md_l117_eq (c20 := t p) (c21 := t (p + 1)) hE (p := p) k5 hd (by omega)
  have x := exc_tr k2 r2
  have o3 : t (p + 1) = 60 ∨ t (p + 1) = 61 ∨ t (p + 1) = 62 := ho
  refine ⟨g3, ?_, x, r3⟩
  unfold tailT evl
  rw [k1, jb2_some, k4, r1, jb2_some, r3.2.1.2, wI1_f, jg_pos (rgk rfl), if_pos rfl, r3.2.2, jg_pos ha]
  by_cases c : a = -1
  · rw [if_pos c, if_pos c]
    rfl
  · obtain ⟨m1, m2⟩ := hlv c g3 x
    have rn : rg (cqn t p).1 := ⟨by omega, by omega⟩
    have f1 : ∀ (P : Prop) (i : Decidable P), (@ite _ P i (some ((1 : Int), g3)) (some (0, g3))) = some (wI1 (@decide P i), g3) := fun P i => by
      by_cases z : P
      · rw [@if_pos _ i z, @decide_eq_true _ i z]
        rfl
      · rw [@if_neg _ i z, @decide_eq_false _ i z]
        rfl
    rw [if_neg c, if_neg c, m1, jb1_some, jg_pos (show rg (t (p + 1)) from ⟨by omega, by omega⟩)]
    rcases o3 with e | e | e
    · have e0 : (60 : Int) = 60 := rfl
      rw [e, if_pos e0, if_pos e0, jg_pos ⟨m2, rn⟩, f1]
    · have e0 : ¬ (61 : Int) = 60 := by decide
      have e1 : (61 : Int) = 61 := rfl
      rw [e, if_neg e0, if_neg e0, if_pos e1, if_pos e1, jg_pos ⟨m2, rn⟩, f1]
    · have e0 : ¬ (62 : Int) = 60 := by decide
      have e1 : ¬ (62 : Int) = 61 := by decide
      rw [e, if_neg e0, if_neg e0, if_neg e1, if_neg e1, jg_pos ⟨m2, rn⟩]
      by_cases z : lv a (t p) ≤ (cqn t p).1
      · rw [if_pos z, decide_eq_false (by omega)]
        rfl
      · rw [if_neg z, decide_eq_true (by omega)]
        rfl
theorem md_test_eq {t : Nat → Int} {L : Nat} (hE : endT t L) {a : Int} (ha : rg a) {g : gm_T} {p : Nat} (h : isP g L t a p false) (hp : p ≤ L) {lv : Int → Int → Int} (hlv : a ≠ -1 → isLt (t p) → ∀ g', exc W_ps nob g g' → md_letter g' (t p) = some (lv a (t p)) ∧ rg (lv a (t p))) : ∃ g2, md_test g = some (wI1 ((qtst t (evl lv) p).1 a), g2) ∧ exc W_ps nob g g2 ∧ isP g2 L t a (qtst t (evl lv) p).2.1 (qtst t (evl lv) p).2.2 := by
  have hb := isT_b1 h.1 p
  have hb1 := isT_b1 h.1 (p + 1)
  have h40 := h.2.1.1
  have h41 := h.2.1.2
  have L240 := h.1.2.1
  unfold md_test qtst
  rw [md_byteAt_eq h.1 h40 hp, jb1_some, h41, wI1_f, jg_pos (rgk rfl), if_pos rfl, md_isLetter_eq ⟨by omega, by omega⟩, jb_gd]
  by_cases c1 : isLt (t p)
  · have l1 := qlt_L hE (p := p) (by unfold isLt at c1; omega)
    rw [@if_pos _ (gd _) c1, @if_pos _ (gd _) c1, jb1_some, jg_pos (Or.inl rfl), jl_eq, gI_eq, jg_pos (rgk rfl), if_pos rfl, jb1_some, jl_eq, gI_ne (by decide), h40]
    obtain ⟨g9, hg9⟩ : ∃ g9, g9 = gm_wI (gm_wI g 44 41 0) 44 40 ((p : Int) + 1) := ⟨_, rfl⟩
    rw [← hg9]
    have x9 : exc W_ps nob g g9 := by
      rw [hg9]
      exact exc_wI (exc_wI exc_rf rfl) rfl
    have P9 : isP g9 L t a (p + 1) false := isP_w h x9 (by rw [hg9, gI_eq]; rfl) (by rw [hg9, gI_ne (by decide), gI_eq]; rfl)
    rw [md_byteAt_eq P9.1 P9.2.1.1 (by omega), jb1_some, P9.2.1.2, wI1_f, jg_pos (rgk rfl), if_pos rfl, jg_pos (show rg (t (p + 1)) from ⟨by omega, by omega⟩), op_if, jb1_some]
    by_cases c2 : isOp (t (p + 1))
    · have l2 := qlt_L hE (p := p + 1) (by unfold isOp at c2; omega)
      rw [@if_pos _ (gd _) c2, @if_pos _ (gd _) c2, jg_pos (Or.inl rfl), jl_eq, gI_eq, jg_pos (rgk rfl), if_pos rfl, jb1_some, jl_eq, gI_ne (by decide), P9.2.1.1]
      obtain ⟨gt, hgt⟩ : ∃ gt, gt = gm_wI (gm_wI g9 44 41 0) 44 40 (((p + 1 : Nat) : Int) + 1) := ⟨_, rfl⟩
      rw [← hgt]
      have xt : exc W_ps nob g9 gt := by
        rw [hgt]
        exact exc_wI (exc_wI exc_rf rfl) rfl
      have PT : isP gt L t a (p + 2) false := isP_w P9 xt (by rw [hgt, gI_eq]; rfl) (by rw [hgt, gI_ne (by decide), gI_eq]; rfl)
      by_cases c3 : isDg (t (p + 2))
      · rw [@if_pos _ (gd _) c3]
        obtain ⟨g2, r1, r2, r3⟩ := tailT_yes hE ha PT (by omega) c3 c2 (lv := lv) (fun z g' x => hlv z c1 g' (exc_tr (exc_tr x9 xt) x))
        exact ⟨g2, r1, exc_tr (exc_tr x9 xt) r2, r3⟩
      · rw [@if_neg _ (gd _) c3]
        obtain ⟨g2, r1, r2, r3⟩ := tailT_no (v1 := t p) (v10 := t (p + 1)) PT (by omega) (fun z => c3 z.2)
        exact ⟨g2, r1, exc_tr (exc_tr x9 xt) r2, r3⟩
    · rw [@if_neg _ (gd _) c2, @if_neg _ (gd _) c2, jg_pos (Or.inr rfl), jl_eq, gI_eq, jg_pos (rgk rfl), if_neg n10, jb1_some, jl_eq, gI_ne (by decide), P9.2.1.1]
      obtain ⟨gt, hgt⟩ : ∃ gt, gt = gm_wI (gm_wI g9 44 41 1) 44 40 (((p + 1 : Nat) : Int) + 0) := ⟨_, rfl⟩
      rw [← hgt]
      have xt : exc W_ps nob g9 gt := by
        rw [hgt]
        exact exc_wI (exc_wI exc_rf rfl) rfl
      have PT : isP gt L t a (p + 1) true := isP_w P9 xt (by rw [hgt, gI_eq, Int.add_zero]) (by rw [hgt, gI_ne (by decide), gI_eq]; rfl)
      obtain ⟨g2, r1, r2, r3⟩ := tailT_no (v1 := t p) (v10 := t (p + 1)) PT (by omega) (fun z => by cases z.1)
      exact ⟨g2, r1, exc_tr (exc_tr x9 xt) r2, r3⟩
  · rw [@if_neg _ (gd _) c1, @if_neg _ (gd _) c1, jb1_some, jg_pos (Or.inr rfl), jl_eq, gI_eq, jg_pos (rgk rfl), if_neg n10, jb1_some, jl_eq, gI_ne (by decide), h40]
    obtain ⟨g9, hg9⟩ : ∃ g9, g9 = gm_wI (gm_wI g 44 41 1) 44 40 ((p : Int) + 0) := ⟨_, rfl⟩
    rw [← hg9]
    have x9 : exc W_ps nob g g9 := by
      rw [hg9]
      exact exc_wI (exc_wI exc_rf rfl) rfl
    have P9 : isP g9 L t a p true := isP_w h x9 (by rw [hg9, gI_eq, Int.add_zero]) (by rw [hg9, gI_ne (by decide), gI_eq]; rfl)
    rw [md_byteAt_eq P9.1 P9.2.1.1 hp, jb1_some, P9.2.1.2, wI1_t, jg_pos (rgk rfl), if_neg n10, jb1_some, jg_pos (Or.inr rfl), jl_eq, gI_eq, jg_pos (rgk rfl), if_neg n10, jb1_some, jl_eq, gI_ne (by decide), P9.2.1.1]
    obtain ⟨gt, hgt⟩ : ∃ gt, gt = gm_wI (gm_wI g9 44 41 1) 44 40 ((p : Int) + 0) := ⟨_, rfl⟩
    rw [← hgt]
    have xt : exc W_ps nob g9 gt := by
      rw [hgt]
      exact exc_wI (exc_wI exc_rf rfl) rfl
    have PT : isP gt L t a p true := isP_w P9 xt (by rw [hgt, gI_eq, Int.add_zero]) (by rw [hgt, gI_ne (by decide), gI_eq]; rfl)
    obtain ⟨g2, r1, r2, r3⟩ := tailT_no (v1 := t p) (v10 := t p) PT hp (fun z => by cases z.1)
    exact ⟨g2, r1, exc_tr (exc_tr x9 xt) r2, r3⟩
