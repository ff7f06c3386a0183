/-! All that holds between the class's cells and the reference's, between calls. -/
def Ivt (n : Nat) (g : gm_T) : Prop := ((∃ P, IW n g P) ∧ V_way n g) ∧ V_clash g ∧ V_box n g ∧ V_skill g ∧ V_tape g ∧ V_photo g ∧ V_arr n g ∧ V_most g ∧ V_ask g
theorem Inv_scr {n : Nat} {g h : gm_T} (x : exc scr scrJ g h) (I : Ivt n g) : Ivt n h := by
  obtain ⟨⟨⟨P, w⟩, v⟩, c, b, s, t, p, a, m, k⟩ := I
  have e := keepI_exc x dj_scr_I dj_scrJ_rJI
  exact ⟨⟨⟨P, IW_I e w⟩, V_way_F (keepF_I e) v⟩, V_clash_tr x dj_scr_cl c, V_box_tr (Nat.le_refl _) x dj_scr_bx b, V_skill_tr x dj_scr_sk s, V_tape_tr x dj_scr_tp t, V_photo_tr x dj_scr_ph p, V_arr_tr (Nat.le_refl _) x dj_scr_ar dj_scrJ_RJ_arr a, V_most_t x dj_scr_mo m, V_ask_tr x dj_scr_as k⟩
theorem Inv_list {n : Nat} {g h : gm_T} (x : exc W_list nob g h) (I : Ivt n g) : Ivt n h := Inv_scr (scr_list x) I
theorem Inv_skill {n : Nat} {g h : gm_T} (x : exc W_skill nob g h) (V : V_skill h) (I : Ivt n g) : Ivt n h := by
  obtain ⟨⟨⟨P, w⟩, v⟩, c, b, -, t, p, a, m, k⟩ := I
  have e := keepI_exc x dj_skill_I (dj_nob _)
  exact ⟨⟨⟨P, IW_I e w⟩, V_way_F (keepF_I e) v⟩, V_clash_tr x dj_skill_cl c, V_box_tr (Nat.le_refl _) x dj_skill_bx b, V, V_tape_tr x dj_skill_tp t, V_photo_tr x dj_skill_ph p, V_arr_tr (Nat.le_refl _) x dj_skill_ar (dj_nob _) a, V_most_t x dj_skill_mo m, V_ask_tr x dj_skill_as k⟩
theorem Inv_box {n : Nat} {g h : gm_T} (x : exc W_box nob g h) (V : V_box n h) (I : Ivt n g) : Ivt n h := by
  obtain ⟨⟨⟨P, w⟩, v⟩, c, -, s, t, p, a, m, k⟩ := I
  have e := keepI_exc x dj_box_I (dj_nob _)
  exact ⟨⟨⟨P, IW_I e w⟩, V_way_F (keepF_I e) v⟩, V_clash_tr x dj_box_cl c, V, V_skill_tr x dj_box_sk s, V_tape_tr x dj_box_tp t, V_photo_tr x dj_box_ph p, V_arr_tr (Nat.le_refl _) x dj_box_ar (dj_nob _) a, V_most_t x dj_box_mo m, V_ask_tr x dj_box_as k⟩
theorem Inv_tape {n : Nat} {g h : gm_T} (x : exc W_tape nob g h) (V : V_tape h) (I : Ivt n g) : Ivt n h := by
  obtain ⟨⟨⟨P, w⟩, v⟩, c, b, s, -, p, a, m, k⟩ := I
  have e := keepI_exc x dj_tape_I (dj_nob _)
  exact ⟨⟨⟨P, IW_I e w⟩, V_way_F (keepF_I e) v⟩, V_clash_tr x dj_tape_cl c, V_box_tr (Nat.le_refl _) x dj_tape_bx b, V_skill_tr x dj_tape_sk s, V, V_photo_tr x dj_tape_ph p, V_arr_tr (Nat.le_refl _) x dj_tape_ar (dj_nob _) a, V_most_t x dj_tape_mo m, V_ask_tr x dj_tape_as k⟩
theorem Inv_wd {n : Nat} {g h : gm_T} {P2 : Nat → plc} (x : exc wd scrJ g h) (w : IW n h P2) (I : Ivt n g) : Ivt n h := by
  obtain ⟨⟨-, v⟩, c, b, s, t, p, a, m, k⟩ := I
  exact ⟨⟨⟨P2, w⟩, V_way_t x dj_wd_wy v⟩, V_clash_tr x dj_wd_cl c, V_box_tr (Nat.le_refl _) x dj_wd_bx b, V_skill_tr x dj_wd_sk s, V_tape_tr x dj_wd_tp t, V_photo_tr x dj_wd_ph p, V_arr_tr (Nat.le_refl _) x dj_wd_ar dj_scrJ_RJ_arr a, V_most_t x dj_wd_mo m, V_ask_tr x dj_wd_as k⟩
theorem Inv_wk {n : Nat} {g h : gm_T} (x : exc wk jk g h) (w : ∃ P2, IW n h P2) (c : V_clash h) (I : Ivt n g) : Ivt n h := by
  obtain ⟨⟨-, v⟩, -, b, s, t, p, a, m, k⟩ := I
  exact ⟨⟨w, V_way_t x dj_wk_wy v⟩, c, V_box_tr (Nat.le_refl _) x dj_wk_bx b, V_skill_tr x dj_wk_sk s, V_tape_tr x dj_wk_tp t, V_photo_tr x dj_wk_ph p, V_arr_tr (Nat.le_refl _) x dj_wk_ar dj_jk_RJ_arr a, V_most_t x dj_wk_mo m, V_ask_tr x dj_wk_as k⟩
theorem Inv_wj {n : Nat} {g h : gm_T} (x : exc wj jj g h) (w : ∃ P2, IW n h P2) (c : V_clash h) (I : Ivt n g) : Ivt n h := by
  obtain ⟨⟨-, v⟩, -, b, s, t, p, a, m, k⟩ := I
  exact ⟨⟨w, V_way_t x dj_wj_wy v⟩, c, V_box_tr (Nat.le_refl _) x dj_wj_bx b, V_skill_tr x dj_wj_sk s, V_tape_tr x dj_wj_tp t, V_photo_tr x dj_wj_ph p, V_arr_tr (Nat.le_refl _) x dj_wj_ar dj_jj_RJ_arr a, V_most_t x dj_wj_mo m, V_ask_tr x dj_wj_as k⟩
theorem Inv_pho {n : Nat} {g h : gm_T} (x : exc W_pho scrJ g h) (VT : V_tape h) (VP : V_photo h) (I : Ivt n g) : Ivt n h := by
  obtain ⟨⟨⟨P, w⟩, v⟩, c, b, s, -, -, a, m, k⟩ := I
  have e := keepI_exc x dj_pho_I dj_scrJ_rJI
  exact ⟨⟨⟨P, IW_I e w⟩, V_way_F (keepF_I e) v⟩, V_clash_tr x dj_pho_cl c, V_box_tr (Nat.le_refl _) x dj_pho_bx b, V_skill_tr x dj_pho_sk s, VT, VP, V_arr_tr (Nat.le_refl _) x dj_pho_ar dj_scrJ_RJ_arr a, V_most_t x dj_pho_mo m, V_ask_tr x dj_pho_as k⟩
theorem Inv_arr {n : Nat} {g h : gm_T} (x : exc W_arr J_sv g h) (VA : V_arr n h) (I : Ivt n g) : Ivt n h := by
  obtain ⟨⟨⟨P, w⟩, v⟩, c, b, s, t, p, -, m, k⟩ := I
  have e := keepI_exc x dj_arr_I dj_J_sv_rJI
  exact ⟨⟨⟨P, IW_I e w⟩, V_way_F (keepF_I e) v⟩, V_clash_tr x dj_arr_cl c, V_box_tr (Nat.le_refl _) x dj_arr_bx b, V_skill_tr x dj_arr_sk s, V_tape_tr x dj_arr_tp t, V_photo_tr x dj_arr_ph p, VA, V_most_t x dj_arr_mo m, V_ask_tr x dj_arr_as k⟩
theorem Inv_sh {n : Nat} {g h : gm_T} (x : exc W_sh scrJ g h) (VM : V_most h) (I : Ivt n g) : Ivt n h := by
  obtain ⟨⟨⟨P, w⟩, v⟩, c, b, s, t, p, a, -, k⟩ := I
  have e := keepI_exc x dj_sh_I dj_scrJ_rJI
  exact ⟨⟨⟨P, IW_I e w⟩, V_way_F (keepF_I e) v⟩, V_clash_tr x dj_sh_cl c, V_box_tr (Nat.le_refl _) x dj_sh_bx b, V_skill_tr x dj_sh_sk s, V_tape_tr x dj_sh_tp t, V_photo_tr x dj_sh_ph p, V_arr_tr (Nat.le_refl _) x dj_sh_ar dj_scrJ_RJ_arr a, VM, V_ask_tr x dj_sh_as k⟩
theorem Inv_ask {n : Nat} {g h : gm_T} (x : exc W_ask scrJ g h) (VT : V_tape h) (VA : V_ask h) (I : Ivt n g) : Ivt n h := by
  obtain ⟨⟨⟨P, w⟩, v⟩, c, b, s, -, p, a, m, -⟩ := I
  have e := keepI_exc x dj_ask_I dj_scrJ_rJI
  exact ⟨⟨⟨P, IW_I e w⟩, V_way_F (keepF_I e) v⟩, V_clash_tr x dj_ask_cl c, V_box_tr (Nat.le_refl _) x dj_ask_bx b, V_skill_tr x dj_ask_sk s, VT, V_photo_tr x dj_ask_ph p, V_arr_tr (Nat.le_refl _) x dj_ask_ar dj_scrJ_RJ_arr a, V_most_t x dj_ask_mo m, VA⟩
-- tolerance and likeness
def T_tl (a k : Nat) : Bool := (a == 10 && k == 2) || (a == 44 && k == 20) || a == 12 || a == 62
def keepT (g : gm_T) : gm_T := (fun a k => if T_tl a k = true then 0 else g.1 a k, g.2)
theorem keepT_exc {W : Nat → Nat → Bool} {g h : gm_T} (x : exc W nob g h) (hw : ∀ a k, W a k = true → T_tl a k = true) : keepT h = keepT g := by
  unfold keepT
  refine Prod.ext ?_ ?_
  · funext a k
    dsimp only
    split
    · rfl
    · rename_i q
      exact x.1 a k (by
        cases hq : W a k with
        | false => rfl
        | true => exact absurd (hw a k hq) q)
  · funext a k
    exact x.2 a k rfl
theorem T_tl_hi {a k : Nat} (h : 63 ≤ a) : T_tl a k = false := by
  cases e : T_tl a k with
  | false => rfl
  | true =>
    exfalso
    simp only [T_tl, Bool.or_eq_true, Bool.and_eq_true, beq_iff_eq] at e
    omega
theorem V_bit_T {n : Nat} {W : Nat → Nat → Bool} {g h : gm_T} (x : exc W nob g h) (hw : ∀ a k, W a k = true → T_tl a k = true) (V : V_bit n g) : V_bit n h := by
  have o : ∀ a k, T_tl a k = false → gm_I h a k = gm_I g a k := fun a k q => x.1 a k (by
    cases hq : W a k with
    | false => rfl
    | true => rw [hw a k hq] at q; cases q)
  exact V_bit_keep V (fun b c j _ _ => o _ _ (T_tl_hi (by unfold bA; omega))) (fun b _ => ⟨o _ _ rfl, o _ _ rfl, o _ _ rfl, o _ _ rfl, o _ _ rfl, o _ _ rfl, o _ _ rfl⟩) (fun j _ => ⟨o _ _ rfl, o _ _ rfl, o _ _ rfl⟩) (fun j _ => ⟨o _ _ rfl, o _ _ rfl, o _ _ rfl⟩)
theorem IW_T {n : Nat} {g h : gm_T} {P : Nat → plc} (e : keepT h = keepT g) (b : V_bit n h) (t : V_tol h) (l : V_like h) (s : V_sym h) (w : IW n g P) : IW n h P := by
  obtain ⟨⟨n1, -, c1, -, -, t1, -⟩, j, r, u⟩ := w
  have n2 : V_num n (keepT g) := n1
  have c2 : V_cell n (keepT g) := c1
  have t2 : V_tab n (keepT g) := t1
  have j2 : V_jn n (keepT g) := j
  have r2 : V_grp n (keepT g) := r
  have u2 : isW n (keepT g) P := u
  rw [← e] at n2 c2 t2 j2 r2 u2
  exact ⟨⟨n2, b, c2, t, l, t2, s⟩, j2, r2, u2⟩
theorem Inv_tol {n : Nat} {g h : gm_T} (x : exc W_tol nob g h) (V : V_tol h) (I : Ivt n g) : Ivt n h := by
  obtain ⟨⟨⟨P, w⟩, v⟩, c, b, s, t, p, a, m, k⟩ := I
  have hw : ∀ a k, W_tol a k = true → T_tl a k = true := fun a k q => by
    simp only [W_tol, Bool.or_eq_true, Bool.and_eq_true, beq_iff_eq] at q
    rcases q with ⟨rfl, rfl⟩ | ⟨rfl, rfl⟩ <;> rfl
  have hl : V_like h := fun j hj => by
    rw [x.1 12 j rfl, x.1 62 j rfl]
    exact w.1.2.2.2.2.1 j hj
  have hs : V_sym h := fun i j hi hj => by
    rw [x.1 62 _ rfl, x.1 62 _ rfl]
    exact w.1.2.2.2.2.2.2 i j hi hj
  exact ⟨⟨⟨P, IW_T (keepT_exc x hw) (V_bit_T x hw w.1.2.1) V hl hs w⟩, V_way_t x dj_tol_wy v⟩, V_clash_tr x dj_tol_cl c, V_box_tr (Nat.le_refl _) x dj_tol_bx b, V_skill_tr x dj_tol_sk s, V_tape_tr x dj_tol_tp t, V_photo_tr x dj_tol_ph p, V_arr_tr (Nat.le_refl _) x dj_tol_ar (dj_nob _) a, V_most_t x dj_tol_mo m, V_ask_tr x dj_tol_as k⟩
theorem Inv_like {n : Nat} {g h : gm_T} (x : exc W_like nob g h) (V : V_like h) (VS : V_sym h) (I : Ivt n g) : Ivt n h := by
  obtain ⟨⟨⟨P, w⟩, v⟩, c, b, s, t, p, a, m, k⟩ := I
  have hw : ∀ a k, W_like a k = true → T_tl a k = true := fun a k q => by
    simp only [W_like, Bool.or_eq_true, beq_iff_eq] at q
    rcases q with rfl | rfl <;> rfl
  have ht : V_tol h := by
    have w4 := w.1.2.2.2.1
    unfold V_tol at w4 ⊢
    rw [x.1 10 2 rfl, x.1 44 20 rfl]
    exact w4
  exact ⟨⟨⟨P, IW_T (keepT_exc x hw) (V_bit_T x hw w.1.2.1) ht V VS w⟩, V_way_t x dj_like_wy v⟩, V_clash_tr x dj_like_cl c, V_box_tr (Nat.le_refl _) x dj_like_bx b, V_skill_tr x dj_like_sk s, V_tape_tr x dj_like_tp t, V_photo_tr x dj_like_ph p, V_arr_tr (Nat.le_refl _) x dj_like_ar (dj_nob _) a, V_most_t x dj_like_mo m, V_ask_tr x dj_like_as k⟩
theorem op_likeness2 {g : gm_T} (h : V_like g) (hs : V_sym g) {a b c : Int} (ha : rg a) (hb : rg b) (hc : rg c) : ∃ r g1 g2, cw_likeness g a b c = some (r, g1) ∧ md_likeness g1 a b c = some (r, g2) ∧ V_like g2 ∧ V_sym g2 ∧ exc W_like nob g g2 := by
  obtain ⟨r, g1, g2, e1, e2, v, x⟩ := op_likeness h ha hb hc
  refine ⟨r, g1, g2, e1, e2, v, ?_, x⟩
  clear v x
  unfold cw_likeness at e1
  unfold md_likeness at e2
  simp only [cw_isDigit_eq ha, cw_isDigit_eq hb, cw_isDigit_eq hc, md_in_eq ha (rgk rfl : rg 0) (rgk rfl : rg 9), md_in_eq hb (rgk rfl : rg 0) (rgk rfl : rg 9), md_in_eq hc (rgk rfl : rg 0) (rgk rfl : rg 9), jb_tst, jl_eq] at e1 e2
  by_cases h1 : 0 ≤ a ∧ a ≤ 9
  · by_cases h2 : 0 ≤ b ∧ b ≤ 9
    · by_cases h3 : 0 ≤ c ∧ c ≤ 9
      · simp only [if_pos h1, if_pos h2, if_pos h3] at e1 e2
        rw [jg_pos (by omega), jg_pos (by omega)] at e1 e2
        have e3 := (Prod.mk.inj (Option.some.inj e1)).2
        have e4 := (Prod.mk.inj (Option.some.inj e2)).2
        rw [← e4, ← e3]
        intro p q hp hq
        have w := hs p q hp hq
        simp only [gI_wI]
        simp
        repeat' split
        all_goals first | rfl | exact w | (exfalso; omega)
      · simp only [if_pos h1, if_pos h2, if_neg h3] at e1 e2
        rw [← (Prod.mk.inj (Option.some.inj e2)).2, ← (Prod.mk.inj (Option.some.inj e1)).2]; exact hs
    · simp only [if_pos h1, if_neg h2] at e1 e2
      rw [← (Prod.mk.inj (Option.some.inj e2)).2, ← (Prod.mk.inj (Option.some.inj e1)).2]; exact hs
  · simp only [if_neg h1] at e1 e2
    rw [← (Prod.mk.inj (Option.some.inj e2)).2, ← (Prod.mk.inj (Option.some.inj e1)).2]; exact hs
