/-! The photograph: best, the reference's search; the operation best. -/
def un5 (s : bst) : Int × Int × Int × Int × Int := (s.1, s.2.1.1, s.2.1.2.1, s.2.1.2.2, s.2.2)
theorem md_lies_eq {n : Nat} {g : gm_T} (VB : V_bit n g) {W H D : Nat} {M : Nat → Nat} (h : isPh g W H D M) {b : Nat} (hb : b < n) (h30 : n ≤ 30) {t x y : Int} (ht : 0 ≤ t ∧ t ≤ 3) (hx : -1000 ≤ x ∧ x ≤ 1000) (hy : -1000 ≤ y ∧ y ≤ 1000) {m : Nat} (hm : gm_I g 50 b = (m : Int)) : md_lies g (b : Int) t x y = some (@ite _ (lie g W H b m t x y) (gd _) 1 0) := by
  obtain ⟨-, -, ⟨-, m2, m3⟩, -⟩ := VB b hb
  have h1 := (md_lies_lp VB h hb h30 ht hx hy hm m 0 fz (by omega) (Nat.lt_of_le_of_lt (show m ≤ 300 by omega) (fz_gt rfl))).2
  have e : (∀ j, 0 ≤ j → j < m → (0 ≤ cX t (gm_I g 51 (5 * b + j)) (gm_I g 52 (5 * b + j)) + x - gm_I g 44 61 ∧ cX t (gm_I g 51 (5 * b + j)) (gm_I g 52 (5 * b + j)) + x - gm_I g 44 61 ≤ (W : Int) - 1) ∧ 0 ≤ cY t (gm_I g 51 (5 * b + j)) (gm_I g 52 (5 * b + j)) + y - gm_I g 44 62 ∧ cY t (gm_I g 51 (5 * b + j)) (gm_I g 52 (5 * b + j)) + y - gm_I g 44 62 ≤ (H : Int) - 1) ↔ lie g W H b m t x y := ⟨fun z k hk => z k (Nat.zero_le k) hk, fun z k _ hk => z k hk⟩
  unfold md_lies
  rw [jl_eq, show 5 * (b : Int) = ((5 * b + 0 : Nat) : Int) by omega, h1, jb1_some]
  by_cases z : lie g W H b m t x y
  · rw [@if_pos _ (gd _) z, @if_pos _ (gd _) (e.mpr z), jg_pos (Or.inr rfl)]
  · rw [@if_neg _ (gd _) z, @if_neg _ (gd _) (fun q => z (e.mp q)), jg_pos (Or.inl rfl)]
theorem md_cols {n : Nat} {g : gm_T} (VB : V_bit n g) {W H D : Nat} {M : Nat → Nat} (h : isPh g W H D M) {b : Nat} (hb : b < n) (h30 : n ≤ 30) {t : Int} (ht : 0 ≤ t ∧ t ≤ 3) {m : Nat} (hm : gm_I g 50 b = (m : Int)) (m5 : 1 ≤ m ∧ m ≤ 5) {v c61 : Int} (hv : 0 ≤ v ∧ v < (H : Int)) : ∀ (d fuel u : Nat) (s : bst), u + d = W → d < fuel → (-1 ≤ s.1 ∧ s.1 ≤ 1000) → md_best_l84 g (b : Int) c61 (5 * (b : Int)) t v fuel s.1 s.2.1.1 s.2.1.2.1 s.2.1.2.2 s.2.2 (u : Int) = some (un5 (fx (rcol g W H D b m t (gm_I g 44 62 + v - mkY g b t 0)) d (gm_I g 44 61 + (u : Int) - mkX g b t 0) s)) := by
  obtain ⟨w, hh, -, ⟨-, e59⟩, ⟨-, e60⟩, ⟨-, x1, x2⟩, ⟨-, y1, y2⟩, -⟩ := id h
  obtain ⟨-, -, -, mk, -⟩ := VB b hb
  obtain ⟨⟨-, a1, a2⟩, ⟨-, a3, a4⟩, -⟩ := mk 0 (by omega)
  have hr := c_20 (t := t) ⟨a1, a2⟩ ⟨a3, a4⟩
  have eX : cX t (gm_I g 51 (5 * b + 0)) (gm_I g 52 (5 * b + 0)) = mkX g b t 0 := rfl
  have eY : cY t (gm_I g 51 (5 * b + 0)) (gm_I g 52 (5 * b + 0)) = mkY g b t 0 := rfl
  rw [eX, eY] at hr
  intro d
  induction d with
  | zero =>
    intro fuel u s hd hf hs
    obtain ⟨f, rfl⟩ : ∃ f, fuel = f + 1 := ⟨fuel - 1, by omega⟩
    unfold md_best_l84
    rw [e59, jg_pos ⟨rgn (by omega), rgn (by omega)⟩, if_neg (by omega)]
    rfl
  | succ d ih =>
    intro fuel u s hd hf hs
    obtain ⟨f, rfl⟩ : ∃ f, fuel = f + 1 := ⟨fuel - 1, by omega⟩
    obtain ⟨Y, hY⟩ : ∃ Y, Y = gm_I g 44 62 + v - mkY g b t 0 := ⟨_, rfl⟩
    obtain ⟨X, hX⟩ : ∃ X, X = gm_I g 44 61 + (u : Int) - mkX g b t 0 := ⟨_, rfl⟩
    have hu : (u : Int) < (W : Int) := by omega
    have nx : ∀ s2, (-1 ≤ s2.1 ∧ s2.1 ≤ 1000) → md_best_l84 g (b : Int) c61 (5 * (b : Int)) t v f s2.1 s2.2.1.1 s2.2.1.2.1 s2.2.1.2.2 s2.2.2 ((u : Int) + 1) = some (un5 (fx (rcol g W H D b m t Y) d (X + 1) s2)) := fun s2 hs2 => by
      have q := ih f (u + 1) s2 (by omega) (by omega) hs2
      rw [← hY, show gm_I g 44 61 + ((u + 1 : Nat) : Int) - mkX g b t 0 = X + 1 by omega] at q
      exact q
    have hfx : fx (rcol g W H D b m t Y) (d + 1) X s = fx (rcol g W H D b m t Y) d (X + 1) (rcol g W H D b m t Y X s) := rfl
    have hA := ct_le (agB g W H D b t X Y) m
    have hag : agn g W H D b m t X Y = ((ct (agB g W H D b t X Y) m : Nat) : Int) := rfl
    have a0 : 0 ≤ agn g W H D b m t X Y ∧ agn g W H D b m t X Y ≤ 5 := by omega
    unfold md_best_l84
    rw [e59, jg_pos ⟨rgn (by omega), rgn (by omega)⟩, if_pos hu, jg_pos (by omega), show (5 * (b : Int)).toNat = 5 * b + 0 by omega, md_cellX_eq ht (by omega) (by omega), eX, jb1_some, jl_eq, md_cellY_eq ht (by omega) (by omega), eY, jb1_some, jl_eq, ← hY, ← hX, md_lies_eq VB h hb h30 ht (by omega) (by omega) hm, jb_gd, hfx]
    by_cases z : lie g W H b m t X Y
    · rw [@if_pos _ (gd _) z, md_agrees_eq VB h hb h30 ht (by omega) (by omega) hm, jb1_some, ← hag]
      have hrg : rg (agn g W H D b m t X Y) ∧ rg s.1 := ⟨⟨by omega, by omega⟩, by omega, by omega⟩
      simp only [jg_pos hrg]
      have hcol : rcol g W H D b m t Y X s = stp (agn g W H D b m t X Y) (t, X, Y) s := by
        unfold rcol
        rw [@if_pos _ (gd _) z]
      rw [hcol]
      unfold stp
      by_cases c1 : agn g W H D b m t X Y ≤ s.1
      · simp only [if_pos c1, jb1_some]
        by_cases c2 : agn g W H D b m t X Y = s.1
        · simp only [if_pos c2, jb1_some]
          exact nx (s.1, s.2.1, s.2.2 + 1) hs
        · simp only [if_neg c2, jb1_some]
          exact nx s hs
      · simp only [if_neg c1, jb1_some]
        exact nx (agn g W H D b m t X Y, (t, X, Y), 0) (by dsimp only; omega)
    · rw [@if_neg _ (gd _) z]
      have hcol : rcol g W H D b m t Y X s = s := by
        unfold rcol
        rw [@if_neg _ (gd _) z]
      rw [hcol]
      exact nx s hs
theorem md_rows {n : Nat} {g : gm_T} (VB : V_bit n g) {W H D : Nat} {M : Nat → Nat} (h : isPh g W H D M) {b : Nat} (hb : b < n) (h30 : n ≤ 30) {t : Int} (ht : 0 ≤ t ∧ t ≤ 3) {m : Nat} (hm : gm_I g 50 b = (m : Int)) (m5 : 1 ≤ m ∧ m ≤ 5) {c61 : Int} : ∀ (d fuel v : Nat) (s : bst), v + d = H → d < fuel → (-1 ≤ s.1 ∧ s.1 ≤ 1000) → md_best_l72 g (b : Int) c61 (5 * (b : Int)) t fuel s.1 s.2.1.1 s.2.1.2.1 s.2.1.2.2 s.2.2 (v : Int) = some (un5 (fx (rrow g W H D b m t) d (gm_I g 44 62 + (v : Int) - mkY g b t 0) s)) := by
  obtain ⟨w, hh, -, ⟨-, e59⟩, ⟨-, e60⟩, -⟩ := id h
  intro d
  induction d with
  | zero =>
    intro fuel v s hd hf hs
    obtain ⟨f, rfl⟩ : ∃ f, fuel = f + 1 := ⟨fuel - 1, by omega⟩
    unfold md_best_l72
    rw [e60, jg_pos ⟨rgn (by omega), rgn (by omega)⟩, if_neg (by omega)]
    rfl
  | succ d ih =>
    intro fuel v s hd hf hs
    obtain ⟨f, rfl⟩ : ∃ f, fuel = f + 1 := ⟨fuel - 1, by omega⟩
    have k1 := md_cols VB h hb h30 ht hm m5 (v := (v : Int)) (c61 := c61) ⟨by omega, by omega⟩ W fz 0 s (by omega) (Nat.lt_of_le_of_lt (show W ≤ 300 by omega) (fz_gt rfl)) hs
    rw [show gm_I g 44 61 + ((0 : Nat) : Int) - mkX g b t 0 = gm_I g 44 61 - mkX g b t 0 by omega] at k1
    have nx := ih f (v + 1) (rrow g W H D b m t (gm_I g 44 62 + (v : Int) - mkY g b t 0) s) (by omega) (by omega) (fx_b (rcol_b m5.2) _ _ s hs)
    rw [show gm_I g 44 62 + ((v + 1 : Nat) : Int) - mkY g b t 0 = gm_I g 44 62 + (v : Int) - mkY g b t 0 + 1 by omega] at nx
    unfold md_best_l72
    rw [e60, jg_pos ⟨rgn (by omega), rgn (by omega)⟩, if_pos (by omega), show md_best_l84 g (b : Int) c61 (5 * (b : Int)) t (v : Int) fz s.1 s.2.1.1 s.2.1.2.1 s.2.1.2.2 s.2.2 0 = _ from k1]
    exact nx
theorem md_turns {n : Nat} {g : gm_T} (VB : V_bit n g) {W H D : Nat} {M : Nat → Nat} (h : isPh g W H D M) {b : Nat} (hb : b < n) (h30 : n ≤ 30) {m : Nat} (hm : gm_I g 50 b = (m : Int)) (m5 : 1 ≤ m ∧ m ≤ 5) {c61 : Int} : ∀ (d fuel t : Nat) (s : bst), t + d = 4 → d < fuel → (-1 ≤ s.1 ∧ s.1 ≤ 1000) → md_best_l63 g (b : Int) c61 (5 * (b : Int)) fuel s.1 s.2.1.1 s.2.1.2.1 s.2.1.2.2 s.2.2 (t : Int) = some (un5 (fx (rturn g W H D b m) d (t : Int) s)) := by
  obtain ⟨w, hh, -⟩ := id h
  intro d
  induction d with
  | zero =>
    intro fuel t s hd hf hs
    obtain ⟨f, rfl⟩ : ∃ f, fuel = f + 1 := ⟨fuel - 1, by omega⟩
    unfold md_best_l63
    rw [jg_pos (rgn (by omega)), if_neg (by omega)]
    rfl
  | succ d ih =>
    intro fuel t s hd hf hs
    obtain ⟨f, rfl⟩ : ∃ f, fuel = f + 1 := ⟨fuel - 1, by omega⟩
    have k1 := md_rows VB h hb h30 (t := (t : Int)) (by omega) hm m5 (c61 := c61) H fz 0 s (by omega) (Nat.lt_of_le_of_lt (show H ≤ 300 by omega) (fz_gt rfl)) hs
    rw [show gm_I g 44 62 + ((0 : Nat) : Int) - mkY g b (t : Int) 0 = gm_I g 44 62 - mkY g b (t : Int) 0 by omega] at k1
    have nx := ih f (t + 1) (rturn g W H D b m (t : Int) s) (by omega) (by omega) (rturn_b m5.2 _ s hs)
    unfold md_best_l63
    rw [jg_pos (rgn (by omega)), if_pos (by omega), show md_best_l72 g (b : Int) c61 (5 * (b : Int)) (t : Int) fz s.1 s.2.1.1 s.2.1.2.1 s.2.1.2.2 s.2.2 0 = _ from k1]
    exact nx
theorem sAll_bs {g g2 : gm_T} (x : exc W_bs J_bs g g2) (W H D b m : Nat) : sAll g2 W H D b m = sAll g W H D b m := by
  have hl : ∀ t u v, lie g2 W H b m t u v = lie g W H b m t u v := fun t u v => by
    unfold lie
    simp only [fun k => x.1 51 k rfl, fun k => x.1 52 k rfl, x.1 44 61 rfl, x.1 44 62 rfl]
  have hc : rcol g2 W H D b m = rcol g W H D b m := by
    funext t y u s
    unfold rcol agn
    rw [agB_bs x, hl]
  unfold sAll
  have hr : rturn g2 W H D b m = rturn g W H D b m := by
    funext t s
    unfold rturn
    rw [x.1 44 62 rfl, (mkXY_bs x b t).2]
    congr 1
    funext y s
    unfold rrow
    rw [x.1 44 61 rfl, (mkXY_bs x b t).1, hc]
  rw [hr]
/-- once something was found, the best placing lies in bounds -/
def bpS (s : bst) : Prop := 0 ≤ s.1 → bpl 1000 s.2.1
theorem fx_p {f : Int → bst → bst} {P : bst → Prop} {lo hi : Int} (hf : ∀ u s, lo ≤ u → u < hi → P s → P (f u s)) : ∀ (d : Nat) (u : Int) (s : bst), lo ≤ u → u + (d : Int) ≤ hi → P s → P (fx f d u s)
  | 0, _, _, _, _, h => h
  | d + 1, u, s, h1, h2, h => fx_p hf d (u + 1) (f u s) (by omega) (by omega) (hf u s h1 (by omega) h)
theorem sAll_p {n : Nat} {g : gm_T} (VB : V_bit n g) {W H D : Nat} {M : Nat → Nat} (h : isPh g W H D M) {b : Nat} (hb : b < n) {m : Nat} (hm : gm_I g 50 b = (m : Int)) (m1 : 1 ≤ m) : bpS (sAll g W H D b m) := by
  obtain ⟨w, hh, -, -, -, ⟨-, x1, x2⟩, ⟨-, y1, y2⟩, -⟩ := id h
  obtain ⟨-, -, -, mk, -⟩ := VB b hb
  obtain ⟨⟨-, a1, a2⟩, ⟨-, a3, a4⟩, -⟩ := mk 0 (by omega)
  unfold sAll
  refine fx_p (lo := 0) (hi := 4) (fun t s t1 t2 hs => ?_) 4 0 s_0 (by decide) (by decide) (fun z => absurd z (by decide))
  have hr : (-20 ≤ mkX g b t 0 ∧ mkX g b t 0 ≤ 19) ∧ -20 ≤ mkY g b t 0 ∧ mkY g b t 0 ≤ 19 := c_20 (t := t) ⟨a1, a2⟩ ⟨a3, a4⟩
  unfold rturn
  refine fx_p (lo := gm_I g 44 62 - mkY g b t 0) (hi := gm_I g 44 62 - mkY g b t 0 + (H : Int)) (fun y s y3 y4 hs => ?_) H _ s (Int.le_refl _) (Int.le_refl _) hs
  unfold rrow
  refine fx_p (lo := gm_I g 44 61 - mkX g b t 0) (hi := gm_I g 44 61 - mkX g b t 0 + (W : Int)) (fun u s u3 u4 hs => ?_) W _ s (Int.le_refl _) (Int.le_refl _) hs
  unfold rcol
  by_cases z : lie g W H b m t u y
  · rw [@if_pos _ (gd _) z]
    unfold stp
    by_cases c1 : agn g W H D b m t u y ≤ s.1
    · rw [if_pos c1]
      by_cases c2 : agn g W H D b m t u y = s.1
      · rw [if_pos c2]
        exact hs
      · rw [if_neg c2]
        exact hs
    · rw [if_neg c1]
      intro _
      unfold bpl
      dsimp only
      omega
  · rw [@if_neg _ (gd _) z]
    exact hs
theorem op_best {n : Nat} {g : gm_T} (I : I_fit n g) (VP : V_photo g) {a w : Int} (ha : rg a) (hw : rg w) : ∃ r g1, cw_best n g a w = some (r, g1) ∧ md_best g1 a w = some r ∧ exc scr scrJ g g1 := by
  have hn := I.1
  have h30 := hn.2.2
  have VBx : ∀ g', exc W_bs J_bs g g' → V_bit n g' := fun g' x => (I_fit_tr (keepF_A (keepA_scr (scr_bs x))) I).2.1
  have nope : ∀ r, cw_best n g a w = some (r, g) → md_best g a w = some r → ∃ r g1, cw_best n g a w = some (r, g1) ∧ md_best g1 a w = some r ∧ exc scr scrJ g g1 := fun r h1 h2 => ⟨r, g, h1, h2, exc_rf⟩
  by_cases h1 : 0 ≤ a ∧ a < (n : Int)
  rotate_left
  · refine nope (-100000) ?_ ?_
    · unfold cw_best
      rw [cw_isBit_eq hn ha, jb_tst, if_neg h1]
    · unfold md_best
      rw [md_isBit_eq hn ha, jb_tst, if_neg h1]
  by_cases h2 : 0 ≤ w ∧ w ≤ 4
  rotate_left
  · refine nope (-100000) ?_ ?_
    · unfold cw_best
      rw [cw_isBit_eq hn ha, jb_tst, if_pos h1, jg_pos hw]
      by_cases z : w < 0
      · rw [if_pos z]
      · rw [if_neg z, if_neg (by omega)]
    · unfold md_best
      rw [md_isBit_eq hn ha, jb_tst, if_pos h1, md_in_eq hw (rgk rfl) (rgk rfl), jb_tst, if_neg h2]
  obtain ⟨b, rfl⟩ : ∃ b : Nat, a = (b : Int) := ⟨_, (Int.toNat_of_nonneg h1.1).symm⟩
  have hb : b < n := by omega
  have hwn : ∀ (A B : Option (Int × gm_T)), jg (rg w) (if w < 0 then A else if w ≤ 4 then B else A) = B := fun A B => by
    rw [jg_pos hw, if_neg (by omega), if_pos h2.2]
  rcases V_photo_cs VP with ⟨z1, z2⟩ | ⟨W, H, D, M, h⟩
  · refine nope (-100001) ?_ ?_
    · unfold cw_best cp_isThere
      rw [cw_isBit_eq hn ha, jb_tst, if_pos h1, hwn, z1, jg_pos (rgk rfl), if_pos (by decide), jb1_some, jg_pos (rgk rfl), if_pos rfl]
    · unfold md_best
      rw [md_isBit_eq hn ha, jb_tst, if_pos h1, md_in_eq hw (rgk rfl) (rgk rfl), jb_tst, if_pos h2, z2, jg_pos (rgk rfl), if_pos rfl]
  · have wW := h.1
    have e1 := h.2.2.2.1.1
    obtain ⟨-, -, ⟨-, m2, m3⟩, -⟩ := I.2.1 b hb
    obtain ⟨m, hm⟩ : ∃ m : Nat, gm_I g 50 b = (m : Int) := ⟨_, (Int.toNat_of_nonneg m2).symm⟩
    have hcw : cw_best n g (b : Int) w = jb2 (cp_search g b) (fun v7 g8 => jg (rg v7) (if v7 = 0 then some (-100001, g8) else if w = 0 then some (gm_I g8 25 6, g8) else if w = 4 then some (gm_I g8 25 7, g8) else jb1 (cw_partOf g8 (gm_J g8 25 8) (w - 1)) fun v10 => some (v10, g8))) := by
      unfold cw_best cp_isThere
      rw [cw_isBit_eq hn ha, jb_tst, if_pos h1, hwn, e1, jg_pos (rgn (by omega)), if_neg (by omega), jb1_some, jg_pos (rgk rfl), if_neg n10, jg_pos h1, Int.toNat_natCast]
    have hmd : ∀ g1, exc W_bs J_bs g g1 → md_best g1 (b : Int) w = if m = 0 then some (-100001) else jb5 (md_best_l63 g1 (b : Int) w (5 * (b : Int)) fz (-1) 0 0 0 0 0) (fun v125 v126 v127 v128 v129 => jg (rg v125) (if v125 = (-1) then some (-100001) else jg (rg w) (if w = 0 then some v125 else if w = 1 then some v126 else if w = 2 then some v127 else if w = 3 then some v128 else some v129))) := fun g1 x => by
      have hn1 := (I_fit_tr (keepF_A (keepA_scr (scr_bs x))) I).1
      unfold md_best
      rw [md_isBit_eq hn1 ha, jb_tst, if_pos h1, md_in_eq hw (rgk rfl) (rgk rfl), jb_tst, if_pos h2, x.1 44 59 rfl, h.2.2.2.1.2, jg_pos (rgn (by omega)), if_neg (by omega), jg_pos (by omega), Int.toNat_natCast, x.1 50 b rfl, hm, jg_pos (rgn (by omega)), jl_eq]
      by_cases z : m = 0
      · rw [if_pos z, if_pos (by omega)]
      · rw [if_neg z, if_neg (by omega)]
    by_cases hm0 : m = 0
    · obtain ⟨g1, k1, k2⟩ := cp_search_0 VBx hb (by rw [hm, hm0]; rfl)
      refine ⟨-100001, g1, ?_, ?_, scr_bs k2⟩
      · rw [hcw, k1, jb2_some, jg_pos (rgk rfl), if_pos rfl]
      · rw [hmd g1 k2, if_pos hm0]
    · have m5 : 1 ≤ m ∧ m ≤ 5 := by omega
      obtain ⟨g1, k1, k2, k3⟩ := cp_search_eq VBx h hb hm m5
      have hsb := sAll_b (g := g) (W := W) (H := H) (D := D) (b := b) m5.2
      have hbp := sAll_p I.2.1 h hb hm m5.1
      have r1 := md_turns (VBx g1 k2) (isPh_tr k2 R_ph_bs h) hb h30 (by rw [k2.1 50 b rfl]; exact hm) m5 (c61 := w) 4 fz 0 s_0 (by decide) (fz_gt rfl) ⟨by decide, by decide⟩
      rw [show fx (rturn g1 W H D b m) 4 ((0 : Nat) : Int) s_0 = sAll g1 W H D b m from rfl, sAll_bs k2] at r1
      obtain ⟨q1, q2, q3⟩ := k3
      rw [hcw, k1, jb2_some]
      have hmd1 := hmd g1 k2
      rw [if_neg hm0, show md_best_l63 g1 (b : Int) w (5 * (b : Int)) fz (-1) 0 0 0 0 0 = _ from r1] at hmd1
      obtain ⟨s, hs⟩ : ∃ s, s = sAll g W H D b m := ⟨_, rfl⟩
      rw [← hs] at hsb hbp hmd1 q1 q2 q3 ⊢
      unfold un5 at hmd1
      rw [jb5_some, jg_pos ⟨by omega, by omega⟩] at hmd1
      by_cases c : s.1 < 0
      · rw [if_pos c, jg_pos (rgk rfl), if_pos rfl]
        rw [if_pos (by omega)] at hmd1
        exact ⟨_, g1, rfl, hmd1, scr_bs k2⟩
      · rw [if_neg (by omega), jg_pos hw] at hmd1
        rw [if_neg c, jg_pos (rgk rfl), if_neg n10, q1, q2, q3 (by omega)]
        have hp := cw_partOf_eq (g := g1) (p := s.2.1) (M := 1000) (hbp (by omega)) (by decide) (w := w - 1) ⟨by omega, by omega⟩
        rw [show pk s.2.1.1 s.2.1.2.1 s.2.1.2.2 = pp s.2.1 from rfl, hp]
        have hw5 : w = 0 ∨ w = 1 ∨ w = 2 ∨ w = 3 ∨ w = 4 := by omega
        rcases hw5 with rfl | rfl | rfl | rfl | rfl
        · exact ⟨_, g1, rfl, hmd1, scr_bs k2⟩
        · exact ⟨_, g1, rfl, hmd1, scr_bs k2⟩
        · exact ⟨_, g1, rfl, hmd1, scr_bs k2⟩
        · exact ⟨_, g1, rfl, hmd1, scr_bs k2⟩
        · exact ⟨_, g1, rfl, hmd1, scr_bs k2⟩
