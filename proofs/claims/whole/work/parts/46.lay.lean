/-! put, both sides. -/
theorem op_put {n : Nat} {g : gm_T} {P : Nat → plc} (h : IW n g P) (hcl : V_clash g) {a t x y : Int} (ha : rg a) (ht : rg t) (hx : rg x) (hy : rg y) : ∃ r g1 g2, cw_put n g a t x y = some (r, g1) ∧ md_put g1 a t x y = some (r, g2) ∧ (∃ P2, IW n g2 P2) ∧ V_clash g2 ∧ exc wk jk g g2 := by
  have hn := h.1.1
  have h30 := hn.2.2
  unfold cw_put
  simp only [cw_isBit_eq hn ha, jb_tst, cw_isPlacing_eq ht hx hy, jb_gd]
  by_cases h1 : 0 ≤ a ∧ a < (n : Int)
  · obtain ⟨b, rfl⟩ : ∃ b : Nat, a = (b : Int) := ⟨_, (Int.toNat_of_nonneg h1.1).symm⟩
    have hb : b < n := by omega
    have hrb : rt g b < n := Nat.lt_of_le_of_lt (rt_le g b) hb
    rw [if_pos h1]
    by_cases h2 : isPl t x y
    · rw [@if_pos _ (gd _) h2, cv_ghw_eq h hb, jb_gd]
      by_cases c0 : hasW n g b
      · obtain ⟨g1, e1, e2, e3, eh⟩ := md_groups_C (im h) (rfl : keepC g = keepC g)
        have xx := scr_gr e2
        rw [@if_pos _ (gd _) c0]
        refine ⟨_, g, g1, rfl, ?_, ⟨P, IW_kw h (kw_scr xx)⟩, V_clash_wd (wd_scr xx) hcl, wk_scr xx⟩
        unfold md_put
        rw [md_isBit_eq hn ha, jb_tst, if_pos h1, md_isPlace_eq ht hx hy, jb_gd, @if_pos _ (gd _) h2, e1, jb1_some, jg_pos (by omega), Int.toNat_natCast, (e3 b hb).1, md_hwi_all (im h) eh e3 hb, jb_gd, @if_pos _ (gd _) c0]
      · rw [@if_neg _ (gd _) c0, cc_of_pl h2, jb1_some]
        have hq := pl_bpl h2
        obtain ⟨M, m1, m2⟩ := h.2.2.1 b hb
        obtain ⟨⟨w, u, w1, u1, w2, u2, w3⟩, hcell⟩ := h.2.2.2.2.2.2.2
        have ok := IW_ok h
        have s0 : ∀ c2, c2 < n → ¬ othw g b c2 := fun c2 hc2 z => c0 ⟨c2, hc2, z.2.1, z.2.2⟩
        unfold cv_lay
        rcases cv_bring_eq2 h hb hq with ⟨i, k, s1, g1, s2, s3, s4, s5, s6, s7⟩ | ⟨s1, g1, s2, s6, s7⟩
        · -- the clash 5
          have e1 := keepC_W22 s7
          rw [s2, jb2_some, jg_pos (rgk rfl), if_neg (by decide), jb2_some, jg_pos (rgk rfl), if_neg (by decide)]
          obtain ⟨g5, k1, k2, k3, k4⟩ := md_groups_C (im h) e1
          rcases md_apl_eq (im h) k4 k3 hb hq with ⟨z0, ⟨z1, -⟩ | ⟨i2, k2', z1, g2, z2, z3, z4, z5, z6, z7⟩⟩ | ⟨z0, c2, z1, z2, -⟩
          · exact absurd s1.2.2.1 (z1 i k s1.1 s1.2.1)
          · obtain ⟨rfl, rfl⟩ := LF_uniq s1 z1
            have xx : exc km scrJ g1 g2 := exc_tr (km_scr (scr_gr k2)) z7
            have xk := exc_tr (w22_kw s7) (km_kw xx)
            refine ⟨-15, g1, g2, rfl, ?_, ⟨P, IW_kw h xk⟩, V_clash_of xx (k := 5) (d := 0) (w := fun _ => 0) (by decide) (by decide) s3 s4 s5 s6 (fun j hj => by omega) z3 z4 z5 z6 (fun j hj => by omega), kw_wk xk⟩
            unfold md_put
            rw [md_isBit_eq (num_C e1 hn) ha, jb_tst, if_pos h1, md_isPlace_eq ht hx hy, jb_gd, @if_pos _ (gd _) h2, k1, jb1_some, jg_pos (by omega), Int.toNat_natCast, (k3 b hb).1, md_hwi_all (im h) k4 k3 hb, jb_gd, @if_neg _ (gd _) c0, show md_againstPlace g5 (b : Int) t x y = some (-15, g2) from z2, jb2_some, jg_pos (rgk rfl), if_neg (by decide)]
          · exact absurd z2 (s0 c2 z1)
        · -- it is laid
          have a4 : gm_I g1 22 4 = (u : Int) := by rw [s6.1 22 4 rfl]; exact u1
          have a19 : gm_I g1 19 b = (M : Int) := by rw [s6.1 19 b rfl]; exact m1
          rw [s2, jb2_some, jg_pos (rgk rfl), if_pos rfl, cv_putBy_eq (by omega) a19 a4 u2, jb1_some, jb2_some, jg_pos (rgk rfl), if_pos rfl, jg_pos (by omega), Int.toNat_natCast, gI_oth (by decide), a19, bc_grp h30 h.2.1 _ hb m2, jb1_some]
          have hu' : ndf u M ||| 2 ^ b < 2 ^ 30 := Nat.or_lt_two_pow (Nat.lt_of_le_of_lt (ndf_le _ _) u2) (Nat.pow_lt_pow_right (by decide) (by omega))
          have e1 : keepC (gm_wI g1 22 4 ((ndf u M ||| 2 ^ b : Nat) : Int)) = keepC g := (keepC_22 g1 4 _).trans (keepC_23 s6)
          have x1 : exc wd jk g (gm_wI g1 22 4 ((ndf u M ||| 2 ^ b : Nat) : Int)) := wd_w (exc_mono s6 (fun a k q => by cases q) (fun a k q => by unfold jk; rw [q, Bool.or_true])) rfl
          generalize hG : gm_wI g1 22 4 ((ndf u M ||| 2 ^ b : Nat) : Int) = g0 at e1 x1
          have h04 : gm_I g0 22 4 = ((ndf u M ||| 2 ^ b : Nat) : Int) := by rw [← hG, gI_eq]
          have h03 : gm_I g0 22 3 = (w : Int) := by rw [← hG, gI_ne (by decide), s6.1 22 3 rfl]; exact w1
          have h0c : ∀ a k, a ≠ 22 → gm_I g0 a k = gm_I g a k := fun a k q => by rw [← hG, gI_oth q, s6.1 a k rfl]
          have h0J : ∀ c, c < 30 → gm_J g0 23 c = pp (brg g P b (t, x, y) c) := fun c hc => by
            rw [← hG]
            exact s7 c hc
          obtain ⟨g5, k1, k2, k3, k4⟩ := md_groups_C (im h) e1
          rcases md_apl_eq (im h) k4 k3 hb hq with ⟨z0, ⟨z1, g7, z2, z3, z4⟩ | ⟨i2, k2', z1, -⟩⟩ | ⟨z0, c2, z1, z2, -⟩
          · have e7 : keepC g7 = keepC g := (keepC_scr z3).trans k4
            have x7 : exc scr scrJ g0 g7 := exc_tr (scr_gr k2) z3
            have c01 : ∀ c, c < n → gm_I g7 71 c = 0 ∨ gm_I g7 71 c = 1 := fun c hc => by
              rw [x7.1 71 c rfl, h0c 71 c (by decide)]
              exact (hcell c hc).2.1
            obtain ⟨g10, f1, f2, f3⟩ := md_putsNone_eq hn (num_C e7 hn).2.1 z4 hrb c01
            obtain ⟨g12, l1, l2, l3, l4, l5⟩ := md_stays_eq (g := gm_wI g10 71 b 1) (show b < 30 by omega) t x y
            have H10 := isGr_71 z4 f2
            have H11 : isGr n g P (gm_wI g10 71 b 1) := isGr_w H10 rfl
            have H12 : isGr n g P g12 := isGr_exc H11 l5 (fun a k q => by
              simp only [Bool.or_eq_true, beq_iff_eq] at q
              rcases q with ((rfl | rfl) | rfl) | rfl <;> rfl)
            have xf : exc wd jk g g12 := exc_tr (wd_w (exc_tr (exc_tr x1 (wdj_wd (wd_scr x7))) (wdj_wd (wd_71 f2))) rfl) (wdj_wd (exc_stay l5))
            have h443 : gm_I g12 44 3 = (n : Int) := by
              rw [l5.1 44 3 rfl, gI_oth (by decide), f2.1 44 3 rfl]
              exact (num_C e7 hn).2.1
            refine ⟨_, g0, g12, rfl, ?_, ⟨brg g P b (t, x, y), ?_⟩, V_clash_wd xf hcl, wdj_wk xf⟩
            · unfold md_put
              rw [md_isBit_eq (num_C e1 hn) ha, jb_tst, if_pos h1, md_isPlace_eq ht hx hy, jb_gd, @if_pos _ (gd _) h2, k1, jb1_some, jg_pos (by omega), Int.toNat_natCast, (k3 b hb).1, md_hwi_all (im h) k4 k3 hb, jb_gd, @if_neg _ (gd _) c0, show md_againstPlace g5 (b : Int) t x y = some (0, g7) from z2, jb2_some, jg_pos (rgk rfl), if_pos rfl, (z4 b hb).1, f1, jb1_some, jl_eq, l1, jb1_some, (H12 b hb).1, md_sizeOf_eq hn h443 H12 hrb, jb1_some]
            · have y70 : ∀ c, gm_I g12 70 c = gm_I g 70 c := by
                intro c
                rw [l5.1 70 c rfl, gI_oth (by decide), f2.1 70 c rfl, x7.1 70 c rfl, h0c 70 c (by decide)]
              have y71 : ∀ c, gm_I g12 71 c = if c = b then 1 else if c < n ∧ rt g c = rt g b then 0 else gm_I g 71 c := by
                intro c
                rw [l5.1 71 c rfl]
                by_cases z : c = b
                · rw [if_pos z, z, gI_eq]
                · rw [if_neg z, gI_ne z, f3 c, x7.1 71 c rfl, h0c 71 c (by decide)]
              have y72 : ∀ c, gm_I g12 72 c = if c = b then t else gm_I g 72 c := by
                intro c
                rw [l2 c, gI_oth (by decide), f2.1 72 c rfl, x7.1 72 c rfl, h0c 72 c (by decide)]
              have y73 : ∀ c, gm_I g12 73 c = if c = b then x else gm_I g 73 c := by
                intro c
                rw [l3 c, gI_oth (by decide), f2.1 73 c rfl, x7.1 73 c rfl, h0c 73 c (by decide)]
              have y74 : ∀ c, gm_I g12 74 c = if c = b then y else gm_I g 74 c := by
                intro c
                rw [l4 c, gI_oth (by decide), f2.1 74 c rfl, x7.1 74 c rfl, h0c 74 c (by decide)]
              have yw : ∀ c, hw g12 c = hw g c := fun c => by
                unfold hw
                rw [y70 c]
              have yp : ∀ c, hp g12 c = true ↔ (hp g c = true ∧ ¬ (c < n ∧ rt g c = rt g b)) ∨ c = b := fun c => by
                unfold hp
                rw [y71 c, decide_eq_true_eq, decide_eq_true_eq]
                by_cases q : c = b
                · rw [if_pos q]
                  exact ⟨fun _ => Or.inr q, fun _ => by decide⟩
                · rw [if_neg q]
                  by_cases q2 : c < n ∧ rt g c = rt g b
                  · rw [if_pos q2]
                    exact ⟨fun z => absurd rfl z, fun z => by
                      rcases z with z | z
                      · exact absurd q2 z.2
                      · exact absurd z q⟩
                  · rw [if_neg q2]
                    exact ⟨fun z => Or.inl ⟨z, q2⟩, fun z => by
                      rcases z with z | z
                      · exact z.1
                      · exact absurd z q⟩
              have c223 : gm_I g12 22 3 = (w : Int) := by
                rw [l5.1 22 3 rfl, gI_oth (by decide), f2.1 22 3 rfl, x7.1 22 3 rfl, h03]
              have c224 : gm_I g12 22 4 = ((ndf u M ||| 2 ^ b : Nat) : Int) := by
                rw [l5.1 22 4 rfl, gI_oth (by decide), f2.1 22 4 rfl, x7.1 22 4 rfl, h04]
              refine IW_moved h hb hq xf (fun c hc => ?_) ⟨⟨w, ndf u M ||| 2 ^ b, c223, c224, w2, hu', fun c => ⟨?_, ?_⟩⟩, fun c hc => ⟨?_, ?_, fun z => ?_⟩⟩
              · rw [l5.2 23 c rfl]
                show gm_J g10 23 c = _
                rw [f2.2 23 c rfl, x7.2 23 c rfl]
                exact h0J c hc
              · rw [(w3 c).1, yw c]
              · apply dec2
                rw [Nat.testBit_or, ndf_bit, (w3 c).2, Bool.or_eq_true, Bool.and_eq_true, ndd, ndd, yp c, Bool.not_eq_true', ← Bool.not_eq_true, tb_lt h.2.1 hb m2, Nat.testBit_two_pow, decide_eq_true_eq]
                constructor
                · rintro (⟨⟨z1, z2⟩, z3⟩ | z)
                  · exact ⟨z1, Or.inl ⟨z2, z3⟩⟩
                  · exact ⟨by omega, Or.inr z.symm⟩
                · rintro ⟨z1, ⟨z2, z3⟩ | z⟩
                  · exact Or.inl ⟨⟨z1, z2⟩, z3⟩
                  · exact Or.inr z.symm
              · rw [y70 c]
                exact (hcell c hc).1
              · rw [y71 c]
                split
                · exact Or.inr rfl
                · split
                  · exact Or.inl rfl
                  · exact (hcell c hc).2.1
              · rw [y72 c, y73 c, y74 c]
                by_cases cb : c = b
                · rw [if_pos cb, if_pos cb, if_pos cb, cb, brg_b (ok b) hq.1]
                  exact ⟨rfl, rfl, rfl⟩
                · rw [if_neg cb, if_neg cb, if_neg cb]
                  have hb2 : brg g P b (t, x, y) c = P c := by
                    unfold brg
                    rw [@if_neg _ (gd _)]
                    intro zc
                    rcases z with z | z
                    · rw [yw c] at z
                      exact c0 ⟨c, hc, zc, z⟩
                    · rcases (yp c).mp z with z | z
                      · exact z.2 ⟨hc, (rt_cn zc).symm⟩
                      · exact cb z
                  rw [hb2]
                  refine (hcell c hc).2.2 ?_
                  rcases z with z | z
                  · exact Or.inl (by rw [← yw c]; exact z)
                  · rcases (yp c).mp z with z | z
                    · exact Or.inr z.1
                    · exact absurd z cb
          · exact absurd z1.2.2.1 (s1 i2 k2' z1.1 z1.2.1)
          · exact absurd z2 (s0 c2 z1)
    · rw [@if_neg _ (gd _) h2]
      refine ⟨_, g, g, rfl, ?_, ⟨P, h⟩, hcl, exc_rf⟩
      unfold md_put
      rw [md_isBit_eq hn ha, jb_tst, if_pos h1, md_isPlace_eq ht hx hy, jb_gd, @if_neg _ (gd _) h2]
  · rw [if_neg h1]
    refine ⟨_, g, g, rfl, ?_, ⟨P, h⟩, hcl, exc_rf⟩
    unfold md_put
    rw [md_isBit_eq hn ha, jb_tst, if_neg h1]
