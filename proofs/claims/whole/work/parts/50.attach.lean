/-! A join is tried: the reference's clashOf, the class's attach. -/
theorem md_clashOf_eq {n : Nat} {g : gm_T} {P : Nat → plc} (h : IWm n g P) {g0 : gm_T} (e0 : keepC g0 = keepC g) {a b : Nat} (ha : a < n) (hb : b < n) (hm : jm g < 60) (hjk : jok n g (jm g)) (hA : jA g (jm g) = a) (hB : jB g (jm g) = b) : ∃ k x y d w, VR n g P a b (jpl g (jm g)) k x y d w ∧ d ≤ 60 ∧ MO k x y d w g0 (md_clashOf g0 (a : Int) (b : Int)) := by
  have h30 := h.1.1.2.2
  have ok := IWm_ok h
  have hf40 := jok_b h.1 hjk
  have hm44 := (jm_60m h.2.1).2.1
  have hra := rt_le g a
  have hrb := rt_le g b
  obtain ⟨g1, e1, e2, e3, k1⟩ := md_groups_C h e0
  unfold md_clashOf
  rw [e1, jb1_some, jg_pos (by omega), jg_pos (by omega), Int.toNat_natCast, Int.toNat_natCast, (e3 a ha).1, (e3 b hb).1, jg_pos ⟨rgn (by omega), rgn (by omega)⟩]
  by_cases c1 : cn g a b
  · have hrt : rt g a = rt g b := rt_cn c1
    rw [if_pos (by omega)]
    obtain ⟨g2, w1, w2, w3⟩ := md_within_eq (I_fit_tr (keepF_C k1) h.1) (V_jm_tr k1 h.2.1) (isWm_tr k1 h.2.2.2) (P := P) (h := g1) (fun x hx2 => by
      rw [c_rt k1]
      exact e3 x hx2) ha hb (by rw [c_cn k1]; exact c1)
    have k2 := (keepC_scr (scr_p w3)).trans k1
    have hb1 := rel_b h.1 h.2.1 h.2.2.2 ha c1
    have hjk2 := jok_trm k2 hjk
    have I2 := I_fit_tr (keepF_C k2) h.1
    have h24 : gm_I g2 44 24 = ((jm g : Nat) : Int) := by
      have h1 : gm_I (keepC g2) 44 24 = gm_I (keepC g) 44 24 := by rw [k2]
      exact h1.trans hm44
    have hpl : jpl g2 (jm g) = jpl g (jm g) := by rw [c_jpl k2]
    obtain ⟨⟨a2, a3⟩, ⟨kk2, kk3⟩, ⟨b2, b3⟩, ⟨l2, l3⟩, hne, ht⟩ := hjk2
    obtain ⟨x1, y1⟩ := md_fitX_eq I2 a3 b3 hne kk3 l3 ht
    have f1 := (I2.2.2.2.2.2.1 _ _ _ _ a3 b3 hne kk3 l3).1
    have a8 := (I2.2.1 _ a3).1.2.2
    have b8 := (I2.2.1 _ b3).1.2.2
    have hA2 : jA g2 (jm g) = a := by rw [c_jA k2]; exact hA
    have hB2 : jB g2 (jm g) = b := by rw [c_jB k2]; exact hB
    have hEa : mE g2 (jA g2 (jm g)) = gm_I g2 46 (jA g2 (jm g)) := rfl
    have hEb : mE g2 (jB g2 (jm g)) = gm_I g2 46 (jB g2 (jm g)) := rfl
    have hat : (240 * (8 * ((jA g2 (jm g) : Nat) : Int) + ((jK g2 (jm g) : Nat) : Int)) + 8 * ((jB g2 (jm g) : Nat) : Int) + ((jL g2 (jm g) : Nat) : Int)).toNat = at4 (jA g2 (jm g)) (jK g2 (jm g)) (jB g2 (jm g)) (jL g2 (jm g)) := by unfold at4; omega
    have hbf : bpl 40 (tn g2 (jA g2 (jm g)) (jK g2 (jm g)) (jB g2 (jm g)) (jL g2 (jm g)), fX g2 (jA g2 (jm g)) (jK g2 (jm g)) (jB g2 (jm g)) (jL g2 (jm g)), fY g2 (jA g2 (jm g)) (jK g2 (jm g)) (jB g2 (jm g)) (jL g2 (jm g))) := fpl_b I2.2.1 a3 b3 kk3 l3 ht
    rw [w1, jb1_some, jl_eq, h24, jg_pos (by omega), Int.toNat_natCast, kk2, l2]
    have eab : (a : Int) = ((jA g2 (jm g) : Nat) : Int) := by rw [hA2]
    have ebb : (b : Int) = ((jB g2 (jm g) : Nat) : Int) := by rw [hB2]
    have hheld : (jb1 (md_entry g2 (a : Int) ((jK g2 (jm g) : Nat) : Int) (b : Int) ((jL g2 (jm g) : Nat) : Int)) fun (v8 : Int) => jg (0 ≤ v8 ∧ v8 < 57600) (jb1 (md_fitX g2 (a : Int) ((jK g2 (jm g) : Nat) : Int) (b : Int) ((jL g2 (jm g) : Nat) : Int)) fun (v10 : Int) => jb1 (md_fitY g2 (a : Int) ((jK g2 (jm g) : Nat) : Int) (b : Int) ((jL g2 (jm g) : Nat) : Int)) fun (v11 : Int) => jb1 (md_isHeld g2 (gm_I g2 63 v8.toNat) v10 v11) fun (v12 : Int) => some v12)) = some (if pH g2 = jpl g (jm g) then 1 else 0) := by
      rw [eab, ebb]
      unfold md_entry
      rw [jb1_some, jg_pos (by omega), x1, jb1_some, y1, jb1_some, hat, f1, md_isHeld_eq (M := 1160) (by rw [w2]; exact hb1) hbf (by decide) (by decide), jb1_some, ← hpl]
      rfl
    unfold md_entry at hheld ⊢
    rw [jb1_some] at hheld ⊢
    by_cases hg : 0 ≤ 240 * (8 * (a : Int) + ((jK g2 (jm g) : Nat) : Int)) + 8 * (b : Int) + ((jL g2 (jm g) : Nat) : Int) ∧ 240 * (8 * (a : Int) + ((jK g2 (jm g) : Nat) : Int)) + 8 * (b : Int) + ((jL g2 (jm g) : Nat) : Int) < 57600
    · rw [jg_pos hg] at hheld ⊢
      rw [eab, ebb, x1, jb1_some, y1, jb1_some, hat, f1] at hheld ⊢
      generalize hH : md_isHeld g2 _ _ _ = H at hheld ⊢
      cases H with
      | none => rw [show jb1 (none : Option Int) (fun v12 => some v12) = none from rfl] at hheld; cases hheld
      | some v =>
        rw [jb1_some] at hheld
        have hv : v = if pH g2 = jpl g (jm g) then 1 else 0 := Option.some.inj hheld
        rw [jb1_some, hv, jg_pos rg01, w2]
        rw [hA2, hB2]
        unfold VR
        simp only [@if_pos _ (gd _) c1]
        by_cases c2 : rel (P a) (P b) = jpl g (jm g)
        · rw [if_pos c2, if_neg n10]
          simp only [@if_pos _ (gd _) c2]
          exact ⟨0, 0, 0, 0, fun _ => 0, rfl, by decide, MO_0 rfl (exc_tr (scr_gr e2) (scr_p w3))⟩
        · rw [if_neg c2, if_pos rfl, jl_eq]
          simp only [@if_neg _ (gd _) c2]
          obtain ⟨d1, d1n, d1e⟩ := cn_far h.2.1 hb (gC_sy c1)
          have k4 : keepC (gm_wI g2 44 55 0) = keepC g := (keepC_scr (exc_wI exc_rf rfl)).trans k2
          obtain ⟨g6, s1, s2, s3, s4, s5⟩ := md_goes_C h k4 (a := b) (b := a) (d := d1) (u := 0) hb ha d1e (by omega) gI_eq
          obtain ⟨g8, u1, u2, u3, u4, u5, u6, u7⟩ := md_clby_eq (g := g6) (k := 1) (one := (a : Int)) (two := (b : Int)) (u := 0 + d1) (by omega) s3
          rw [s1, jb1_some, u1, jb2_some]
          refine ⟨1, a, b, d1, wayj n g b a, ⟨rfl, rfl, rfl, d1e, fun _ _ => rfl⟩, by omega, fun q => by omega, fun _ => ⟨g8, rfl, u2, by rw [u3]; omega, u4, u5, fun i hi => ?_, ?_⟩⟩
          · rw [u6 i (by omega)]
            have := s5 i hi
            rw [Nat.zero_add] at this
            exact this
          · refine exc_tr (km_scr (exc_tr (scr_gr e2) (exc_wI (scr_p w3) rfl))) (exc_tr (km_scr (scr_goes s2)) (exc_mono u7 (fun a k q => ?_) (fun _ _ q => by cases q)))
            simp only [W_cl, Bool.or_eq_true, Bool.and_eq_true, beq_iff_eq] at q
            rcases q with rfl | ⟨rfl, ((rfl | rfl) | rfl) | rfl⟩ <;> rfl
    · exact absurd (by rw [eab, ebb]; omega) hg
  · have hrt : rt g a ≠ rt g b := fun z => c1 (rt_iff.mp z)
    rw [if_neg (by omega)]
    unfold md_overlapping
    rcases md_ov_lp h k1 e3 ha hb hm hjk n 0 fz g1 (by omega) (Nat.lt_of_le_of_lt h30 (fz_gt rfl)) exc_rf (fun p2 q2 z => by omega) with ⟨z1, g2, z2, z3⟩ | ⟨p, q, z1, d1, d2, z2, z3, z4, z5, g2, z6, z7, z8, z9, z10, z11, z12⟩
    · rw [show ((0 : Nat) : Int) = 0 from rfl] at z2
      rw [z2, jb2_some, jg_pos (rgk rfl), if_pos rfl]
      have k2 := (keepC_scr (scr_p z3)).trans k1
      obtain ⟨k, x, y, d, w, v1, v2, v3⟩ := md_against_eq h k2 (isGr_p e3 z3) ha hb hm hjk c1 (fun ⟨p, q, z⟩ => z1 p q z.1 z.2.1 z.2.2.1)
      refine ⟨k, x, y, d, w, v1, v2, MO_tr (exc_tr (scr_gr e2) (scr_p z3)) ?_⟩
      have hid : (jb2 (md_against g2 (a : Int) (b : Int)) fun (v21 : Int) (g22 : gm_T) => some (v21, g22)) = md_against g2 (a : Int) (b : Int) := by
        cases md_against g2 (a : Int) (b : Int) <;> rfl
      rw [hid]
      exact v3
    · rw [show ((0 : Nat) : Int) = 0 from rfl] at z6
      rw [z6, jb2_some, jg_pos (rgk rfl), if_neg (by decide)]
      refine ⟨2, p, q, d1 + d2, two d1 (wayj n g a p) (wayj n g q b), ?_, by omega, fun z => by omega, fun _ => ⟨g2, rfl, z7, z8, z9, z10, z11, exc_tr (km_scr (scr_gr e2)) z12⟩⟩
      unfold VR
      rw [@if_neg _ (gd _) c1, @if_pos _ (gd _) ⟨p, q, z1⟩]
      exact ⟨d1, d2, z1, rfl, z4, z5, rfl, fun _ _ => rfl⟩
-- the class
/-- tellAround: two ways -/
theorem cv_tellA_eq {n : Nat} {g : gm_T} (h30 : n ≤ 30) (V : V_jn n g) {kind : Int} {p a b q d1 d2 : Nat} (hp : p < n) (ha : a < n) (hb : b < n) (hq : q < n) (h1 : dst n g a p = (d1 : Int)) (h2 : dst n g q b = (d2 : Int)) (hd1 : d1 < n) (hd2 : d2 < n) : ∃ g2, cv_tellAround g kind (p : Int) (a : Int) (b : Int) (q : Int) = some (kind, g2) ∧ gm_I g2 22 5 = kind ∧ gm_I g2 22 6 = (p : Int) ∧ gm_I g2 22 7 = (q : Int) ∧ gm_I g2 22 8 = ((d1 + d2 : Nat) : Int) ∧ (∀ j, j < d1 + d2 → gm_I g2 24 j = two d1 (wayj n g a p) (wayj n g q b) j) ∧ exc W_cc nob g g2 := by
  obtain ⟨g1, e1, e2, e3, e4, e5, e6⟩ := cv_tell_eq g kind (p : Int) (q : Int)
  have k1 := wk_k (kw_wk (w22_kw e6))
  have eA : jA g1 = jA g := funext fun j => by unfold jA; rw [e6.1 65 j rfl]
  have eB : jB g1 = jB g := funext fun j => by unfold jB; rw [e6.1 67 j rfl]
  have eE : jE g1 = jE g := funext fun j => by unfold jE; rw [e6.1 69 j rfl]
  have em : jm g1 = jm g := by unfold jm; rw [e6.1 44 24 rfl]
  obtain ⟨g2, f1, f2, f3, f4, f5⟩ := cv_tellWay_eq h30 (V_jn_E k1 V) (a := p) (b := a) (d := d1) (u := 0) hp ha (by rw [eA, eB, eE, em]; exact h1) hd1 (by omega) e5
  rw [eA, eB, eE, em] at f5
  have k2 := wk_k (exc_tr (kw_wk (w22_kw e6)) (kw_wk (tw_kw f2)))
  have fA : jA g2 = jA g := funext fun j => by unfold jA; rw [f2.1 65 j rfl, e6.1 65 j rfl]
  have fB : jB g2 = jB g := funext fun j => by unfold jB; rw [f2.1 67 j rfl, e6.1 67 j rfl]
  have fE : jE g2 = jE g := funext fun j => by unfold jE; rw [f2.1 69 j rfl, e6.1 69 j rfl]
  have fm : jm g2 = jm g := by unfold jm; rw [f2.1 44 24 rfl, e6.1 44 24 rfl]
  obtain ⟨g3, l1, l2, l3, l4, l5⟩ := cv_tellWay_eq h30 (V_jn_E k2 V) (a := b) (b := q) (d := d2) (u := 0 + d1) hb hq (by rw [fA, fB, fE, fm]; exact h2) hd2 (by omega) f3
  rw [fA, fB, fE, fm] at l5
  unfold cv_tellAround
  rw [e1, jb2_some, f1, jb1_some, l1, jb1_some]
  refine ⟨g3, rfl, ?_, ?_, ?_, by rw [l3]; omega, fun j hj => ?_, exc_tr (cc_22 e6) (exc_tr (cc_tw f2) (cc_tw l2))⟩
  · rw [l2.1 22 5 rfl, f2.1 22 5 rfl, e2]
  · rw [l2.1 22 6 rfl, f2.1 22 6 rfl, e3]
  · rw [l2.1 22 7 rfl, f2.1 22 7 rfl, e4]
  · unfold two
    by_cases z : j < d1
    · rw [@if_pos _ (gd _) z, l4 j (by omega)]
      have := f5 j z
      rw [Nat.zero_add] at this
      exact this
    · rw [@if_neg _ (gd _) z]
      have := l5 (j - d1) (by omega)
      rw [show 0 + d1 + (j - d1) = j by omega] at this
      exact this
theorem cv_anchor_eq {n : Nat} {g : gm_T} {P : Nat → plc} (h : IW n g P) {b M : Nat} (hb : b < n) (m2 : isG g b M) (hon : onW n g b) : cv_anchorOf g (M : Int) = some (hl n g (rt g b)) := by
  have h30 := h.1.1.2.2
  obtain ⟨w, u, w1, u1, w2, u2, w3⟩ := h.2.2.2.2.2.2.2.1
  have hwM : ∀ c, (w &&& M).testBit c = true ↔ c < n ∧ pw g (rt g b) c = true := fun c => by
    rw [Nat.testBit_and, (w3 c).1, Bool.and_eq_true, ndd, tb_lt h.2.1 hb m2, pw_iff]
    exact ⟨fun z => ⟨z.1.1, z.2.2, z.1.2⟩, fun z => ⟨⟨z.1, z.2.2⟩, z.1, z.2.1⟩⟩
  have huM : ∀ c, (u &&& M).testBit c = true ↔ c < n ∧ pu g (rt g b) c = true := fun c => by
    rw [Nat.testBit_and, (w3 c).2, Bool.and_eq_true, ndd, tb_lt h.2.1 hb m2, pu_iff]
    exact ⟨fun z => ⟨z.1.1, z.2.2, z.1.2⟩, fun z => ⟨⟨z.1, z.2.2⟩, z.1, z.2.1⟩⟩
  have first : ∀ (p : Nat → Bool) (S : Nat), S < 2147483648 → (∀ c, S.testBit c = true ↔ c < n ∧ p c = true) → S ≠ 0 → jd_numberOfTrailingZeros g (S : Int) = some (fb p n 0) := by
    intro p S hS hb2 hne
    obtain ⟨k, k1, k2⟩ := low_bit hne
    obtain ⟨k3, k4⟩ := (hb2 k).mp k1
    rw [jd_ntz_n g hS k1 k2]
    rcases fb_sp p n 0 with ⟨q1, q2⟩ | ⟨i, q1, q2, q3, q4, q5⟩
    · rw [q2 k (Nat.zero_le _) (by omega)] at k4
      cases k4
    · rw [q4]
      rcases Nat.lt_trichotomy i k with z | z | z
      · have := (hb2 i).mpr ⟨by omega, q3⟩
        rw [k2 i z] at this
        cases this
      · rw [z]
      · rw [q5 k (Nat.zero_le _) z] at k4
        cases k4
  have hw31 : w &&& M < 2147483648 := Nat.lt_of_le_of_lt Nat.and_le_left (Nat.lt_trans w2 (by decide))
  have hu31 : u &&& M < 2147483648 := Nat.lt_of_le_of_lt Nat.and_le_left (Nat.lt_trans u2 (by decide))
  unfold cv_anchorOf hl
  rw [w1, u1, zA_n _ (Nat.lt_trans w2 (by decide)), zA_n _ (Nat.lt_trans u2 (by decide))]
  by_cases c : w &&& M = 0
  · have c2 : fb (pw g (rt g b)) n 0 = -1 := fb_none.mpr (fun i hi => by
      cases q : pw g (rt g b) i with
      | false => rfl
      | true =>
        have := (hwM i).mpr ⟨hi, q⟩
        rw [c, Nat.zero_testBit] at this
        cases this)
    rw [if_pos (by rw [c]; rfl), jb1_some, if_pos c2, first _ _ hu31 huM ?_, jb1_some]
    intro c3
    obtain ⟨x, x1, x2, x3 | x3⟩ := hon
    · have := (hwM x).mpr ⟨x1, pw_iff.mpr ⟨(rt_cn x2).symm, x3⟩⟩
      rw [c, Nat.zero_testBit] at this
      cases this
    · have := (huM x).mpr ⟨x1, pu_iff.mpr ⟨(rt_cn x2).symm, x3⟩⟩
      rw [c3, Nat.zero_testBit] at this
      cases this
  · have c2 : ¬ fb (pw g (rt g b)) n 0 = -1 := fun z => by
      obtain ⟨k, k1, -⟩ := low_bit c
      obtain ⟨k3, k4⟩ := (hwM k).mp k1
      rw [fb_none.mp z k k3] at k4
      cases k4
    rw [if_neg (by omega), jb1_some, if_neg c2, first _ _ hw31 hwM c, jb1_some]
/-- what may be said of the placings behind a join that stands -/
def okJ (n : Nat) (g : gm_T) (P P2 : Nat → plc) (a b : Nat) (f : plc) : Prop := (∀ c, n ≤ c → P2 c = p0) ∧ (∀ c, bpl (Kb g + 2400) (P2 c)) ∧ (∀ j, j < jm g → jE g j = true → P2 (jB g j) = pon (P2 (jA g j)) (jpl g j)) ∧ P2 b = pon (P2 a) f ∧ ∀ c, c < n → onW n g c → P2 c = P c
theorem okJ_same {n : Nat} {g : gm_T} {P : Nat → plc} (h : IW n g P) {a b : Nat} {f : plc} (hf : P b = pon (P a) f) : okJ n g P P a b f := ⟨h.2.2.2.2.1, fun c => bpl_mono (h.2.2.2.2.2.1 c) (by omega), h.2.2.2.2.2.2.1, hf, fun _ _ _ => rfl⟩
theorem okJ_moved {n : Nat} {g : gm_T} {P : Nat → plc} (h : IW n g P) {e : Nat} (he : e < n) (hoff : ¬ onW n g e) {v q : plc} (hv : okt v) (hq : bpl (Kb g + 1240) q) (hvq : pon v (P e) = q) {a b : Nat} {f : plc} (hf : (fun c => @ite _ (c < n ∧ cn g e c) (gd _) (pon v (P c)) (P c)) b = pon ((fun c => @ite _ (c < n ∧ cn g e c) (gd _) (pon v (P c)) (P c)) a) f) : okJ n g P (fun c => @ite _ (c < n ∧ cn g e c) (gd _) (pon v (P c)) (P c)) a b f := by
  have ok := IW_ok h
  refine ⟨fun c hc => ?_, fun c => ?_, fun j hj hE => ?_, hf, fun c hc hon => ?_⟩
  · dsimp only
    rw [@if_neg _ (gd _) (fun z => by omega)]
    exact h.2.2.2.2.1 c hc
  · dsimp only
    by_cases z : c < n ∧ cn g e c
    · rw [@if_pos _ (gd _) z]
      have h1 : pon v (P c) = pon q (rel (P e) (P c)) := by
        rw [← hvq, pon_assoc hv (ok e), pon_rel (ok e) (ok c)]
      rw [h1]
      exact bpl_mono (bpl_on hq (rel_b h.1 (vm h.2.1) (wm h.2.2.2) he z.2)) (by omega)
    · rw [@if_neg _ (gd _) z]
      exact bpl_mono (h.2.2.2.2.2.1 c) (by omega)
  · have h1 := h.2.2.2.2.2.2.1 j hj hE
    have hok := (jn_jpl h.1 (vm h.2.1) hj).1
    have hAB : cn g (jA g j) (jB g j) := gC_AB hj hE (gC_rf _)
    have hA := (jend h.2.1).1 j hj
    dsimp only
    by_cases z : cn g e (jA g j)
    · rw [@if_pos _ (gd _) (show jB g j < n ∧ cn g e (jB g j) from ⟨hA.2, gC_tr z hAB⟩), @if_pos _ (gd _) (show jA g j < n ∧ cn g e (jA g j) from ⟨hA.1, z⟩), h1, pon_assoc hv (ok _)]
    · rw [@if_neg _ (gd _) (show ¬ (jB g j < n ∧ cn g e (jB g j)) from fun y => z (gC_tr y.2 (gC_sy hAB))), @if_neg _ (gd _) (show ¬ (jA g j < n ∧ cn g e (jA g j)) from fun y => z y.2)]
      exact h1
  · dsimp only
    rw [@if_neg _ (gd _)]
    rintro ⟨-, z⟩
    obtain ⟨x, x1, x2, x3⟩ := hon
    exact hoff ⟨x, x1, gC_tr z x2, x3⟩
