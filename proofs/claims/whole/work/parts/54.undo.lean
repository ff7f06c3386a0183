/-! undo, both sides. -/
theorem cj_isThere_eq {n : Nat} {g : gm_T} (V : V_jn n g) {a : Int} (ha : rg a) : cj_isThere g a = some (@ite _ (0 ≤ a ∧ a < ((jm g : Nat) : Int) ∧ jE g a.toNat = true) (gd _) 1 0) := by
  obtain ⟨m60, m1, m2⟩ := jm_60 V
  obtain ⟨T, t1, t2⟩ := isM_jE V
  unfold cj_isThere
  rw [jg_pos ha]
  by_cases c1 : a < 0
  · rw [if_pos c1, @if_neg _ (gd _) (by omega)]
  · rw [if_neg c1, m2, jg_pos (rgn (by omega))]
    by_cases c2 : a < ((jm g : Nat) : Int)
    · obtain ⟨j, rfl⟩ : ∃ j : Nat, a = (j : Int) := ⟨_, (Int.toNat_of_nonneg (by omega)).symm⟩
      rw [if_pos c2, t1, isIn_eq g (Nat.lt_trans t2.1 (by decide)) (by omega), jb_tst, t2.2 j (by omega), Int.toNat_natCast]
      by_cases c3 : jE g j = true
      · rw [if_pos c3, @if_pos _ (gd _) ⟨by omega, c2, c3⟩]
      · rw [if_neg c3, @if_neg _ (gd _) (fun z => c3 z.2.2)]
    · rw [if_neg c2, @if_neg _ (gd _) (fun z => c2 z.2.1)]
theorem md_isJoin_eq {n : Nat} {g : gm_T} (V : V_jm n g) {a : Int} (ha : rg a) : md_isJoin g a = some (@ite _ (0 ≤ a ∧ a < ((jm g : Nat) : Int) ∧ jE g a.toNat = true) (gd _) 1 0) := by
  obtain ⟨m60, m1, -⟩ := jm_60m V
  unfold md_isJoin
  rw [m1, md_in_eq ha (rgk rfl) ⟨by omega, by omega⟩, jb_tst]
  by_cases c1 : 0 ≤ a ∧ a ≤ ((jm g : Nat) : Int) - 1
  · obtain ⟨j, rfl⟩ : ∃ j : Nat, a = (j : Int) := ⟨_, (Int.toNat_of_nonneg c1.1).symm⟩
    have h01 := (V.2.1 j (by omega)).2.2.2.2.1
    have hE : jE g j = decide (gm_I g 69 j ≠ 0) := rfl
    rw [if_pos c1, jg_pos (by omega), Int.toNat_natCast]
    rcases h01 with z | z
    · rw [z] at hE
      rw [z, jg_pos (rgk rfl), if_pos rfl, @if_neg _ (gd _) (fun y => by have := y.2.2; rw [hE] at this; exact absurd this (by decide))]
    · rw [z] at hE
      rw [z, jg_pos (rgk rfl), if_neg n10, @if_pos _ (gd _) ⟨c1.1, by omega, by rw [hE]; rfl⟩]
  · rw [if_neg c1, @if_neg _ (gd _) (fun z => c1 ⟨z.1, by have := z.2.1; omega⟩)]
theorem lN_not {T j : Nat} (hT : T < 2 ^ 60) (hj : j < 60) : lN T &&& (lN (2 ^ j) ^^^ (-1)) = lN (ndf T (2 ^ j)) := by
  apply wb_inj
  rw [Int64.toBitVec_and, Int64.toBitVec_xor, wb_tb, wb_tb, wb_tb]
  apply BitVec.eq_of_getLsbD_eq
  intro i hi
  have h1 : ∀ i, i < 64 → ((-1 : Int64)).toBitVec.getLsbD i = true := by decide +kernel
  rw [BitVec.getLsbD_and, BitVec.getLsbD_xor, h1 i hi, BitVec.getLsbD_ofNat, BitVec.getLsbD_ofNat, BitVec.getLsbD_ofNat, ndf_bit]
  simp [hi]
theorem ct_union {p q : Nat → Bool} : ∀ {n : Nat}, (∀ i, i < n → ¬ (p i = true ∧ q i = true)) → ct (fun i => p i || q i) n = ct p n + ct q n
  | 0, _ => rfl
  | n + 1, h => by
    have ih := ct_union (p := p) (q := q) (n := n) (fun i hi => h i (by omega))
    have h2 := h n (by omega)
    rw [ct_succ, ct_succ, ct_succ, ih]
    cases hp : p n with
    | false => cases hq : q n <;> simp <;> omega
    | true =>
      cases hq : q n with
      | false => simp; omega
      | true => exact absurd ⟨hp, hq⟩ h2
theorem op_undo {n : Nat} {g : gm_T} {P : Nat → plc} (h : IW n g P) (hcl : V_clash g) {a : Int} (ha : rg a) : ∃ r g1 g2, cw_undo g a = some (r, g1) ∧ md_undo g1 a = some (r, g2) ∧ (∃ P2, IW n g2 P2) ∧ V_clash g2 ∧ exc wj jj g g2 := by
  obtain ⟨I, V, G, W⟩ := id h
  have hn := I.1
  have h30 := hn.2.2
  obtain ⟨m60, m1, m2⟩ := jm_60 V
  unfold cw_undo
  rw [cj_isThere_eq V ha, jb_gd]
  by_cases c1 : 0 ≤ a ∧ a < ((jm g : Nat) : Int) ∧ jE g a.toNat = true
  · rw [@if_pos _ (gd _) c1]
    obtain ⟨j, rfl⟩ : ∃ j : Nat, a = (j : Int) := ⟨_, (Int.toNat_of_nonneg c1.1).symm⟩
    rw [Int.toNat_natCast] at c1
    have hj : j < jm g := by omega
    obtain ⟨⟨a1, a2, a3⟩, ⟨k1, k2, k3⟩, ⟨b1, b2, b3⟩, ⟨l1, l2, l3⟩, h01, hne, ht⟩ := V.2.1 j hj
    obtain ⟨T, tt1, tt2, tt3⟩ := V.2.2
    have hAB : cn g (jA g j) (jB g j) := gC_AB hj c1.2.2 (gC_rf _)
    obtain ⟨Ma, ma1, ma2⟩ := G _ a3
    have hT2 : ndf T (2 ^ j) < 2 ^ 60 := Nat.lt_of_le_of_lt (ndf_le _ _) tt2
    -- the class
    have hE' : isMm (jm g) (ndf T (2 ^ j)) (fun i => if i = j then false else jE g i) := by
      refine ⟨hT2, fun i hi => ?_⟩
      rw [ndf_bit, Nat.testBit_two_pow, tt3 i, decide_eq_true hi, Bool.true_and]
      dsimp only
      by_cases z : i = j
      · rw [if_pos z, decide_eq_true z.symm]
        simp
      · rw [if_neg z, decide_eq_false (show ¬ j = i from fun y => z y.symm)]
        simp
    have Vc := V_jc_of V
    have Vc1 : V_jc n (gm_wJ g 14 5 (lN (ndf T (2 ^ j)))) (jA g) (jB g) (jm g) := Vc
    obtain ⟨g1, r1, r2, r3⟩ := cj_regroup_eq h30 Vc1 hE' (by rw [gJ_wJ, if_pos rfl, if_pos rfl]) ma2.1
    have x1 : exc (fun c _ => c == 19) (fun c _ => c == 14) g g1 := exc_tr (exc_wJ exc_rf rfl) (exc_mono r2 (fun _ _ q => q) (fun _ _ q => by cases q))
    have e1 : keepC g1 = keepC g := keepC_exc x1 (fun a k q => by
      simp only [beq_iff_eq] at q
      subst q
      simp [cls]) (fun a k q => by
      simp only [beq_iff_eq] at q
      subst q
      simp [cls])
    -- the reference
    have eEu : jE (gm_wI g 69 j 0) = fun i => if i = j then false else jE g i := funext fun i => by
      unfold jE
      rw [gm_j_ne]
      by_cases z : i = j
      · rw [if_pos z, if_pos z]; rfl
      · rw [if_neg z, if_neg z]
    have hFu : keepF (gm_wI g 69 j 0) = keepF g := wj_F (exc_wI exc_rf (by simp [wj]))
    have hu : IWm n (gm_wI g 69 j 0) P := by
      obtain ⟨q1, q2, q3⟩ := vm V
      obtain ⟨w1, w2, w3, w4, w5, w6⟩ := wm W
      refine ⟨I_fit_tr hFu I, ⟨q1, fun i hi => ?_, trivial⟩, trivial, trivial, w2, w3, fun i hi hE => ?_, trivial, w6⟩
      · have hq := q2 i hi
        rw [gm_j_ne, k_mE hFu, k_mE hFu, k_tn hFu]
        refine ⟨hq.1, hq.2.1, hq.2.2.1, hq.2.2.2.1, ?_, hq.2.2.2.2.2⟩
        split
        · exact Or.inl rfl
        · exact hq.2.2.2.2.1
      · rw [eEu] at hE
        dsimp only at hE
        by_cases z : i = j
        · rw [if_pos z] at hE
          cases hE
        · rw [if_neg z] at hE
          have := w4 i hi hE
          have hpl : jpl (gm_wI g 69 j 0) i = jpl g i := by
            show fpl (gm_wI g 69 j 0) (jA g i) (jK g i) (jB g i) (jL g i) = _
            rw [k_fpl hFu]
            rfl
          rw [hpl]
          exact this
    have tk : ∀ x : gm_T, keepC (gm_wI x 69 j 0) = gm_wI (keepC x) 69 j 0 := by
      intro x
      unfold keepC gm_wI
      refine Prod.ext ?_ rfl
      funext a k
      dsimp only
      unfold jm_u
      by_cases q : a = 69
      · subst q
        by_cases q2 : k = j
        · subst q2; simp
        · simp [q2]
      · simp [q]
    have eu : keepC (gm_wI g1 69 j 0) = keepC (gm_wI g 69 j 0) := by rw [tk, tk, e1]
    obtain ⟨g3, s1, s2, s3, s4⟩ := md_groups_C hu eu
    have ecn : ∀ x y, cn (gm_wI g 69 j 0) x y ↔ gC (jA g) (jB g) (fun i => if i = j then false else jE g i) (jm g) x y := fun x y => by
      unfold cn
      rw [eEu]
      exact Iff.rfl
    have hgrp : ∀ c, c < n → cn g (jA g j) c → ∃ M : Nat, gm_I g1 19 c = (M : Int) ∧ isG (gm_wI g 69 j 0) c M := fun c hc hcn => by
      have h19 := r3 c (by omega)
      rw [if_pos ((ma2.2 c).mpr hcn)] at h19
      obtain ⟨M, q1, q2, q3⟩ := h19
      exact ⟨M, q1, q2, fun x => by rw [q3 x, ecn c x]⟩
    obtain ⟨MA, MA1, MA2⟩ := hgrp _ a3 (gC_rf _)
    obtain ⟨MB, MB1, MB2⟩ := hgrp _ b3 hAB
    have hVu : V_jm n (gm_wI g 69 j 0) := hu.2.1
    have hra : rt (gm_wI g 69 j 0) (jA g j) < n := Nat.lt_of_le_of_lt (rt_le _ _) a3
    have hrb : rt (gm_wI g 69 j 0) (jB g j) < n := Nat.lt_of_le_of_lt (rt_le _ _) b3
    have bitA : ∀ c, MA.testBit c = true ↔ c < n ∧ rt (gm_wI g 69 j 0) c = rt (gm_wI g 69 j 0) (jA g j) := fun c => by
      rw [MA2.2 c]
      exact ⟨fun q => ⟨gC_lt (jendm hVu).1 a3 q, (rt_cn q).symm⟩, fun q => rt_iff.mp q.2.symm⟩
    have bitB : ∀ c, MB.testBit c = true ↔ c < n ∧ rt (gm_wI g 69 j 0) c = rt (gm_wI g 69 j 0) (jB g j) := fun c => by
      rw [MB2.2 c]
      exact ⟨fun q => ⟨gC_lt (jendm hVu).1 b3 q, (rt_cn q).symm⟩, fun q => rt_iff.mp q.2.symm⟩
    have szA : ct MA.testBit 31 = gsz n (gm_wI g 69 j 0) (rt (gm_wI g 69 j 0) (jA g j)) := by
      rw [ct_more (p := MA.testBit) (m := n) (fun i hi => by
        cases q : MA.testBit i with
        | false => rfl
        | true =>
          have := (bitA i).mp q
          omega) 31 (by omega)]
      refine ct_cong (fun i hi => ?_)
      apply dec2
      rw [bitA i, @decide_eq_true_eq _ (gd _)]
      exact ⟨fun z => z.2, fun z => ⟨hi, z⟩⟩
    have szB : ct MB.testBit 31 = gsz n (gm_wI g 69 j 0) (rt (gm_wI g 69 j 0) (jB g j)) := by
      rw [ct_more (p := MB.testBit) (m := n) (fun i hi => by
        cases q : MB.testBit i with
        | false => rfl
        | true =>
          have := (bitB i).mp q
          omega) 31 (by omega)]
      refine ct_cong (fun i hi => ?_)
      apply dec2
      rw [bitB i, @decide_eq_true_eq _ (gd _)]
      exact ⟨fun z => z.2, fun z => ⟨hi, z⟩⟩
    have hOr : MA ||| MB < 2147483648 := Nat.lt_trans (Nat.or_lt_two_pow MA2.1 MB2.1) (by decide)
    have hbc : jd_bitCount g1 (zO (MA : Int) (MB : Int)) = some ((if rt (gm_wI g 69 j 0) (jA g j) = rt (gm_wI g 69 j 0) (jB g j) then gsz n (gm_wI g 69 j 0) (rt (gm_wI g 69 j 0) (jA g j)) else gsz n (gm_wI g 69 j 0) (rt (gm_wI g 69 j 0) (jA g j)) + gsz n (gm_wI g 69 j 0) (rt (gm_wI g 69 j 0) (jB g j)) : Nat) : Int) := by
      rw [zO_n (Nat.lt_trans MA2.1 (by decide)) (Nat.lt_trans MB2.1 (by decide)), jd_bitCount_n g1 hOr]
      congr 2
      by_cases z : rt (gm_wI g 69 j 0) (jA g j) = rt (gm_wI g 69 j 0) (jB g j)
      · rw [if_pos z, ← szA]
        refine ct_cong (fun i hi => ?_)
        rw [Nat.testBit_or]
        apply dec2
        rw [Bool.or_eq_true, bitA i, bitB i, z, or_self]
      · rw [if_neg z, ← szA, ← szB]
        have := ct_union (p := MA.testBit) (q := MB.testBit) (n := 31) (fun i hi y => z (by
          have y1 := (bitA i).mp y.1
          have y2 := (bitB i).mp y.2
          rw [← y1.2, ← y2.2]))
        rw [← this]
        exact ct_cong (fun i hi => Nat.testBit_or MA MB i)
    have g1_15 : gm_I g1 15 j = ((jA g j : Nat) : Int) := by rw [x1.1 15 j rfl, a1, a2]
    have g1_17 : gm_I g1 17 j = ((jB g j : Nat) : Int) := by rw [x1.1 17 j rfl, b1, b2]
    unfold cj_remove
    rw [tt1, lSl_1 (by omega), lN_not tt2 (by omega), jl_eq, jg_pos (by omega), gI_wJ, Int.toNat_natCast, a1, a2, jg_pos (by omega), gI_wJ, Int.toNat_natCast, ma1, r1, jb1_some, jb1_some, jg_pos (by omega), g1_15, g1_17, jg_pos (by omega), jg_pos (by omega), Int.toNat_natCast, Int.toNat_natCast, MA1, MB1, hbc, jb1_some]
    have xs : exc scr scrJ (gm_wI g1 69 j 0) g3 := scr_gr s2
    have t : ∀ c' i, scr c' i = false → c' ≠ 69 → gm_I g3 c' i = gm_I g1 c' i := fun c' i q1 q2 => by
      rw [xs.1 c' i q1, gI_oth q2]
    have tJ : ∀ c' i, scrJ c' i = false → gm_J g3 c' i = gm_J g1 c' i := fun c' i q1 => xs.2 c' i q1
    have o65 : gm_I g3 65 j = ((jA g j : Nat) : Int) := by rw [t 65 j rfl (by decide), x1.1 65 j rfl]; exact a2
    have o67 : gm_I g3 67 j = ((jB g j : Nat) : Int) := by rw [t 67 j rfl (by decide), x1.1 67 j rfl]; exact b2
    have h443 : gm_I g3 44 3 = (n : Int) := by
      rw [t 44 3 rfl (by decide), x1.1 44 3 rfl]
      exact hn.2.1
    refine ⟨_, g1, g3, rfl, ?_, ⟨P, ?_⟩, ?_, ?_⟩
    · unfold md_undo
      have hV1 : V_jm n g1 := V_jm_tr e1 (vm V)
      rw [md_isJoin_eq hV1 ha, jb_gd, @if_pos _ (gd _) (by rw [c_jm e1, c_jE e1, Int.toNat_natCast]; exact c1), jg_pos (by omega), Int.toNat_natCast, jl_eq, s1, jb1_some, o65, jg_pos (by omega), Int.toNat_natCast, (s3 _ a3).1, jl_eq, o67, jg_pos (by omega), Int.toNat_natCast, (s3 _ b3).1, jl_eq, md_sizeOf_eq hu.1.1 h443 s3 hra, jb1_some, jg_pos ⟨rgn (by omega), rgn (by omega)⟩]
      by_cases z : rt (gm_wI g 69 j 0) (jA g j) = rt (gm_wI g 69 j 0) (jB g j)
      · rw [if_pos (by omega), if_pos z, Int.add_zero]
      · rw [if_neg (by omega), if_neg z, md_sizeOf_eq hu.1.1 h443 s3 hrb, jb1_some]
        rfl
    · have hF3 : keepF g3 = keepF g := by
        have h1 : keepF g1 = keepF g := keepF_C e1
        have h2 : keepF (gm_wI g1 69 j 0) = keepF g1 := wj_F (exc_wI exc_rf (by simp [wj]))
        exact (keepF_A (keepA_scr xs)).trans (h2.trans h1)
      have ejm : jm g3 = jm g := by
        unfold jm
        rw [t 44 24 rfl (by decide), x1.1 44 24 rfl]
      have eA : jA g3 = jA g := funext fun i => by unfold jA; rw [t 65 i rfl (by decide), x1.1 65 i rfl]
      have eK : jK g3 = jK g := funext fun i => by unfold jK; rw [t 66 i rfl (by decide), x1.1 66 i rfl]
      have eB : jB g3 = jB g := funext fun i => by unfold jB; rw [t 67 i rfl (by decide), x1.1 67 i rfl]
      have eL : jL g3 = jL g := funext fun i => by unfold jL; rw [t 68 i rfl (by decide), x1.1 68 i rfl]
      have o69 : ∀ i, gm_I g3 69 i = if i = j then 0 else gm_I g 69 i := fun i => by
        rw [xs.1 69 i rfl, gm_j_ne, x1.1 69 i rfl]
      have eE : jE g3 = fun i => if i = j then false else jE g i := funext fun i => by
        unfold jE
        rw [o69 i]
        by_cases z : i = j
        · rw [if_pos z, if_pos z]; rfl
        · rw [if_neg z, if_neg z]
      have ecn3 : ∀ x y, cn g3 x y ↔ cn (gm_wI g 69 j 0) x y := fun x y => by
        rw [ecn x y]
        unfold cn
        rw [eA, eB, eE, ejm]
      refine ⟨I_fit_tr hF3 I, ⟨?_, fun i hi => ?_, ndf T (2 ^ j), ?_, hT2, fun i => ?_⟩, fun c hc => ?_, fun c hc => ?_, W.2.1, fun c => ?_, fun i hi hE => ?_, ?_, fun c hc => ?_⟩
      · rw [t 14 4 rfl (by decide), t 44 24 rfl (by decide), x1.1 14 4 rfl, x1.1 44 24 rfl]
        exact V.1
      · rw [ejm] at hi
        have hq := V.2.1 i hi
        rw [t 15 i rfl (by decide), t 16 i rfl (by decide), t 17 i rfl (by decide), t 18 i rfl (by decide), t 65 i rfl (by decide), t 66 i rfl (by decide), t 67 i rfl (by decide), t 68 i rfl (by decide), x1.1 15 i rfl, x1.1 16 i rfl, x1.1 17 i rfl, x1.1 18 i rfl, x1.1 65 i rfl, x1.1 66 i rfl, x1.1 67 i rfl, x1.1 68 i rfl, eA, eB, eK, eL, k_mE hF3, k_mE hF3, k_tn hF3, o69 i]
        refine ⟨hq.1, hq.2.1, hq.2.2.1, hq.2.2.2.1, ?_, hq.2.2.2.2.2⟩
        split
        · exact Or.inl rfl
        · exact hq.2.2.2.2.1
      · rw [tJ 14 5 rfl, r2.2 14 5 rfl, gJ_wJ, if_pos rfl, if_pos rfl]
      · rw [ndf_bit, Nat.testBit_two_pow, tt3 i, ejm, eE]
        dsimp only
        by_cases z : i = j
        · rw [if_pos z, decide_eq_true z.symm]
          simp
        · rw [if_neg z, decide_eq_false (show ¬ j = i from fun y => z y.symm)]
          simp
      · by_cases z : cn g (jA g j) c
        · obtain ⟨M, q1, q2, q3⟩ := hgrp c hc z
          exact ⟨M, by rw [t 19 c rfl (by decide)]; exact q1, q2, fun x => by rw [q3 x, ecn3 c x]⟩
        · have h19 := r3 c (by omega)
          rw [if_neg (fun y => z ((ma2.2 c).mp y))] at h19
          obtain ⟨M, q1, q2, q3⟩ := G c hc
          refine ⟨M, by rw [t 19 c rfl (by decide), h19]; exact q1, q2, fun x => ?_⟩
          rw [q3 x, ecn3 c x, ecn c x]
          exact (gC_less (E := jE g) (E' := fun i => if i = j then false else jE g i) (i := j) (fun i _ hi => by rw [if_neg hi]) (if_pos rfl) (fun y => z (gC_sy y)) (fun y => z (gC_tr hAB (gC_sy y))) x).symm
      · rw [tJ 23 c rfl, x1.2 23 c rfl]
        exact W.1 c hc
      · unfold Kb
        rw [ejm]
        exact W.2.2.1 c
      · rw [ejm] at hi
        rw [eE] at hE
        dsimp only at hE
        by_cases z : i = j
        · rw [if_pos z] at hE
          cases hE
        · rw [if_neg z] at hE
          unfold jpl
          rw [eA, eB, eK, eL, k_fpl hF3]
          exact W.2.2.2.1 i hi hE
      · obtain ⟨w, u, k1, k2, k3, k4, k5⟩ := W.2.2.2.2.1
        refine ⟨w, u, by rw [t 22 3 rfl (by decide), x1.1 22 3 rfl]; exact k1, by rw [t 22 4 rfl (by decide), x1.1 22 4 rfl]; exact k2, k3, k4, fun c => ?_⟩
        unfold hw hp
        rw [t 70 c rfl (by decide), t 71 c rfl (by decide), x1.1 70 c rfl, x1.1 71 c rfl]
        exact k5 c
      · unfold hw hp
        rw [t 70 c rfl (by decide), t 71 c rfl (by decide), t 72 c rfl (by decide), t 73 c rfl (by decide), t 74 c rfl (by decide), x1.1 70 c rfl, x1.1 71 c rfl, x1.1 72 c rfl, x1.1 73 c rfl, x1.1 74 c rfl]
        exact W.2.2.2.2.2 c hc
    · unfold V_clash
      rw [t 22 5 rfl (by decide), t 22 6 rfl (by decide), t 22 7 rfl (by decide), t 22 8 rfl (by decide), t 44 35 rfl (by decide), t 44 36 rfl (by decide), t 44 37 rfl (by decide), t 44 38 rfl (by decide), x1.1 22 5 rfl, x1.1 22 6 rfl, x1.1 22 7 rfl, x1.1 22 8 rfl, x1.1 44 35 rfl, x1.1 44 36 rfl, x1.1 44 37 rfl, x1.1 44 38 rfl]
      obtain ⟨z1, z2, z3, z4, z5⟩ := hcl
      refine ⟨z1, z2, z3, z4, fun i hi => ?_⟩
      rw [t 24 i rfl (by decide), t 75 i rfl (by decide), x1.1 24 i rfl, x1.1 75 i rfl]
      exact z5 i hi
    · refine exc_tr (exc_wI (exc_mono x1 (fun a k q => ?_) (fun a k q => ?_)) ?_) (wj_kw (kw_scr xs))
      · simp only [beq_iff_eq] at q
        subst q
        simp [wj]
      · simp only [beq_iff_eq] at q
        subst q
        simp [jj]
      · simp [wj]
  · rw [@if_neg _ (gd _) c1]
    refine ⟨_, g, g, rfl, ?_, ⟨P, h⟩, hcl, exc_rf⟩
    unfold md_undo
    rw [md_isJoin_eq (vm V) ha, jb_gd, @if_neg _ (gd _) c1]
