/-! join, both sides: the state behind it. -/
def wj (a k : Nat) : Bool := wk a k || (Nat.ble 14 a && Nat.ble a 24) || (Nat.ble 65 a && Nat.ble a 69) || (a == 44 && k == 24)
def jj (a k : Nat) : Bool := jk a k || a == 14
theorem wj_wk {g g2 : gm_T} (h : exc wk jk g g2) : exc wj jj g g2 := exc_mono h (fun a k q => by unfold wj; rw [q]; rfl) (fun a k q => by unfold jj; rw [q]; rfl)
theorem wj_kw {g g2 : gm_T} (h : exc kw scrJ g g2) : exc wj jj g g2 := wj_wk (kw_wk h)
theorem wj_F {g g2 : gm_T} (h : exc wj jj g g2) : keepF g2 = keepF g := by
  refine keepF_exc h (fun a k q => ?_) (fun a k q => ?_)
  · cases hq : wj a k with
    | false => rfl
    | true =>
      exfalso
      simp only [R_fit, wj, wk, wd, kl, scr, Bool.or_eq_true, Bool.and_eq_true, beq_iff_eq, Nat.ble_eq] at q hq
      omega
  · cases hq : jj a k with
    | false => rfl
    | true =>
      exfalso
      simp only [jj, jk, scrJ, Bool.or_eq_true, Bool.and_eq_true, beq_iff_eq, Nat.ble_eq] at q hq
      omega
theorem cand_wj {g : gm_T} (m : Nat) (a k b l : Int) : exc wj jj g (gcand g m a k b l) := by
  unfold gcand
  have t : ∀ c, Nat.ble 65 c = true → Nat.ble c 69 = true → ∀ j, wj c j = true := fun c h1 h2 j => by
    unfold wj
    rw [h1, h2]
    simp
  exact exc_wI (exc_wI (exc_wI (exc_wI (exc_wI exc_rf (t 65 rfl rfl m)) (t 66 rfl rfl m)) (t 67 rfl rfl m)) (t 68 rfl rfl m)) (t 69 rfl rfl m)
theorem cand_at (g : gm_T) (m : Nat) (a k b l : Int) (c j : Nat) (h : j ≠ m ∨ (c ≠ 65 ∧ c ≠ 66 ∧ c ≠ 67 ∧ c ≠ 68 ∧ c ≠ 69)) : gm_I (gcand g m a k b l) c j = gm_I g c j := (gcand_o g m a k b l).1 c j (by
  simp only [Bool.and_eq_false_iff, Bool.or_eq_false_iff, beq_eq_false_iff_ne]
  rcases h with h | ⟨h1, h2, h3, h4, h5⟩
  · exact Or.inr h
  · exact Or.inl ⟨⟨⟨⟨h1, h2⟩, h3⟩, h4⟩, h5⟩)
theorem cand_m (g : gm_T) (m : Nat) (a k b l : Int) : gm_I (gcand g m a k b l) 65 m = a ∧ gm_I (gcand g m a k b l) 66 m = k ∧ gm_I (gcand g m a k b l) 67 m = b ∧ gm_I (gcand g m a k b l) 68 m = l ∧ gm_I (gcand g m a k b l) 69 m = 0 := by
  unfold gcand
  refine ⟨?_, ?_, ?_, ?_, gI_eq⟩
  · rw [gI_oth (by decide), gI_oth (by decide), gI_oth (by decide), gI_oth (by decide), gI_eq]
  · rw [gI_oth (by decide), gI_oth (by decide), gI_oth (by decide), gI_eq]
  · rw [gI_oth (by decide), gI_oth (by decide), gI_eq]
  · rw [gI_oth (by decide), gI_eq]
theorem cand_j (g : gm_T) {m : Nat} (a k b l : Int) {j : Nat} (hj : j < m) : jA (gcand g m a k b l) j = jA g j ∧ jK (gcand g m a k b l) j = jK g j ∧ jB (gcand g m a k b l) j = jB g j ∧ jL (gcand g m a k b l) j = jL g j ∧ jE (gcand g m a k b l) j = jE g j := by
  unfold jA jK jB jL jE
  have t : ∀ c, gm_I (gcand g m a k b l) c j = gm_I g c j := fun c => cand_at g m a k b l c j (Or.inl (by omega))
  rw [t, t, t, t, t]
  exact ⟨rfl, rfl, rfl, rfl, rfl⟩
theorem cand_jm (g : gm_T) (m : Nat) (a k b l : Int) : jm (gcand g m a k b l) = jm g := by
  unfold jm
  rw [cand_at g m a k b l 44 24 (Or.inr (by decide))]
theorem IW_cand {n : Nat} {g : gm_T} {P : Nat → plc} (h : IW n g P) (a k b l : Int) : IW n (gcand g (jm g) a k b l) P := by
  have hF := wj_F (cand_wj (g := g) (jm g) a k b l)
  obtain ⟨I, V, G, W⟩ := h
  have hcj := fun j (hj : j < jm g) => cand_j g a k b l hj
  have ecn : cn (gcand g (jm g) a k b l) = cn g := by
    funext c e
    apply propext
    unfold cn
    rw [cand_jm]
    exact (gC_cong (fun j hj => ⟨(hcj j hj).1.symm, (hcj j hj).2.2.1.symm, (hcj j hj).2.2.2.2.symm⟩) c e).symm
  have o : ∀ c j, (c ≠ 65 ∧ c ≠ 66 ∧ c ≠ 67 ∧ c ≠ 68 ∧ c ≠ 69) → gm_I (gcand g (jm g) a k b l) c j = gm_I g c j := fun c j hc => cand_at g (jm g) a k b l c j (Or.inr hc)
  have oj : ∀ c j, j < jm g → gm_I (gcand g (jm g) a k b l) c j = gm_I g c j := fun c j hj => cand_at g (jm g) a k b l c j (Or.inl (by omega))
  refine ⟨I_fit_tr hF I, ⟨?_, fun j hj => ?_, ?_⟩, fun c hc => ?_, ?_⟩
  · rw [o 14 4 (by decide), o 44 24 (by decide)]
    exact V.1
  · rw [cand_jm] at hj
    obtain ⟨z1, z2, z3, z4, z5⟩ := hcj j hj
    rw [o 15 j (by decide), o 16 j (by decide), o 17 j (by decide), o 18 j (by decide), oj 65 j hj, oj 66 j hj, oj 67 j hj, oj 68 j hj, oj 69 j hj, z1, z2, z3, z4, k_mE hF, k_mE hF, k_tn hF]
    exact V.2.1 j hj
  · obtain ⟨T, t1, t2, t3⟩ := V.2.2
    refine ⟨T, t1, t2, fun j => ?_⟩
    rw [t3 j, cand_jm]
    by_cases z : j < jm g
    · rw [(hcj j z).2.2.2.2]
    · rw [decide_eq_false z, Bool.false_and, Bool.false_and]
  · obtain ⟨M, m1, m2, m3⟩ := G c hc
    exact ⟨M, by rw [o 19 c (by decide)]; exact m1, m2, fun x => by rw [m3 x, ecn]⟩
  · obtain ⟨w1, w2, w3, w4, w5, w6⟩ := W
    refine ⟨w1, w2, fun c => ?_, fun j hj hE => ?_, ?_, fun c hc => ?_⟩
    · unfold Kb
      rw [cand_jm]
      exact w3 c
    · rw [cand_jm] at hj
      obtain ⟨z1, z2, z3, z4, z5⟩ := hcj j hj
      rw [z5] at hE
      unfold jpl
      rw [z1, z2, z3, z4, k_fpl hF]
      exact w4 j hj hE
    · obtain ⟨w, u, k1, k2, k3, k4, k5⟩ := w5
      refine ⟨w, u, by rw [o 22 3 (by decide)]; exact k1, by rw [o 22 4 (by decide)]; exact k2, k3, k4, fun c => ?_⟩
      unfold hw hp
      rw [o 70 c (by decide), o 71 c (by decide)]
      exact k5 c
    · unfold hw hp
      rw [o 70 c (by decide), o 71 c (by decide), o 72 c (by decide), o 73 c (by decide), o 74 c (by decide)]
      exact w6 c hc
/-- the state when a join is made -/
theorem IW_made {n : Nat} {g g2 : gm_T} {P P2 : Nat → plc} (h : IW n g P) {m : Nat} (hm : m = jm g) (hm60 : m < 60) {a k b l : Nat} (ha : a < n) (hb : b < n) (hk : (k : Int) < mE g a) (hl : (l : Int) < mE g b) (hab : a ≠ b) (ht : tn g a k b l ≠ -1) (hok : okJ n g P P2 a b (fpl g a k b l)) (hF : keepF g2 = keepF g) (c14 : gm_I g2 14 4 = ((m + 1 : Nat) : Int)) (c44 : gm_I g2 44 24 = ((m + 1 : Nat) : Int)) {T : Nat} (hTg : gm_J g 14 5 = lN T) (hT : isM g T (jE g)) (hT2 : ∀ j, T.testBit j = (decide (j < jm g) && jE g j)) (cJ : gm_J g2 14 5 = lN (T ||| 2 ^ m)) (c15 : ∀ j, gm_I g2 15 j = if j = m then (a : Int) else gm_I g 15 j) (c16 : ∀ j, gm_I g2 16 j = if j = m then (k : Int) else gm_I g 16 j) (c17 : ∀ j, gm_I g2 17 j = if j = m then (b : Int) else gm_I g 17 j) (c18 : ∀ j, gm_I g2 18 j = if j = m then (l : Int) else gm_I g 18 j) (c65 : ∀ j, gm_I g2 65 j = if j = m then (a : Int) else gm_I g 65 j) (c66 : ∀ j, gm_I g2 66 j = if j = m then (k : Int) else gm_I g 66 j) (c67 : ∀ j, gm_I g2 67 j = if j = m then (b : Int) else gm_I g 67 j) (c68 : ∀ j, gm_I g2 68 j = if j = m then (l : Int) else gm_I g 68 j) (c69 : ∀ j, gm_I g2 69 j = if j = m then 1 else gm_I g 69 j) {Ma Mb : Nat} (ma : isG g a Ma) (mb : isG g b Mb) (c19 : ∀ c, c < 30 → if (Ma ||| Mb).testBit c = true then ∃ M : Nat, gm_I g2 19 c = (M : Int) ∧ isGm (fun j => if j = m then a else jA g j) (fun j => if j = m then b else jB g j) (fun j => if j = m then true else jE g j) (m + 1) c M else gm_I g2 19 c = gm_I g 19 c) (c23 : ∀ c, c < 30 → gm_J g2 23 c = pp (P2 c)) (o : ∀ c j, (c = 22 ∧ (j = 3 ∨ j = 4)) ∨ c = 70 ∨ c = 71 ∨ c = 72 ∨ c = 73 ∨ c = 74 → gm_I g2 c j = gm_I g c j) : IW n g2 P2 := by
  have h30 := h.1.1.2.2
  obtain ⟨I, V, G, W⟩ := h
  have ejm : jm g2 = m + 1 := by
    unfold jm
    rw [c44]
    omega
  have eA : jA g2 = fun j => if j = m then a else jA g j := funext fun j => by
    unfold jA
    rw [c65 j]
    split
    · exact Int.toNat_natCast a
    · rfl
  have eB : jB g2 = fun j => if j = m then b else jB g j := funext fun j => by
    unfold jB
    rw [c67 j]
    split
    · exact Int.toNat_natCast b
    · rfl
  have eK : jK g2 = fun j => if j = m then k else jK g j := funext fun j => by
    unfold jK
    rw [c66 j]
    split
    · exact Int.toNat_natCast k
    · rfl
  have eL : jL g2 = fun j => if j = m then l else jL g j := funext fun j => by
    unfold jL
    rw [c68 j]
    split
    · exact Int.toNat_natCast l
    · rfl
  have eE : jE g2 = fun j => if j = m then true else jE g j := funext fun j => by
    unfold jE
    rw [c69 j]
    split <;> rfl
  have hcong : ∀ j, j < m → jA g j = (fun j => if j = m then a else jA g j) j ∧ jB g j = (fun j => if j = m then b else jB g j) j ∧ jE g j = (fun j => if j = m then true else jE g j) j := fun j hj => by
    dsimp only
    rw [if_neg (by omega), if_neg (by omega), if_neg (by omega)]
    exact ⟨rfl, rfl, rfl⟩
  refine ⟨I_fit_tr hF I, ⟨⟨by rw [c14, c44], by rw [c44]; omega, by rw [c44]; omega⟩, fun j hj => ?_, T ||| 2 ^ m, cJ, Nat.or_lt_two_pow hT.1 (Nat.pow_lt_pow_right (by decide) hm60), fun j => ?_⟩, fun c hc => ?_, c23, hok.1, fun c => ?_, fun j hj hE => ?_, ?_, fun c hc => ?_⟩
  · rw [ejm] at hj
    rw [eA, eB, eK, eL, c15 j, c16 j, c17 j, c18 j, c65 j, c66 j, c67 j, c68 j, c69 j]
    dsimp only
    by_cases z : j = m
    · simp only [if_pos z]
      rw [k_mE hF, k_mE hF, k_tn hF]
      exact ⟨⟨trivial, trivial, ha⟩, ⟨trivial, trivial, hk⟩, ⟨trivial, trivial, hb⟩, ⟨trivial, trivial, hl⟩, Or.inr trivial, hab, ht⟩
    · simp only [if_neg z]
      rw [k_mE hF, k_mE hF, k_tn hF]
      exact V.2.1 j (by omega)
  · rw [Nat.testBit_or, Nat.testBit_two_pow, hT2 j, ejm, eE]
    dsimp only
    by_cases z : j = m
    · rw [if_pos z, decide_eq_true z.symm, Bool.or_true, decide_eq_true (show j < m + 1 by omega)]
      rfl
    · rw [if_neg z, decide_eq_false (show ¬ m = j from fun y => z y.symm), Bool.or_false]
      congr 1
      apply dec2
      rw [decide_eq_true_eq, decide_eq_true_eq]
      omega
  · have h19 := c19 c (by omega)
    have ecn : ∀ x, cn g2 c x ↔ gC (fun j => if j = m then a else jA g j) (fun j => if j = m then b else jB g j) (fun j => if j = m then true else jE g j) (m + 1) c x := fun x => by
      unfold cn
      rw [eA, eB, eE, ejm]
    by_cases z : (Ma ||| Mb).testBit c = true
    · rw [if_pos z] at h19
      obtain ⟨M, q1, q2, q3⟩ := h19
      exact ⟨M, q1, q2, fun x => by rw [q3 x, ecn x]⟩
    · rw [if_neg z] at h19
      obtain ⟨M, q1, q2, q3⟩ := G c hc
      refine ⟨M, by rw [h19]; exact q1, q2, fun x => ?_⟩
      rw [Nat.testBit_or, Bool.or_eq_true] at z
      have hno : ¬ cn g c a ∧ ¬ cn g c b := ⟨fun y => z (Or.inl ((ma.2 c).mpr (gC_sy y))), fun y => z (Or.inr ((mb.2 c).mpr (gC_sy y)))⟩
      rw [q3 x, ecn x]
      have hadd := gC_add (A := jA g) (B := jB g) (E := jE g) (A' := fun j => if j = m then a else jA g j) (B' := fun j => if j = m then b else jB g j) (E' := fun j => if j = m then true else jE g j) (m := m) (c := c) hcong (by
        rw [if_pos rfl, hm]
        exact hno.1) (by
        rw [if_pos rfl, hm]
        exact hno.2) x
      rw [hadd, hm]
      exact Iff.rfl
  · have := hok.2.1 c
    unfold Kb at this ⊢
    rw [ejm]
    exact bpl_mono this (by rw [hm]; omega)
  · rw [ejm] at hj
    unfold jpl
    rw [eE] at hE
    rw [eA, eB, eK, eL]
    dsimp only at hE ⊢
    by_cases z : j = m
    · simp only [if_pos z]
      rw [k_fpl hF]
      exact hok.2.2.2.1
    · simp only [if_neg z] at hE ⊢
      rw [k_fpl hF]
      exact hok.2.2.1 j (by omega) hE
  · obtain ⟨w, u, k1, k2, k3, k4, k5⟩ := W.2.2.2.2.1
    refine ⟨w, u, by rw [o 22 3 (by omega)]; exact k1, by rw [o 22 4 (by omega)]; exact k2, k3, k4, fun c => ?_⟩
    unfold hw hp
    rw [o 70 c (by omega), o 71 c (by omega)]
    exact k5 c
  · obtain ⟨q1, q2, q3⟩ := W.2.2.2.2.2 c hc
    have e1 : hw g2 c = hw g c := by
      unfold hw
      rw [o 70 c (by omega)]
    have e2 : hp g2 c = hp g c := by
      unfold hp
      rw [o 71 c (by omega)]
    rw [e1, e2, o 70 c (by omega), o 71 c (by omega), o 72 c (by omega), o 73 c (by omega), o 74 c (by omega)]
    refine ⟨q1, q2, fun z => ?_⟩
    rw [hok.2.2.2.2 c hc ⟨c, hc, gC_rf c, z⟩]
    exact q3 z
theorem gm_j_ne {g : gm_T} {c j m : Nat} {v : Int} : gm_I (gm_wI g c m v) c j = if j = m then v else gm_I g c j := by
  by_cases z : j = m
  · rw [if_pos z, z, gI_eq]
  · rw [if_neg z, gI_ne z]
theorem op_join {n : Nat} {g : gm_T} {P : Nat → plc} (h : IW n g P) (hcl : V_clash g) {a e b f : Int} (ha : rg a) (he : rg e) (hb : rg b) (hf : rg f) : ∃ r g1 g2, cw_join n g a e b f = some (r, g1) ∧ md_join g1 a e b f = some (r, g2) ∧ (∃ P2, IW n g2 P2) ∧ V_clash g2 ∧ exc wj jj g g2 := by
  have I := h.1
  have hn := I.1
  have hv := I.2.1
  have h30 := hn.2.2
  have same : ∀ r : Int, md_join g a e b f = some (r, g) → ∃ r' g1 g2, some (r, g) = some (r', g1) ∧ md_join g1 a e b f = some (r', g2) ∧ (∃ P2, IW n g2 P2) ∧ V_clash g2 ∧ exc wj jj g g2 := fun r q => ⟨r, g, g, rfl, q, ⟨P, h⟩, hcl, exc_rf⟩
  unfold cw_join
  by_cases hE : isE n g a e ∧ isE n g b f
  · obtain ⟨h1, h2⟩ := hE
    rw [cw_refuse_p I ha he hb hf h1 h2, jb1_some]
    by_cases hab : a = b
    · rw [if_pos hab, jg_pos (rgk rfl), if_neg (by decide)]
      refine same _ ?_
      unfold md_join
      rw [md_isEdge_eq hn hv ha he, jb_tst, if_pos h1, md_isEdge_eq hn hv hb hf, jb_tst, if_pos h2, jg_pos ⟨ha, hb⟩, if_pos hab]
    · rw [if_neg hab, jg_pos (rgk rfl), if_pos rfl]
      obtain ⟨c, k, rfl, rfl, hc, hk⟩ := isE_nat h1
      obtain ⟨d, l, rfl, rfl, hd, hl⟩ := isE_nat h2
      have hcd : c ≠ d := fun z => hab (by rw [z])
      have c8 := (hv c hc).1.2.2
      have d8 := (hv d hd).1.2.2
      have hEc : mE g c = gm_I g 46 c := rfl
      have hEd : mE g d = gm_I g 46 d := rfl
      -- what the reference's join does first
      have start : ∀ g1, keepC g1 = keepC g → md_join g1 (c : Int) (k : Int) (d : Int) (l : Int) = (jb1 (md_isFit g1 (c : Int) (k : Int) (d : Int) (l : Int)) fun (v6 : Int) => jg (rg v6) (if v6 = 0 then (some ((-3), g1)) else (jb1 (md_isTaken g1 (c : Int) (k : Int)) fun (v8 : Int) => jg (rg v8) (if v8 = 0 then (jb1 (md_isTaken g1 (d : Int) (l : Int)) fun (v10 : Int) => jg (rg v10) (if v10 = 0 then (jg (rg (gm_I g1 44 24)) (if (gm_I g1 44 24) = 60 then (some ((-4), g1)) else (jg (0 ≤ (gm_I g1 44 24) ∧ (gm_I g1 44 24) < 60) (jb2 (md_clashOf (gcand g1 (gm_I g1 44 24).toNat (c : Int) (k : Int) (d : Int) (l : Int)) (c : Int) (d : Int)) fun (v23 : Int) (g24 : gm_T) => jg (rg v23) (if v23 = 0 then (jg (0 ≤ (gm_I g24 44 24) ∧ (gm_I g24 44 24) < 60) (jl (gm_wI g24 69 ((gm_I g24 44 24)).toNat 1) fun (g26 : gm_T) => jl (gm_wI g26 44 24 ((gm_I g26 44 24) + 1)) fun (g28 : gm_T) => some (((gm_I g28 44 24) - 1), g28))) else (some (v23, g24))))))) else (some ((-3), g1)))) else (some ((-3), g1)))))) := by
        intro g1 e1
        have I1 := I_fit_tr (keepF_C e1) I
        have k1 := k_mE (keepF_C e1)
        have h1' : isE n g1 (c : Int) (k : Int) := by
          have := k1 c
          unfold isE mE at *
          rw [Int.toNat_natCast] at h1 ⊢
          rw [this]
          exact h1
        have h2' : isE n g1 (d : Int) (l : Int) := by
          have := k1 d
          unfold isE mE at *
          rw [Int.toNat_natCast] at h2 ⊢
          rw [this]
          exact h2
        unfold md_join
        rw [md_isEdge_eq I1.1 I1.2.1 ha he, jb_tst, if_pos h1', md_isEdge_eq I1.1 I1.2.1 hb hf, jb_tst, if_pos h2', jg_pos ⟨ha, hb⟩, if_neg hab]
        by_cases hg : 0 ≤ gm_I g1 44 24 ∧ gm_I g1 44 24 < 60
        · simp only [jl_eq, gI_oth (show (44 : Nat) ≠ 65 by decide), gI_oth (show (44 : Nat) ≠ 66 by decide), gI_oth (show (44 : Nat) ≠ 67 by decide), gI_oth (show (44 : Nat) ≠ 68 by decide), jg_pos hg]
          rfl
        · have hng : ∀ o : Option (Int × gm_T), jg (0 ≤ gm_I g1 44 24 ∧ gm_I g1 44 24 < 60) o = none := fun o => by
            unfold jg
            rw [@if_neg _ (gd _) hg]
          simp only [hng]
      have tk : ∀ g1, keepC g1 = keepC g → ∀ x y, taken g1 (jm g1) x y = taken g (jm g) x y := fun g1 e1 x y => by
        unfold taken
        rw [c_jA e1, c_jB e1, c_jK e1, c_jL e1, c_jE e1, c_jm e1]
      by_cases hF : isF g c k d l
      · obtain ⟨q1, q2, q3⟩ := cf_fit_p I hc hd hk hl hF
        have hpl := fpl_b hv hc hd hk hl hF.2.1
        rw [q1, jb1_some, if_neg q2, cj_taken_eq I h.2.1 hc (by omega), jb_gd]
        by_cases t1 : taken g (jm g) c k
        · rw [@if_pos _ (gd _) t1]
          refine same _ ?_
          rw [start g rfl, md_fit_p I hc hd hk hl hF, jb1_some, jg_pos (rgk rfl), if_neg n10, md_taken_eq I (vm h.2.1) hc (by omega), jb_gd, @if_pos _ (gd _) t1]
        · rw [@if_neg _ (gd _) t1, cj_taken_eq I h.2.1 hd (by omega), jb_gd]
          by_cases t2 : taken g (jm g) d l
          · rw [@if_pos _ (gd _) t2]
            refine same _ ?_
            rw [start g rfl, md_fit_p I hc hd hk hl hF, jb1_some, jg_pos (rgk rfl), if_neg n10, md_taken_eq I (vm h.2.1) hc (by omega), jb_gd, @if_neg _ (gd _) t1, md_taken_eq I (vm h.2.1) hd (by omega), jb_gd, @if_pos _ (gd _) t2]
          · rw [@if_neg _ (gd _) t2]
            obtain ⟨m60, m1, m2⟩ := jm_60 h.2.1
            rw [m2, jg_pos (rgn (by omega))]
            by_cases hm : jm g = 60
            · rw [if_pos (by omega)]
              refine same _ ?_
              rw [start g rfl, md_fit_p I hc hd hk hl hF, jb1_some, jg_pos (rgk rfl), if_neg n10, md_taken_eq I (vm h.2.1) hc (by omega), jb_gd, @if_neg _ (gd _) t1, md_taken_eq I (vm h.2.1) hd (by omega), jb_gd, @if_neg _ (gd _) t2, m1, jg_pos (rgn (by omega)), if_pos (by omega)]
            · have hm60 : jm g < 60 := by omega
              rw [if_neg (by omega)]
              -- the reference, on a state with the same cells
              have mid : ∀ g1, keepC g1 = keepC g → md_join g1 (c : Int) (k : Int) (d : Int) (l : Int) = (jb2 (md_clashOf (gcand g1 (jm g) (c : Int) (k : Int) (d : Int) (l : Int)) (c : Int) (d : Int)) fun (v23 : Int) (g24 : gm_T) => jg (rg v23) (if v23 = 0 then (jg (0 ≤ (gm_I g24 44 24) ∧ (gm_I g24 44 24) < 60) (jl (gm_wI g24 69 ((gm_I g24 44 24)).toNat 1) fun (g26 : gm_T) => jl (gm_wI g26 44 24 ((gm_I g26 44 24) + 1)) fun (g28 : gm_T) => some (((gm_I g28 44 24) - 1), g28))) else (some (v23, g24)))) := by
                intro g1 e1
                have I1 := I_fit_tr (keepF_C e1) I
                have k1 := k_mE (keepF_C e1)
                have e24 : gm_I g1 44 24 = ((jm g : Nat) : Int) := by
                  have h9 : gm_I (keepC g1) 44 24 = gm_I (keepC g) 44 24 := by rw [e1]
                  exact h9.trans m1
                have V1 := V_jm_tr e1 (vm h.2.1)
                rw [start g1 e1, md_fit_p I1 hc hd (by rw [k1]; exact hk) (by rw [k1]; exact hl) (by rw [k_isF (keepF_C e1)]; exact hF), jb1_some, jg_pos (rgk rfl), if_neg n10, md_taken_eq I1 V1 hc (by omega), jb_gd, tk g1 e1, @if_neg _ (gd _) t1, md_taken_eq I1 V1 hd (by omega), jb_gd, tk g1 e1, @if_neg _ (gd _) t2, e24, jg_pos (rgn (by omega)), if_neg (by omega), jg_pos (by omega), Int.toNat_natCast]
              -- the tried join
              have hgc : IW n (gcand g (jm g) (c : Int) (k : Int) (d : Int) (l : Int)) P := IW_cand h _ _ _ _
              have hFc := wj_F (cand_wj (g := g) (jm g) (c : Int) (k : Int) (d : Int) (l : Int))
              obtain ⟨s65, s66, s67, s68, s69⟩ := cand_m g (jm g) (c : Int) (k : Int) (d : Int) (l : Int)
              have ejmc : jm (gcand g (jm g) (c : Int) (k : Int) (d : Int) (l : Int)) = jm g := cand_jm g (jm g) _ _ _ _
              have eAc : jA (gcand g (jm g) (c : Int) (k : Int) (d : Int) (l : Int)) (jm g) = c := by unfold jA; rw [s65]; exact Int.toNat_natCast c
              have eKc : jK (gcand g (jm g) (c : Int) (k : Int) (d : Int) (l : Int)) (jm g) = k := by unfold jK; rw [s66]; exact Int.toNat_natCast k
              have eBc : jB (gcand g (jm g) (c : Int) (k : Int) (d : Int) (l : Int)) (jm g) = d := by unfold jB; rw [s67]; exact Int.toNat_natCast d
              have eLc : jL (gcand g (jm g) (c : Int) (k : Int) (d : Int) (l : Int)) (jm g) = l := by unfold jL; rw [s68]; exact Int.toNat_natCast l
              have hjk : jok n (gcand g (jm g) (c : Int) (k : Int) (d : Int) (l : Int)) (jm g) := by
                unfold jok
                rw [eAc, eKc, eBc, eLc, s65, s66, s67, s68, k_mE hFc, k_mE hFc, k_tn hFc]
                exact ⟨⟨rfl, hc⟩, ⟨rfl, hk⟩, ⟨rfl, hd⟩, ⟨rfl, hl⟩, hcd, hF.2.1⟩
              have hjpl : jpl (gcand g (jm g) (c : Int) (k : Int) (d : Int) (l : Int)) (jm g) = fpl g c k d l := by
                unfold jpl
                rw [eAc, eKc, eBc, eLc, k_fpl hFc]
              have hwc : hw (gcand g (jm g) (c : Int) (k : Int) (d : Int) (l : Int)) = hw g := funext fun x => by
                unfold hw
                rw [cand_at g (jm g) _ _ _ _ 70 x (Or.inr (by decide))]
              have hpc : hp (gcand g (jm g) (c : Int) (k : Int) (d : Int) (l : Int)) = hp g := funext fun x => by
                unfold hp
                rw [cand_at g (jm g) _ _ _ _ 71 x (Or.inr (by decide))]
              have verdict : ∀ g1, keepC g1 = keepC g → ∃ k' x y d' w, VR n g P c d (fpl g c k d l) k' x y d' w ∧ d' ≤ 60 ∧ MO k' x y d' w (gcand g1 (jm g) (c : Int) (k : Int) (d : Int) (l : Int)) (md_clashOf (gcand g1 (jm g) (c : Int) (k : Int) (d : Int) (l : Int)) (c : Int) (d : Int)) := by
                intro g1 e1
                have e2 : keepC (gcand g1 (jm g) (c : Int) (k : Int) (d : Int) (l : Int)) = keepC (gcand g (jm g) (c : Int) (k : Int) (d : Int) (l : Int)) := by
                  rw [gcand_keep, gcand_keep, e1]
                obtain ⟨k', x, y, d', w, v1, v2, v3⟩ := md_clashOf_eq (im hgc) e2 hc hd (by rw [ejmc]; exact hm60) (by rw [ejmc]; exact hjk) (by rw [ejmc]; exact eAc) (by rw [ejmc]; exact eBc)
                rw [ejmc, hjpl] at v1
                exact ⟨k', x, y, d', w, VR_conv (vm h.2.1) ejmc (fun j hj => by
                  obtain ⟨z1, z2, z3, z4, z5⟩ := cand_j g (c : Int) (k : Int) (d : Int) (l : Int) hj
                  exact ⟨z1.symm, z3.symm, z5.symm⟩) hFc hwc hpc hc hd v1, v2, v3⟩
              obtain ⟨k', x, y, d', w, v1, v2, v3, v4⟩ := cv_attach_eq h hc hd hpl
              by_cases hk0 : k' = 0
              · -- it stands
                obtain ⟨P2, g10, r1, r2, r3, r4⟩ := v4.1 hk0
                obtain ⟨Ma, ma1, ma2⟩ := h.2.2.1 c hc
                obtain ⟨Mb, mb1, mb2⟩ := h.2.2.1 d hd
                obtain ⟨T, tt1, tt2, tt3⟩ := h.2.1.2.2
                have hTm : isMm (jm g) T (jE g) := ⟨tt2, fun j hj => by rw [tt3 j, decide_eq_true hj, Bool.true_and]⟩
                have Vc := V_jc_of h.2.1
                have Vc10 : V_jc n g10 (jA g) (jB g) (jm g) := ⟨⟨Vc.1.1, by rw [r2.1 14 4 rfl]; exact Vc.1.2⟩, fun j hj => by
                  rw [r2.1 15 j rfl, r2.1 17 j rfl]
                  exact Vc.2 j hj⟩
                obtain ⟨g13, a1, a2, a3, a4, a5, a6, a7, a8, a9⟩ := cj_add_eq h30 Vc10 hm60 hTm (by rw [r2.2 14 5 rfl]; exact tt1) (k := k) (l := l) hc hd (by rw [r2.1 19 c rfl]; exact ma1) (by rw [r2.1 19 d rfl]; exact mb1) ma2.1 mb2.1
                have x13 : exc (fun c _ => c == 14 || c == 15 || c == 16 || c == 17 || c == 18 || c == 19) (fun c _ => c == 23 || c == 14) g g13 := exc_tr (exc_mono r2 (fun a k q => by cases q) (fun a k q => by rw [q]; rfl)) (exc_mono a9 (fun _ _ q => q) (fun a k q => by rw [q, Bool.or_true]))
                have e13 : keepC g13 = keepC g := keepC_exc x13 (fun a k q => by
                  simp only [Bool.or_eq_true, beq_iff_eq] at q
                  rcases q with ((((rfl | rfl) | rfl) | rfl) | rfl) | rfl <;> simp [cls]) (fun a k q => by
                  simp only [Bool.or_eq_true, beq_iff_eq] at q
                  rcases q with rfl | rfl <;> simp [cls])
                obtain ⟨k2, x2, y2, d2, w2, u1, u2, u3⟩ := verdict g13 e13
                have hk2 : k2 = 0 := by
                  rw [← (VR_uniq v1 u1).1]
                  exact hk0
                obtain ⟨g24, p1, p2⟩ := u3.1 hk2
                have h2424 : gm_I g24 44 24 = ((jm g : Nat) : Int) := by
                  rw [p2.1 44 24 rfl, cand_at g13 (jm g) _ _ _ _ 44 24 (Or.inr (by decide)), x13.1 44 24 rfl]
                  exact m1
                rw [r1, jb2_some, jg_pos (rgk rfl), if_pos rfl, a1, jb2_some]
                refine ⟨_, g13, gm_wI (gm_wI g24 69 (jm g) 1) 44 24 (((jm g : Nat) : Int) + 1), rfl, ?_, ⟨P2, ?_⟩, ?_, ?_⟩
                · rw [mid g13 e13, p1, jb2_some, jg_pos (rgk rfl), if_pos rfl, h2424, jg_pos (by omega), Int.toNat_natCast, jl_eq, gI_oth (by decide), h2424, jl_eq, gI_eq]
                  congr 2
                  omega
                · have t : ∀ c' j, scr c' j = false → (c', j) ≠ (44, 24) → c' ≠ 69 → gm_I (gm_wI (gm_wI g24 69 (jm g) 1) 44 24 (((jm g : Nat) : Int) + 1)) c' j = gm_I (gcand g13 (jm g) (c : Int) (k : Int) (d : Int) (l : Int)) c' j := by
                    intro c' j hs h1 h2
                    have h3 : gm_I (gm_wI (gm_wI g24 69 (jm g) 1) 44 24 (((jm g : Nat) : Int) + 1)) c' j = gm_I (gm_wI g24 69 (jm g) 1) c' j := by
                      by_cases z : c' = 44
                      · rw [z]
                        exact gI_ne (fun y => h1 (by rw [z, y]))
                      · exact gI_oth z
                    rw [h3, gI_oth h2, p2.1 c' j hs]
                  have tg : ∀ c' j, gm_I (gcand g13 (jm g) (c : Int) (k : Int) (d : Int) (l : Int)) c' j = if j = jm g then (if c' = 65 then (c : Int) else if c' = 66 then (k : Int) else if c' = 67 then (d : Int) else if c' = 68 then (l : Int) else if c' = 69 then 0 else gm_I g13 c' j) else gm_I g13 c' j := by
                    intro c' j
                    obtain ⟨b1, b2, b3, b4, b5⟩ := cand_m g13 (jm g) (c : Int) (k : Int) (d : Int) (l : Int)
                    by_cases z : j = jm g
                    · rw [if_pos z, z]
                      by_cases z1 : c' = 65
                      · rw [if_pos z1, z1]; exact b1
                      · by_cases z2 : c' = 66
                        · rw [if_neg z1, if_pos z2, z2]; exact b2
                        · by_cases z3 : c' = 67
                          · rw [if_neg z1, if_neg z2, if_pos z3, z3]; exact b3
                          · by_cases z4 : c' = 68
                            · rw [if_neg z1, if_neg z2, if_neg z3, if_pos z4, z4]; exact b4
                            · by_cases z5 : c' = 69
                              · rw [if_neg z1, if_neg z2, if_neg z3, if_neg z4, if_pos z5, z5]; exact b5
                              · rw [if_neg z1, if_neg z2, if_neg z3, if_neg z4, if_neg z5]
                                exact cand_at g13 (jm g) _ _ _ _ c' (jm g) (Or.inr ⟨z1, z2, z3, z4, z5⟩)
                    · rw [if_neg z]
                      exact cand_at g13 (jm g) _ _ _ _ c' j (Or.inl z)
                  have tc : ∀ c' j, scr c' j = false → (c', j) ≠ (44, 24) → c' ≠ 69 → (c' ≠ 65 ∧ c' ≠ 66 ∧ c' ≠ 67 ∧ c' ≠ 68) → gm_I (gm_wI (gm_wI g24 69 (jm g) 1) 44 24 (((jm g : Nat) : Int) + 1)) c' j = gm_I g13 c' j := by
                    intro c' j h1 h2 h3 h4
                    rw [t c' j h1 h2 h3, cand_at g13 (jm g) _ _ _ _ c' j (Or.inr ⟨h4.1, h4.2.1, h4.2.2.1, h4.2.2.2, h3⟩)]
                  have J24 : ∀ c' j, scrJ c' j = false → gm_J (gm_wI (gm_wI g24 69 (jm g) 1) 44 24 (((jm g : Nat) : Int) + 1)) c' j = gm_J g13 c' j := fun c' j hs => p2.2 c' j hs
                  refine IW_made h (m := jm g) (P2 := P2) rfl hm60 hc hd hk hl hcd hF.2.1 r4 ?_ ?_ ?_ tt1 ⟨tt2, hTm.2⟩ tt3 ?_ ?_ ?_ ?_ ?_ ?_ ?_ ?_ ?_ ?_ ma2 mb2 (fun c' hc' => ?_) (fun c' hc' => ?_) (fun c' j hc' => ?_)
                  · have xx : exc wj jj g (gm_wI (gm_wI g24 69 (jm g) 1) 44 24 (((jm g : Nat) : Int) + 1)) := by
                      refine exc_wI (exc_wI (exc_tr (exc_tr (exc_mono x13 (fun a k q => ?_) (fun a k q => ?_)) (cand_wj (jm g) (c : Int) (k : Int) (d : Int) (l : Int))) (wj_kw (kw_scr p2))) ?_) ?_
                      · simp only [Bool.or_eq_true, beq_iff_eq] at q
                        rcases q with ((((rfl | rfl) | rfl) | rfl) | rfl) | rfl <;> simp [wj]
                      · simp only [Bool.or_eq_true, beq_iff_eq] at q
                        rcases q with rfl | rfl <;> simp [jj, jk]
                      · simp [wj]
                      · simp [wj]
                    exact wj_F xx
                  · rw [tc 14 4 rfl (by decide) (by decide) (by decide)]; exact a2
                  · rw [gI_eq]; rfl
                  · rw [J24 14 5 rfl]; exact a3
                  · intro j; rw [tc 15 j rfl (fun z => by cases z) (by decide) (by decide), a4 j, r2.1 15 j rfl]
                  · intro j; rw [tc 16 j rfl (fun z => by cases z) (by decide) (by decide), a5 j, r2.1 16 j rfl]
                  · intro j; rw [tc 17 j rfl (fun z => by cases z) (by decide) (by decide), a6 j, r2.1 17 j rfl]
                  · intro j; rw [tc 18 j rfl (fun z => by cases z) (by decide) (by decide), a7 j, r2.1 18 j rfl]
                  · intro j; rw [t 65 j rfl (fun z => by cases z) (by decide), tg 65 j, if_pos rfl, x13.1 65 j rfl]
                  · intro j; rw [t 66 j rfl (fun z => by cases z) (by decide), tg 66 j, if_neg (show ¬ (66 : Nat) = 65 by decide), if_pos rfl, x13.1 66 j rfl]
                  · intro j; rw [t 67 j rfl (fun z => by cases z) (by decide), tg 67 j, if_neg (show ¬ (67 : Nat) = 65 by decide), if_neg (show ¬ (67 : Nat) = 66 by decide), if_pos rfl, x13.1 67 j rfl]
                  · intro j; rw [t 68 j rfl (fun z => by cases z) (by decide), tg 68 j, if_neg (show ¬ (68 : Nat) = 65 by decide), if_neg (show ¬ (68 : Nat) = 66 by decide), if_neg (show ¬ (68 : Nat) = 67 by decide), if_pos rfl, x13.1 68 j rfl]
                  · intro j
                    rw [gI_oth (by decide), gm_j_ne]
                    by_cases z : j = jm g
                    · rw [if_pos z, if_pos z]
                    · rw [if_neg z, if_neg z, p2.1 69 j rfl, tg 69 j, if_neg z, x13.1 69 j rfl]
                  · have h19 := a8 c' hc'
                    rw [tc 19 c' rfl (fun z => by cases z) (by decide) (by decide)]
                    rw [r2.1 19 c' rfl] at h19
                    exact h19
                  · rw [J24 23 c' rfl, a9.2 23 c' rfl]
                    exact r3 c' hc'
                  · rcases hc' with ⟨rfl, rfl | rfl⟩ | rfl | rfl | rfl | rfl | rfl
                    · rw [tc 22 3 rfl (by decide) (by decide) (by decide), x13.1 22 3 rfl]
                    · rw [tc 22 4 rfl (by decide) (by decide) (by decide), x13.1 22 4 rfl]
                    · rw [tc 70 j rfl (fun z => by cases z) (by decide) (by decide), x13.1 70 j rfl]
                    · rw [tc 71 j rfl (fun z => by cases z) (by decide) (by decide), x13.1 71 j rfl]
                    · rw [tc 72 j rfl (fun z => by cases z) (by decide) (by decide), x13.1 72 j rfl]
                    · rw [tc 73 j rfl (fun z => by cases z) (by decide) (by decide), x13.1 73 j rfl]
                    · rw [tc 74 j rfl (fun z => by cases z) (by decide) (by decide), x13.1 74 j rfl]
                · have o : ∀ c' j, scr c' j = false → (c', j) ≠ (44, 24) → (c' ≠ 65 ∧ c' ≠ 66 ∧ c' ≠ 67 ∧ c' ≠ 68 ∧ c' ≠ 69) → gm_I (gm_wI (gm_wI g24 69 (jm g) 1) 44 24 (((jm g : Nat) : Int) + 1)) c' j = gm_I g13 c' j := by
                    intro c' j hs h1 h2
                    have h3 : gm_I (gm_wI (gm_wI g24 69 (jm g) 1) 44 24 (((jm g : Nat) : Int) + 1)) c' j = gm_I (gm_wI g24 69 (jm g) 1) c' j := by
                      by_cases z : c' = 44
                      · rw [z]
                        exact gI_ne (fun y => h1 (by rw [z, y]))
                      · exact gI_oth z
                    rw [h3, gI_oth h2.2.2.2.2, p2.1 c' j hs, cand_at g13 (jm g) _ _ _ _ c' j (Or.inr h2)]
                  unfold V_clash
                  rw [o 22 5 rfl (by decide) (by decide), o 22 6 rfl (by decide) (by decide), o 22 7 rfl (by decide) (by decide), o 22 8 rfl (by decide) (by decide), o 44 35 rfl (by decide) (by decide), o 44 36 rfl (by decide) (by decide), o 44 37 rfl (by decide) (by decide), o 44 38 rfl (by decide) (by decide), x13.1 22 5 rfl, x13.1 22 6 rfl, x13.1 22 7 rfl, x13.1 22 8 rfl, x13.1 44 35 rfl, x13.1 44 36 rfl, x13.1 44 37 rfl, x13.1 44 38 rfl]
                  obtain ⟨z1, z2, z3, z4, z5⟩ := hcl
                  refine ⟨z1, z2, z3, z4, fun j hj => ?_⟩
                  rw [o 24 j rfl (fun z => by cases z) (by decide), o 75 j rfl (fun z => by cases z) (by decide), x13.1 24 j rfl, x13.1 75 j rfl]
                  exact z5 j hj
                · refine exc_wI (exc_wI (exc_tr (exc_tr (exc_mono x13 (fun a k q => ?_) (fun a k q => ?_)) (cand_wj (jm g) (c : Int) (k : Int) (d : Int) (l : Int))) (wj_kw (kw_scr p2))) ?_) ?_
                  · simp only [Bool.or_eq_true, beq_iff_eq] at q
                    rcases q with ((((rfl | rfl) | rfl) | rfl) | rfl) | rfl <;> simp [wj]
                  · simp only [Bool.or_eq_true, beq_iff_eq] at q
                    rcases q with rfl | rfl <;> simp [jj, jk]
                  · simp [wj]
                  · simp [wj]
              · -- a clash
                obtain ⟨g1, r1, r2, r3, r4, r5, r6, r7⟩ := v4.2 hk0
                have e1 := keepC_cc r7
                obtain ⟨k2, x2, y2, d2, w2, u1, u2, u3⟩ := verdict g1 e1
                obtain ⟨rfl, hu⟩ := VR_uniq v1 u1
                obtain ⟨rfl, rfl, rfl, hww⟩ := hu hk0
                obtain ⟨g2, p1, p2, p3, p4, p5, p6, p7⟩ := u3.2 hk0
                have o22 : ∀ c' j, c' = 22 ∨ c' = 24 → gm_I (gcand g1 (jm g) (c : Int) (k : Int) (d : Int) (l : Int)) c' j = gm_I g1 c' j := fun c' j hc' => cand_at g1 (jm g) _ _ _ _ c' j (Or.inr (by omega))
                have ejm1 : jm g1 = jm g := c_jm e1
                rw [r1, jb2_some, jg_pos (rgn (by omega)), if_neg (by omega)]
                refine ⟨_, g1, g2, rfl, ?_, ⟨P, ?_⟩, ?_, ?_⟩
                · rw [mid g1 e1, p1, jb2_some, jg_pos ⟨by omega, by omega⟩, if_neg (by omega)]
                · have h1' := IW_kw h (cc_kw r7)
                  have h2' := IW_cand h1' (c : Int) (k : Int) (d : Int) (l : Int)
                  rw [ejm1] at h2'
                  exact IW_kw h2' (km_kw p7)
                · refine V_clash_of p7 (k := k') (d := d') (w := w) v3 v2 ?_ ?_ ?_ ?_ (fun j hj => ?_) p2 p3 p4 p5 (fun j hj => ?_)
                  · rw [o22 22 5 (Or.inl rfl)]; exact r2
                  · rw [o22 22 6 (Or.inl rfl)]; exact r3
                  · rw [o22 22 7 (Or.inl rfl)]; exact r4
                  · rw [o22 22 8 (Or.inl rfl)]; exact r5
                  · rw [o22 24 j (Or.inr rfl)]; exact r6 j hj
                  · rw [p6 j hj, hww j hj]
                · exact exc_tr (wj_kw (cc_kw r7)) (exc_tr (cand_wj (jm g) _ _ _ _) (wj_kw (km_kw p7)))
      · rw [cf_fit_n I hc hd hk hl hF, jb1_some, if_pos lC_m1]
        refine same _ ?_
        rw [start g rfl, md_fit_n I hc hd hk hl hF, jb1_some, jg_pos (rgk rfl), if_pos rfl]
  · rw [cw_refuse_n I ha he hb hf hE, jb1_some, jg_pos (rgk rfl), if_neg (by decide)]
    refine same _ ?_
    unfold md_join
    rw [md_isEdge_eq hn hv ha he, jb_tst]
    by_cases h1 : isE n g a e
    · rw [if_pos h1, md_isEdge_eq hn hv hb hf, jb_tst, if_neg (fun q => hE ⟨h1, q⟩)]
    · rw [if_neg h1]
