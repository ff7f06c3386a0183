/-! Arrangements: the class's solve. -/
theorem low_off {m k : Nat} (hm : m < 2147483648) (hk : m.testBit k = true) (hl : ∀ j, j < k → m.testBit j = false) : ∃ m2 : Nat, zA (m : Int) ((m : Int) - 1) = (m2 : Int) ∧ m2 < 2147483648 ∧ ∀ i, m2.testBit i = (m.testBit i && !decide (i = k)) := by
  have hpos : 0 < m := by
    rcases Nat.eq_zero_or_pos m with h | h
    · rw [h] at hk
      simp at hk
    · exact h
  have hmod : m % 2 ^ (k + 1) = 2 ^ k := by
    apply Nat.eq_of_testBit_eq
    intro i
    rw [Nat.testBit_mod_two_pow, Nat.testBit_two_pow]
    by_cases c : i < k
    · rw [hl i c, Bool.and_false, decide_eq_false (by omega)]
    · by_cases z : i = k
      · rw [z, hk]
        simp
      · rw [decide_eq_false (show ¬ i < k + 1 by omega), decide_eq_false (show ¬ k = i by omega), Bool.false_and]
  have hdec : m = 2 ^ (k + 1) * (m / 2 ^ (k + 1)) + 2 ^ k := by
    have := Nat.div_add_mod m (2 ^ (k + 1))
    omega
  have h2 : 0 < 2 ^ k := Nat.two_pow_pos k
  have h3 : 2 ^ k - 1 < 2 ^ (k + 1) := by
    have : 2 ^ (k + 1) = 2 ^ k * 2 := Nat.pow_succ 2 k
    omega
  have hm1 : m - 1 = 2 ^ (k + 1) * (m / 2 ^ (k + 1)) + (2 ^ k - 1) := by omega
  refine ⟨m &&& (m - 1), ?_, Nat.lt_of_le_of_lt (and_le_l _ _) hm, fun i => ?_⟩
  · rw [show (m : Int) - 1 = ((m - 1 : Nat) : Int) by omega, zA_n _ hm]
  · rw [Nat.testBit_and, hm1, Nat.testBit_two_pow_mul_add _ h3, Nat.testBit_two_pow_sub_one]
    by_cases c : i < k
    · rw [hl i c, Bool.false_and, Bool.false_and]
    · by_cases z : i = k
      · rw [z, if_pos (by omega), decide_eq_false (Nat.lt_irrefl k), Bool.and_false, decide_eq_true rfl, Bool.not_true, Bool.and_false]
      · have e : m.testBit i = (m / 2 ^ (k + 1)).testBit (i - (k + 1)) := by
          rw [Nat.testBit_div_two_pow]
          congr 1
          omega
        rw [if_neg (by omega), ← e, Bool.and_self, decide_eq_false z, Bool.not_false, Bool.and_true]
theorem ca_sol_step {n : Nat} {S k A : Nat} (hS : S < 2147483648) (hA : S.testBit A = true) (hl : ∀ j, j < A → S.testBit j = false) (hk : k < 3) {c1 : Int} {f : Nat} {g : gm_T} : ∃ S2 : Nat, S2 < 2147483648 ∧ (∀ i, S2.testBit i = (S.testBit i && !decide (i = A))) ∧ ca_solve_l4 n c1 (f + 1) (S : Int) (k : Int) g = ca_solve_l4 n c1 f (S2 : Int) ((k : Int) + 1) (gm_wI g 31 k (A : Int)) := by
  obtain ⟨S2, h1, h2, h3⟩ := low_off hS hA hl
  have h0 : S ≠ 0 := fun q => by
    rw [q] at hA
    simp at hA
  refine ⟨S2, h2, h3, ?_⟩
  conv => lhs; unfold ca_solve_l4
  rw [jg_pos (rgn (by omega)), if_pos (by omega), jg_pos ⟨by omega, by omega⟩, if_neg (by omega), jd_ntz_n g hS hA hl, jb1_some, jb1_some, jg_pos (by omega), jl_eq, jl_eq, h1, Int.toNat_natCast]
theorem ca_sol_zero {n k : Nat} (hk : k < 3) {c1 : Int} {f : Nat} {g : gm_T} : ca_solve_l4 n c1 (f + 1) 0 (k : Int) g = ca_solve_l4 n c1 f 0 ((k : Int) + 1) (gm_wI g 31 k (-1)) := by
  conv => lhs; unfold ca_solve_l4
  rw [jg_pos (rgn (by omega)), if_pos (by omega), jg_pos (rgk rfl), if_pos rfl, jb1_some, jg_pos (by omega), jl_eq, jl_eq, Int.toNat_natCast, show zA 0 (0 - 1) = 0 from by decide +kernel]
theorem ca_sol_end {n : Nat} {c1 v : Int} {f : Nat} {g : gm_T} : ca_solve_l4 n c1 (f + 1) v 3 g = some g := by
  unfold ca_solve_l4
  rw [jg_pos (rgk rfl), if_neg (by decide)]
theorem no_bits {S : Nat} (h : ∀ i, S.testBit i = false) : S = 0 := by
  apply Nat.eq_of_testBit_eq
  intro i
  rw [h i, Nat.zero_testBit]
theorem ca_sol_2 {n : Nat} {S A B : Nat} (hS : S < 2147483648) (hAB : A < B) (hb : ∀ i, S.testBit i = true ↔ i = A ∨ i = B) {c1 : Int} {g : gm_T} : ca_solve_l4 n c1 fz (S : Int) 0 g = some (gm_wI (gm_wI (gm_wI g 31 0 (A : Int)) 31 1 (B : Int)) 31 2 (-1)) := by
  have fl : ∀ j, ¬ (j = A ∨ j = B) → S.testBit j = false := fun j q => Bool.eq_false_iff.mpr (fun z => q ((hb j).mp z))
  obtain ⟨S2, a1, a2, a3⟩ := ca_sol_step (n := n) (k := 0) (c1 := c1) (f := 99999) (g := g) hS ((hb A).mpr (Or.inl rfl)) (fun j hj => fl j (by omega)) (by decide)
  have hb2 : S2.testBit B = true := by rw [a2, (hb B).mpr (Or.inr rfl), decide_eq_false (by omega)]; rfl
  obtain ⟨S3, b1, b2, b3⟩ := ca_sol_step (n := n) (k := 1) (c1 := c1) (f := 99998) (g := gm_wI g 31 0 (A : Int)) a1 hb2 (fun j hj => by
    rw [a2]
    by_cases z : j = A
    · rw [decide_eq_true z, Bool.not_true, Bool.and_false]
    · rw [fl j (by omega), Bool.false_and]) (by decide)
  have e3 : S3 = 0 := no_bits (fun i => by
    rw [b2, a2]
    by_cases z : i = A
    · rw [decide_eq_true z, Bool.not_true, Bool.and_false, Bool.false_and]
    · by_cases y : i = B
      · rw [decide_eq_true y, Bool.not_true, Bool.and_false]
      · rw [fl i (by omega), Bool.false_and, Bool.false_and])
  rw [e3] at b3
  rw [show fz = 99999 + 1 from rfl, show ca_solve_l4 n c1 (99999 + 1) (S : Int) 0 g = _ from a3, show ca_solve_l4 n c1 99999 (S2 : Int) (((0 : Nat) : Int) + 1) (gm_wI g 31 0 (A : Int)) = _ from b3, show ca_solve_l4 n c1 99998 ((0 : Nat) : Int) (((1 : Nat) : Int) + 1) (gm_wI (gm_wI g 31 0 (A : Int)) 31 1 (B : Int)) = _ from ca_sol_zero (k := 2) (f := 99997) (by decide)]
  exact ca_sol_end (f := 99996)
theorem ca_sol_3 {n : Nat} {S A B C : Nat} (hS : S < 2147483648) (hAB : A < B) (hBC : B < C) (hb : ∀ i, S.testBit i = true ↔ i = A ∨ i = B ∨ i = C) {c1 : Int} {g : gm_T} : ca_solve_l4 n c1 fz (S : Int) 0 g = some (gm_wI (gm_wI (gm_wI g 31 0 (A : Int)) 31 1 (B : Int)) 31 2 (C : Int)) := by
  have fl : ∀ j, ¬ (j = A ∨ j = B ∨ j = C) → S.testBit j = false := fun j q => Bool.eq_false_iff.mpr (fun z => q ((hb j).mp z))
  obtain ⟨S2, a1, a2, a3⟩ := ca_sol_step (n := n) (k := 0) (c1 := c1) (f := 99999) (g := g) hS ((hb A).mpr (Or.inl rfl)) (fun j hj => fl j (by omega)) (by decide)
  have hb2 : S2.testBit B = true := by rw [a2, (hb B).mpr (Or.inr (Or.inl rfl)), decide_eq_false (by omega)]; rfl
  obtain ⟨S3, b1, b2, b3⟩ := ca_sol_step (n := n) (k := 1) (c1 := c1) (f := 99998) (g := gm_wI g 31 0 (A : Int)) a1 hb2 (fun j hj => by
    rw [a2]
    by_cases z : j = A
    · rw [decide_eq_true z, Bool.not_true, Bool.and_false]
    · rw [fl j (by omega), Bool.false_and]) (by decide)
  have hb3 : S3.testBit C = true := by rw [b2, a2, (hb C).mpr (Or.inr (Or.inr rfl)), decide_eq_false (show ¬ C = A by omega), decide_eq_false (show ¬ C = B by omega)]; rfl
  obtain ⟨S4, d1, d2, d3⟩ := ca_sol_step (n := n) (k := 2) (c1 := c1) (f := 99997) (g := gm_wI (gm_wI g 31 0 (A : Int)) 31 1 (B : Int)) b1 hb3 (fun j hj => by
    rw [b2, a2]
    by_cases z : j = A
    · rw [decide_eq_true z, Bool.not_true, Bool.and_false, Bool.false_and]
    · by_cases y : j = B
      · rw [decide_eq_true y, Bool.not_true, Bool.and_false]
      · rw [fl j (by omega), Bool.false_and, Bool.false_and]) (by decide)
  rw [show fz = 99999 + 1 from rfl, show ca_solve_l4 n c1 (99999 + 1) (S : Int) 0 g = _ from a3, show ca_solve_l4 n c1 99999 (S2 : Int) (((0 : Nat) : Int) + 1) (gm_wI g 31 0 (A : Int)) = _ from b3, show ca_solve_l4 n c1 99998 (S3 : Int) (((1 : Nat) : Int) + 1) (gm_wI (gm_wI g 31 0 (A : Int)) 31 1 (B : Int)) = _ from d3]
  exact ca_sol_end (f := 99996)
def W_sv (a k : Nat) : Bool := scr a k || (a == 27 && k == 8)
def J_sv (a k : Nat) : Bool := scrJ a k || (a == 27 && (k == 9 || k == 10))
theorem sv_scr {g g2 : gm_T} (h : exc scr scrJ g g2) : exc W_sv J_sv g g2 := exc_mono h (fun a k q => by unfold W_sv; rw [q]; rfl) (fun a k q => by unfold J_sv; rw [q]; rfl)
theorem isL_ls {g0 : gm_T} {w w2 a b : Nat} (hw : w ≠ w2) {g g2 : gm_T} (x : exc (W_ls w2) (J_ls w2) g g2) (h : isL g0 w a b g) : isL g0 w a b g2 := by
  obtain ⟨m, pl, h1, h2, h3, h4⟩ := h
  refine ⟨m, pl, h1, ?_, fun j hj => ?_, h4⟩
  · rw [x.1 30 w (by
      unfold W_ls
      simp
      exact hw)]
    exact h2
  · rw [x.2 28 (64 * w + j) (by
      unfold J_ls
      rw [show (64 * w + j) / 64 = w by omega, beq_false_of_ne hw]
      rfl), x.1 29 (64 * w + j) (by
      unfold W_ls
      rw [show (64 * w + j) / 64 = w by omega, beq_false_of_ne hw]
      rfl)]
    exact h3 j hj
def s_1 : cnd := (-1, p0, p0)
theorem bS_1 : bS s_1 := ⟨⟨by decide, by decide⟩, b_0, b_0⟩
theorem isBst_1 : isBst (fun _ => False) s_1 := Or.inl ⟨rfl, fun _ h => h⟩
def solvd (g : gm_T) (S : Nat) (T : cnd → Prop) (o : Option (Int × gm_T)) : Prop := ∃ g2 s, isBst T s ∧ bS s ∧ exc W_sv J_sv g g2 ∧ ((s.1 = -1 ∧ o = some (0, g2) ∧ gm_I g2 27 8 = gm_I g 27 8 ∧ gm_J g2 27 9 = gm_J g 27 9 ∧ gm_J g2 27 10 = gm_J g 27 10) ∨ (0 ≤ s.1 ∧ o = some (1, g2) ∧ gm_I g2 27 7 = s.1 ∧ gm_I g2 27 8 = (S : Int) ∧ gm_J g2 27 9 = pp s.2.1 ∧ gm_J g2 27 10 = pp s.2.2))
theorem ca_sol_fin {g : gm_T} {S : Nat} {T : cnd → Prop} {g5 : gm_T} {s : cnd} (x5 : exc scr scrJ g g5) (h5 : isAr g5 s) (hs5 : bS s) (hT : isBst T s) : solvd g S T (jg (rg (gm_I g5 27 7)) (if (gm_I g5 27 7) < 0 then (some (0, g5)) else (jl (gm_wI g5 27 8 (S : Int)) fun (g28 : gm_T) => jl (gm_wJ g28 27 9 (gm_J g28 27 5)) fun (g29 : gm_T) => jl (gm_wJ g29 27 10 (gm_J g29 27 6)) fun (g30 : gm_T) => some (1, g30)))) := by
  obtain ⟨k1, k2⟩ := h5
  have b1 := hs5.1
  rw [k1, jg_pos ⟨by omega, by omega⟩]
  by_cases c : s.1 < 0
  · rw [if_pos c]
    exact ⟨g5, s, hT, hs5, sv_scr x5, Or.inl ⟨by omega, rfl, x5.1 27 8 rfl, x5.2 27 9 rfl, x5.2 27 10 rfl⟩⟩
  · obtain ⟨q1, q2⟩ := k2 (by omega)
    rw [if_neg c, jl_eq, jl_eq, jl_eq]
    refine ⟨_, s, hT, hs5, exc_wJ (exc_wJ (exc_wI (sv_scr x5) rfl) rfl) rfl, Or.inr ⟨by omega, rfl, ?_, ?_, ?_, ?_⟩⟩
    · rw [gI_wJ, gI_wJ, gI_ne (by decide)]
      exact k1
    · rw [gI_wJ, gI_wJ, gI_eq]
    · rw [gJ_wJ, if_pos rfl, if_neg (by decide), gJ_wJ, if_pos rfl, if_pos rfl, gJ_wI]
      exact q1
    · rw [gJ_wJ, if_pos rfl, if_pos rfl, gJ_wJ, if_pos rfl, if_neg (by decide), gJ_wI]
      exact q2
theorem ca_solve_2 {n : Nat} {g : gm_T} (I : I_fit n g) {S A B : Nat} (hS : S < 2147483648) (hAB : A < B) (hB : B < n) (hb : ∀ i, S.testBit i = true ↔ i = A ∨ i = B) : solvd g S (cTwo g A B) (ca_solve n g (S : Int)) := by
  have hA : A < n := by omega
  obtain ⟨gm, hgm⟩ : ∃ gm, gm = gm_wI (gm_wI (gm_wI (gm_wI g 31 0 (A : Int)) 31 1 (B : Int)) 31 2 (-1)) 27 7 (-1) := ⟨_, rfl⟩
  have x0 : exc scr scrJ g gm := by
    rw [hgm]
    exact exc_wI (exc_wI (exc_wI (exc_wI exc_rf rfl) rfl) rfl) rfl
  have e0 : keepF gm = keepF g := keepF_A (keepA_scr x0)
  have m0 : gm_I gm 31 0 = (A : Int) := by rw [hgm, gI_oth (by decide), gI_ne (by decide), gI_ne (by decide), gI_eq]
  have m1 : gm_I gm 31 1 = (B : Int) := by rw [hgm, gI_oth (by decide), gI_ne (by decide), gI_eq]
  have m2 : gm_I gm 31 2 = -1 := by rw [hgm, gI_oth (by decide), gI_eq]
  have m7 : gm_I gm 27 7 = -1 := by rw [hgm, gI_eq]
  obtain ⟨g1, r1, r2, r3⟩ := ca_list_eq I (w := 0) (by decide) hA hB e0
  have a1 : isAr g1 s_1 := ⟨by rw [r2.1 27 7 rfl]; exact m7, fun q => absurd q (by decide)⟩
  obtain ⟨g5, s, u1, u2, u3, u4, u5⟩ := ca_two_eq I hA hB r3 a1 bS_1
  have x5 : exc scr scrJ g g5 := exc_tr x0 (exc_tr (scr_ls r2) (scr_ar u2))
  have fin := ca_sol_fin (S := S) x5 u3 u4 (isBst_c (fun c => ⟨fun q => q.resolve_left (fun z => z), Or.inr⟩) (u5 _ isBst_1))
  unfold ca_solve
  rw [ca_sol_2 hS hAB hb, jb1_some, jl_eq, ← hgm, m0, m1, show ca_list n gm 0 (A : Int) (B : Int) = _ from r1, jb1_some, r2.1 31 2 rfl, m2, jg_pos (rgk rfl), if_pos (by decide), u1, jb1_some, jb1_some]
  exact fin
theorem ca_solve_3 {n : Nat} {g : gm_T} (I : I_fit n g) {S A B C : Nat} (hS : S < 2147483648) (hAB : A < B) (hBC : B < C) (hC : C < n) (hb : ∀ i, S.testBit i = true ↔ i = A ∨ i = B ∨ i = C) : solvd g S (cAll g A B C) (ca_solve n g (S : Int)) := by
  have h30 := I.1.2.2
  have hA : A < n := by omega
  have hB : B < n := by omega
  obtain ⟨gm, hgm⟩ : ∃ gm, gm = gm_wI (gm_wI (gm_wI (gm_wI g 31 0 (A : Int)) 31 1 (B : Int)) 31 2 (C : Int)) 27 7 (-1) := ⟨_, rfl⟩
  have x0 : exc scr scrJ g gm := by
    rw [hgm]
    exact exc_wI (exc_wI (exc_wI (exc_wI exc_rf rfl) rfl) rfl) rfl
  have e0 : keepF gm = keepF g := keepF_A (keepA_scr x0)
  have m0 : gm_I gm 31 0 = (A : Int) := by rw [hgm, gI_oth (by decide), gI_ne (by decide), gI_ne (by decide), gI_eq]
  have m1 : gm_I gm 31 1 = (B : Int) := by rw [hgm, gI_oth (by decide), gI_ne (by decide), gI_eq]
  have m2 : gm_I gm 31 2 = (C : Int) := by rw [hgm, gI_oth (by decide), gI_eq]
  have m7 : gm_I gm 27 7 = -1 := by rw [hgm, gI_eq]
  obtain ⟨g1, r1, r2, r3⟩ := ca_list_eq I (w := 0) (by decide) hA hB e0
  have e1 : keepF g1 = keepF g := (keepF_A (keepA_scr (scr_ls r2))).trans e0
  obtain ⟨g2, t1, t2, t3⟩ := ca_list_eq I (w := 1) (by decide) hA hC e1
  have e2 : keepF g2 = keepF g := (keepF_A (keepA_scr (scr_ls t2))).trans e1
  obtain ⟨g3, v1, v2, v3⟩ := ca_list_eq I (w := 2) (by decide) hB hC e2
  have e3 : keepF g3 = keepF g := (keepF_A (keepA_scr (scr_ls v2))).trans e2
  have n1 : ∀ k, gm_I g1 31 k = gm_I gm 31 k := fun k => r2.1 31 k rfl
  have n2 : ∀ k, gm_I g2 31 k = gm_I gm 31 k := fun k => (t2.1 31 k rfl).trans (n1 k)
  have n3 : ∀ k, gm_I g3 31 k = gm_I gm 31 k := fun k => (v2.1 31 k rfl).trans (n2 k)
  have a1 : isAr g3 s_1 := ⟨by rw [v2.1 27 7 rfl, t2.1 27 7 rfl, r2.1 27 7 rfl]; exact m7, fun q => absurd q (by decide)⟩
  have h3 : isT3 g A B C g3 := ⟨e3, ⟨by rw [n3]; exact m0, by rw [n3]; exact m1, by rw [n3]; exact m2⟩, isL_ls (by decide) v2 (isL_ls (by decide) t2 r3), isL_ls (by decide) v2 t3, v3⟩
  obtain ⟨g5, s, u1, u2, u3, u4, u5⟩ := ca_three_eq I hA hB hC h3 a1 bS_1
  have x5 : exc scr scrJ g g5 := exc_tr x0 (exc_tr (scr_ls r2) (exc_tr (scr_ls t2) (exc_tr (scr_ls v2) (scr_ar u2))))
  have fin := ca_sol_fin (S := S) x5 u3 u4 (isBst_c (fun c => ⟨fun q => q.resolve_left (fun z => z), Or.inr⟩) (u5 _ isBst_1))
  unfold ca_solve
  rw [ca_sol_3 hS hAB hBC hb, jb1_some, jl_eq, ← hgm, m0, m1, show ca_list n gm 0 (A : Int) (B : Int) = _ from r1, jb1_some, n1 2, m2, jg_pos (rgn (by omega)), if_neg (by omega), n1 0, m0, show ca_list n g1 1 (A : Int) (C : Int) = _ from t1, jb1_some, n2 1, n2 2, m1, m2, show ca_list n g2 2 (B : Int) (C : Int) = _ from v1, jb1_some, u1, jb1_some, jb1_some]
  exact fin
