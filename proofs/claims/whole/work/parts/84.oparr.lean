/-! Arrangements: the operations arrange and arranged. -/
theorem mask_ok {a : Int} (ha : rg a) {n : Nat} (h30 : n ≤ 30) : zA a (zX (((2 ^ n : Nat) : Int) - 1) (-1)) = 0 ↔ 0 ≤ a ∧ a < ((2 ^ n : Nat) : Int) := by
  have hp : 0 < 2 ^ n := Nat.two_pow_pos n
  have hle : 2 ^ n ≤ 2 ^ 30 := Nat.pow_le_pow_right (by decide) h30
  have e : ((2 ^ n : Nat) : Int) - 1 = ((2 ^ n - 1 : Nat) : Int) := by omega
  obtain ⟨r1, r2⟩ := id ha
  rw [e]
  by_cases h0 : 0 ≤ a
  · obtain ⟨S, rfl⟩ : ∃ S : Nat, a = (S : Int) := ⟨_, (Int.toNat_of_nonneg h0).symm⟩
    have hS : S < 2147483648 := by omega
    rw [zA_not hS]
    have key : ndf S (2 ^ n - 1) = 0 ↔ S < 2 ^ n := by
      constructor
      · intro z
        refine Nat.lt_pow_two_of_testBit S (fun i hi => ?_)
        have h1 := ndf_bit S (2 ^ n - 1) i
        rw [z, Nat.zero_testBit, Nat.testBit_two_pow_sub_one, decide_eq_false (by omega), Bool.not_false, Bool.and_true] at h1
        exact h1.symm
      · intro z
        apply Nat.eq_of_testBit_eq
        intro i
        rw [ndf_bit, Nat.zero_testBit, Nat.testBit_two_pow_sub_one]
        by_cases c : i < n
        · rw [decide_eq_true c, Bool.not_true, Bool.and_false]
        · rw [Nat.testBit_lt_two_pow (Nat.lt_of_lt_of_le z (Nat.pow_le_pow_right (n := 2) (by decide) (by omega))), Bool.false_and]
    generalize ndf S (2 ^ n - 1) = q at key ⊢
    generalize 2 ^ n = r at key ⊢
    omega
  · constructor
    · intro z
      exfalso
      have h2 : Int32.ofInt a &&& Int32.ofInt (zX ((2 ^ n - 1 : Nat) : Int) (-1)) = 0 := Int32.toInt_inj.mp (Eq.trans (show (Int32.ofInt a &&& Int32.ofInt (zX ((2 ^ n - 1 : Nat) : Int) (-1))).toInt = 0 from z) (by decide))
      have h3 : (Int32.ofInt a &&& Int32.ofInt (zX ((2 ^ n - 1 : Nat) : Int) (-1))).toBitVec.getLsbD 31 = false := by
        rw [h2]
        decide +kernel
      unfold zX at h3
      rw [Int32.ofInt_toInt, im_ofN, show Int32.ofInt (-1) = -1 from by decide, Int32.toBitVec_and, BitVec.getLsbD_and, im_not _ 31 (by decide), Nat.testBit_lt_two_pow (show 2 ^ n - 1 < 2 ^ 31 by omega)] at h3
      have h4 : (Int32.ofInt a).toBitVec.getLsbD 31 = true := by
        have h5 : (Int32.ofInt a).toBitVec.msb = true := by
          rw [BitVec.msb_eq_toInt, show (Int32.ofInt a).toBitVec.toInt = a from rg_of ha]
          exact decide_eq_true (by omega)
        rw [BitVec.msb_eq_getLsbD_last] at h5
        exact h5
      rw [h4] at h3
      cases h3
    · intro z
      exact absurd z.1 h0
theorem keepF_arr {J : Nat → Nat → Bool} (hJ : ∀ a k, J a k = true → J_sv a k = true) {g g2 : gm_T} (x : exc W_arr J g g2) : keepF g2 = keepF g := keepF_exc x (fun a k q => by
  cases h : W_arr a k with
  | false => rfl
  | true =>
    exfalso
    simp only [R_fit, W_arr, W_sv, scr, Bool.or_eq_true, Bool.and_eq_true, beq_iff_eq, Nat.ble_eq] at q h
    omega) (fun a k q => by
  cases h : J a k with
  | false => rfl
  | true =>
    exfalso
    have h2 := hJ a k h
    simp only [J_sv, scrJ, Bool.or_eq_true, Bool.and_eq_true, beq_iff_eq, Nat.ble_eq] at q h2
    omega)
theorem arr_sv {g g2 : gm_T} (x : exc W_sv J_sv g g2) : exc W_arr J_sv g g2 := exc_mono x (fun a k q => by unfold W_arr; rw [q]; rfl) (fun _ _ q => q)
theorem arr_scr {g g2 : gm_T} (x : exc scr scrJ g g2) : exc W_arr J_sv g g2 := arr_sv (sv_scr x)
theorem md_arr_val {n : Nat} {g1 : gm_T} (hn : V_num n g1) {S : Nat} (hS : S < 2 ^ n) : ∃ g21, exc (fun a k => a == 90 || (a == 44 && k == 72)) nob g1 g21 ∧ (∀ c, c < n → S.testBit c = true → ct S.testBit c < 3 → gm_I g21 90 (ct S.testBit c) = (c : Int)) ∧ md_arrange g1 (S : Int) = if (2 : Int) ≤ ((ct S.testBit n : Nat) : Int) ∧ ((ct S.testBit n : Nat) : Int) ≤ 3 then (jl (gm_wI g21 44 72 ((ct S.testBit n : Nat) : Int)) fun (g24 : gm_T) => jl (gm_wI g24 44 73 (-1)) fun (g25 : gm_T) => jl (gm_wI g25 91 0 0) fun (g26 : gm_T) => jl (gm_wI g26 92 0 0) fun (g27 : gm_T) => jl (gm_wI g27 93 0 0) fun (g28 : gm_T) => jb1 (jg (rg ((ct S.testBit n : Nat) : Int)) (if ((ct S.testBit n : Nat) : Int) = 2 then (jb1 (md_tries 2 g28 0 1 (-1) (-1)) fun (g31 : gm_T) => some g31) else (jb1 (md_tries 2 g28 0 1 0 2) fun (g32 : gm_T) => jb1 (md_tries 2 g32 0 1 1 2) fun (g33 : gm_T) => jb1 (md_tries 2 g33 0 2 2 1) fun (g34 : gm_T) => some g34))) fun (g29 : gm_T) => jg (rg (gm_I g29 44 73)) (if (gm_I g29 44 73) = (-1) then (some ((-5), g29)) else (jl (gm_wI g29 44 77 ((ct S.testBit n : Nat) : Int)) fun (g36 : gm_T) => jb1 (md_arrange_l165 ((ct S.testBit n : Nat) : Int) fz 0 g36) fun (g52 : gm_T) => some ((gm_I g52 44 73), g52)))) else some (-2, g21) := by
  have h30 := hn.2.2
  have hle : 2 ^ n ≤ 2 ^ 30 := Nat.pow_le_pow_right (by decide) h30
  have hct := ct_le S.testBit n
  obtain ⟨g21, r1, r2, r3⟩ := md_arr_lp (g := gm_wI g1 44 72 0) (n := n) (by rw [gI_ne (by decide)]; exact hn.2.1) h30 (S := S) (by omega) n 0 fz (gm_wI g1 44 72 0) (by omega) (Nat.lt_of_le_of_lt (show n ≤ 300 by omega) (fz_gt rfl)) exc_rf (fun c hc => by omega)
  refine ⟨g21, exc_tr (exc_wI exc_rf rfl) (exc_mono r2 (fun a k q => by
    unfold W_90 at q
    rw [q]
    rfl) (fun _ _ q => q)), r3, ?_⟩
  unfold md_arrange
  rw [jg_pos ⟨by omega, by omega⟩, if_neg (by omega), hn.2.1, zSl_1 (by omega), if_pos (by omega), jl_eq, show md_arrange_l26 (S : Int) fz 0 0 (gm_wI g1 44 72 0) = _ from r1, jb2_some, md_in_eq (rgn (by omega)) (rgk rfl) (rgk rfl), jb_tst]
theorem arr_fin {n : Nat} {g29 : gm_T} {m : Nat} (h23 : m = 2 ∨ m = 3) {S : Nat} (hS : S < 2 ^ 30) {bt : Nat → Nat} (hb : ∀ i, i < m → gm_I g29 90 i = ((bt i : Nat) : Int) ∧ bt i < n ∧ ct S.testBit (bt i) = i) (hbits : ∀ b, S.testBit b = true ↔ ∃ i, i < m ∧ bt i = b) {s : cnd} (hbr : isBr g29 m s) (hs : bS s) (h0 : 0 ≤ s.1) (c8 : gm_I g29 27 8 = (S : Int)) (c9 : gm_J g29 27 9 = pp s.2.1) (c10 : gm_J g29 27 10 = pp s.2.2) : ∃ g52, (jg (rg (gm_I g29 44 73)) (if (gm_I g29 44 73) = (-1) then (some ((-5), g29)) else (jl (gm_wI g29 44 77 (m : Int)) fun (g36 : gm_T) => jb1 (md_arrange_l165 (m : Int) fz 0 g36) fun (g52 : gm_T) => some ((gm_I g52 44 73), g52)))) = some (s.1, g52) ∧ exc W_arr nob g29 g52 ∧ V_arr n g52 := by
  obtain ⟨k1, k2, k3⟩ := hbr
  obtain ⟨k4, k5, k6⟩ := k2 h0
  have hs1 := hs.1
  obtain ⟨g52, r1, r2, r3⟩ := md_fin_lp (g := gm_wI g29 44 77 (m : Int)) (m := m) (by omega) m 0 fz (gm_wI g29 44 77 (m : Int)) (by omega) (Nat.lt_of_le_of_lt (show m ≤ 300 by omega) (fz_gt rfl)) exc_rf (fun j hj => by omega)
  have x1 : exc W_arr nob g29 (gm_wI g29 44 77 (m : Int)) := exc_wI exc_rf rfl
  have x2 : exc W_arr nob g29 g52 := exc_tr x1 (exc_mono r2 (fun a k q => by
    simp only [Bool.or_eq_true, beq_iff_eq] at q
    rcases q with ((rfl | rfl) | rfl) | rfl <;> simp [W_arr]) (fun _ _ q => q))
  have eQ : ∀ j, gQ (gm_wI g29 44 77 (m : Int)) j = gQ g29 j := fun j => by
    unfold gQ
    rw [gI_oth (by decide), gI_oth (by decide), gI_oth (by decide)]
  refine ⟨g52, ?_, x2, S, m, bt, fun i => if i = 0 then p0 else if i = 1 then s.2.1 else s.2.2, ⟨hS, by omega⟩, ⟨?_, ?_⟩, fun i hi => ⟨⟨?_, (hb i hi).2.1⟩, ?_, ?_, (hb i hi).2.2⟩, hbits, fun _ => rfl, fun _ => ?_, fun _ => ?_⟩
  · rw [k1, jg_pos ⟨by omega, by omega⟩, if_neg (by omega), jl_eq, show md_arrange_l165 (m : Int) fz 0 (gm_wI g29 44 77 (m : Int)) = _ from r1, jb1_some, r2.1 44 73 rfl, gI_ne (by decide), k1]
  · rw [r2.1 27 8 rfl, gI_oth (by decide)]
    exact c8
  · rw [r2.1 44 77 rfl, gI_eq]
  · rw [(r3 i hi).1, gI_oth (by decide)]
    exact (hb i hi).1
  · rw [(r3 i hi).2, eQ]
    by_cases z0 : i = 0
    · dsimp only
      rw [z0, if_pos rfl]
      exact k6
    · by_cases z1 : i = 1
      · dsimp only
        rw [z1, if_neg (by decide), if_pos rfl]
        exact k4
      · dsimp only
        rw [if_neg z0, if_neg z1, show i = 2 by omega]
        exact k5 (by omega)
  · dsimp only
    by_cases z0 : i = 0
    · rw [if_pos z0]
      exact b_0
    · rw [if_neg z0]
      by_cases z1 : i = 1
      · rw [if_pos z1]
        exact hs.2.1
      · rw [if_neg z1]
        exact hs.2.2
  · rw [x2.2 27 9 rfl]
    exact c9
  · rw [x2.2 27 10 rfl]
    exact c10
theorem V_arr_keep {n : Nat} {g g2 : gm_T} (x : exc W_arr J_sv g g2) (e8 : gm_I g2 27 8 = gm_I g 27 8) (e9 : gm_J g2 27 9 = gm_J g 27 9) (e10 : gm_J g2 27 10 = gm_J g 27 10) (e77 : gm_I g2 44 77 = gm_I g 44 77) (e97 : ∀ k, gm_I g2 97 k = gm_I g 97 k ∧ gm_I g2 98 k = gm_I g 98 k ∧ gm_I g2 99 k = gm_I g 99 k ∧ gm_I g2 100 k = gm_I g 100 k) (h : V_arr n g) : V_arr n g2 := by
  obtain ⟨S, q, bt, P, h1, ⟨h2, h3⟩, h4, h5, h6, h7, h8⟩ := h
  refine ⟨S, q, bt, P, h1, ⟨by rw [e8]; exact h2, by rw [e77]; exact h3⟩, fun i hi => ?_, h5, h6, fun z => by rw [e9]; exact h7 z, fun z => by rw [e10]; exact h8 z⟩
  obtain ⟨a1, a2, a3, a4⟩ := e97 i
  rw [a1, a2, a3, a4]
  exact h4 i hi
theorem op_arrange {n : Nat} {g : gm_T} (I : I_fit n g) (VA : V_arr n g) {a : Int} (ha : rg a) : ∃ r g1 g2, cw_arrange n g a = some (r, g1) ∧ md_arrange g1 a = some (r, g2) ∧ V_arr n g2 ∧ exc W_arr J_sv g g2 := by
  have hn := I.1
  have h30 := hn.2.2
  have hle : 2 ^ n ≤ 2 ^ 30 := Nat.pow_le_pow_right (by decide) h30
  have hp : 0 < 2 ^ n := Nat.two_pow_pos n
  have hall : cf_allBits g = some (((2 ^ n : Nat) : Int) - 1) := by
    unfold cf_allBits
    rw [hn.1, zSl_1 (by omega)]
  by_cases hv : 0 ≤ a ∧ a < ((2 ^ n : Nat) : Int)
  rotate_left
  · obtain ⟨v, hbc⟩ : ∃ v, jd_bitCount g a = some v := ⟨_, rfl⟩
    refine ⟨-2, g, g, ?_, ?_, VA, exc_rf⟩
    · unfold cw_arrange
      rw [hbc, jb1_some, hall, jb1_some, if_neg (fun z => hv ((mask_ok ha h30).mp z))]
    · unfold md_arrange
      rw [jg_pos ha]
      by_cases z : a < 0
      · rw [if_pos z]
      · rw [if_neg z, hn.2.1, zSl_1 (by omega), if_neg (by omega)]
  obtain ⟨S, rfl⟩ : ∃ S : Nat, a = (S : Int) := ⟨_, (Int.toNat_of_nonneg hv.1).symm⟩
  have hS : S < 2 ^ n := by omega
  have hS30 : S < 2 ^ 30 := by omega
  have hct := ct_le S.testBit n
  have hct31 : ct S.testBit 31 = ct S.testBit n := ct_more (fun i hi => Nat.testBit_lt_two_pow (Nat.lt_of_lt_of_le hS (Nat.pow_le_pow_right (n := 2) (by decide) hi))) 31 (by omega)
  have hcw : cw_arrange n g (S : Int) = if ((ct S.testBit n : Nat) : Int) < 2 then some (-2, g) else if ((ct S.testBit n : Nat) : Int) ≤ 3 then (jb2 (ca_solve n g (S : Int)) fun (v4 : Int) (g5 : gm_T) => jg (rg v4) (if v4 = 0 then (some ((-5), g5)) else (some ((gm_I g5 27 7), g5)))) else some (-2, g) := by
    unfold cw_arrange
    rw [jd_bitCount_n g (by omega), jb1_some, hall, jb1_some, if_pos ((mask_ok ha h30).mpr hv), hct31, jg_pos (rgn (by omega))]
  -- both sides behind the search
  have both : ∀ (T : cnd → Prop) (m : Nat) (bt : Nat → Nat), (m = 2 ∨ m = 3) → ct S.testBit n = m → (∀ i, i < m → bt i < n ∧ S.testBit (bt i) = true ∧ ct S.testBit (bt i) = i) → (∀ b, S.testBit b = true ↔ ∃ i, i < m ∧ bt i = b) → solvd g S T (ca_solve n g (S : Int)) → (∀ g28 s, keepF g28 = keepF g → (∀ i, i < m → gm_I g28 90 i = ((bt i : Nat) : Int)) → gm_I g28 44 72 = (m : Int) → gT g28 0 = p0 → isBr g28 m s → bS s → ∃ g29 s2, (jg (rg (m : Int)) (if (m : Int) = 2 then (jb1 (md_tries 2 g28 0 1 (-1) (-1)) fun (g31 : gm_T) => some g31) else (jb1 (md_tries 2 g28 0 1 0 2) fun (g32 : gm_T) => jb1 (md_tries 2 g32 0 1 1 2) fun (g33 : gm_T) => jb1 (md_tries 2 g33 0 2 2 1) fun (g34 : gm_T) => some g34))) = some g29 ∧ exc W_o3 nob g28 g29 ∧ isBr g29 m s2 ∧ bS s2 ∧ adds T s s2) → ∃ r g1 g2, cw_arrange n g (S : Int) = some (r, g1) ∧ md_arrange g1 (S : Int) = some (r, g2) ∧ V_arr n g2 ∧ exc W_arr J_sv g g2 := by
    intro T m bt h23 hm hbt hbits hso hre
    obtain ⟨g1, s, q1, q2, q3, q4⟩ := hso
    have x1 := arr_sv q3
    have e1 : keepF g1 = keepF g := keepF_arr (fun _ _ q => q) x1
    have I1 := I_fit_tr e1 I
    obtain ⟨g21, y1, y2, y3⟩ := md_arr_val I1.1 hS
    rw [hm] at y3
    rw [hm] at hcw
    obtain ⟨g28, hg28⟩ : ∃ g28, g28 = gm_wI (gm_wI (gm_wI (gm_wI (gm_wI g21 44 72 (m : Int)) 44 73 (-1)) 91 0 0) 92 0 0) 93 0 0 := ⟨_, rfl⟩
    have x21 : exc W_arr J_sv g1 g21 := exc_mono y1 (fun a k q => by
      simp only [Bool.or_eq_true, Bool.and_eq_true, beq_iff_eq] at q
      rcases q with rfl | ⟨rfl, rfl⟩ <;> rfl) (fun _ _ q => by cases q)
    have x28 : exc W_arr J_sv g g28 := by
      rw [hg28]
      exact exc_wI (exc_wI (exc_wI (exc_wI (exc_wI (exc_tr x1 x21) rfl) rfl) rfl) rfl) rfl
    have e28 : keepF g28 = keepF g := keepF_arr (fun _ _ q => q) x28
    obtain ⟨g29, s2, z1, z2, z3, z4, z5⟩ := hre g28 s_1 e28 (fun i hi => by
      have := y2 (bt i) (hbt i hi).1 (hbt i hi).2.1 (by rw [(hbt i hi).2.2]; omega)
      rw [(hbt i hi).2.2] at this
      rw [hg28, gI_oth (by decide), gI_oth (by decide), gI_oth (by decide), gI_oth (by decide), gI_oth (by decide)]
      exact this) (by rw [hg28, gI_oth (by decide), gI_oth (by decide), gI_oth (by decide), gI_ne (by decide), gI_eq]) (by
      unfold gT
      rw [hg28, gI_oth (show 91 ≠ 93 by decide), gI_oth (show 91 ≠ 92 by decide), gI_eq, gI_oth (show 92 ≠ 93 by decide), gI_eq, gI_eq]
      rfl) ⟨by rw [hg28, gI_oth (by decide), gI_oth (by decide), gI_oth (by decide), gI_eq]; rfl, fun q => absurd q (by decide), fun _ => rfl⟩ bS_1
    have hT : isBst T s2 := isBst_c (fun c => ⟨fun q => q.resolve_left (fun z => z), Or.inr⟩) (z5 _ isBst_1)
    have x29 : exc W_arr J_sv g g29 := exc_tr x28 (arr_scr (scr_o3 z2))
    have c29 : ∀ k, gm_I g29 27 k = gm_I g1 27 k := fun k => by
      rw [z2.1 27 k rfl, hg28, gI_oth (by decide), gI_oth (by decide), gI_oth (by decide), gI_oth (by decide), gI_oth (by decide), y1.1 27 k rfl]
    have d29 : ∀ k, gm_J g29 27 k = gm_J g1 27 k := fun k => by
      rw [z2.2 27 k rfl, hg28, gJ_wI, gJ_wI, gJ_wI, gJ_wI, gJ_wI, y1.2 27 k rfl]
    have hif : (2 : Int) ≤ (m : Int) ∧ (m : Int) ≤ 3 := by omega
    rw [if_pos hif, jl_eq, jl_eq, jl_eq, jl_eq, jl_eq, ← hg28, z1, jb1_some] at y3
    rw [hcw, if_neg (by omega), if_pos hif.2]
    rcases isBst_u q1 hT with ⟨u1, u2⟩ | ⟨u1, u2⟩
    · rcases q4 with ⟨w1, w2, w3, w4, w5⟩ | ⟨w1, -⟩
      · rw [z3.1, u2, jg_pos (rgk rfl), if_pos rfl] at y3
        rw [w2, jb2_some, jg_pos (rgk rfl), if_pos rfl]
        refine ⟨-5, g1, g29, rfl, y3, V_arr_keep x29 (by rw [c29, w3]) (by rw [d29, w4]) (by rw [d29, w5]) ?_ (fun k => ?_) VA, x29⟩
        · rw [z2.1 44 77 rfl, hg28, gI_oth (by decide), gI_oth (by decide), gI_oth (by decide), gI_ne (by decide), gI_ne (by decide), y1.1 44 77 rfl, q3.1 44 77 rfl]
        · refine ⟨?_, ?_, ?_, ?_⟩
          · rw [z2.1 97 k rfl, hg28, gI_oth (by decide), gI_oth (by decide), gI_oth (by decide), gI_oth (by decide), gI_oth (by decide), y1.1 97 k rfl, q3.1 97 k rfl]
          · rw [z2.1 98 k rfl, hg28, gI_oth (by decide), gI_oth (by decide), gI_oth (by decide), gI_oth (by decide), gI_oth (by decide), y1.1 98 k rfl, q3.1 98 k rfl]
          · rw [z2.1 99 k rfl, hg28, gI_oth (by decide), gI_oth (by decide), gI_oth (by decide), gI_oth (by decide), gI_oth (by decide), y1.1 99 k rfl, q3.1 99 k rfl]
          · rw [z2.1 100 k rfl, hg28, gI_oth (by decide), gI_oth (by decide), gI_oth (by decide), gI_oth (by decide), gI_oth (by decide), y1.1 100 k rfl, q3.1 100 k rfl]
      · omega
    · rcases q4 with ⟨w1, -⟩ | ⟨w1, w2, w3, w4, w5, w6⟩
      · omega
      · rw [← u2] at z3
        obtain ⟨g52, f1, f2, f3⟩ := arr_fin (n := n) h23 hS30 (g29 := g29) (bt := bt) (fun i hi => ⟨by
          have := y2 (bt i) (hbt i hi).1 (hbt i hi).2.1 (by rw [(hbt i hi).2.2]; omega)
          rw [(hbt i hi).2.2] at this
          rw [z2.1 90 i rfl, hg28, gI_oth (by decide), gI_oth (by decide), gI_oth (by decide), gI_oth (by decide), gI_oth (by decide)]
          exact this, (hbt i hi).1, (hbt i hi).2.2⟩) hbits z3 q2 u1 (by rw [c29]; exact w4) (by rw [d29]; exact w5) (by rw [d29]; exact w6)
        rw [f1] at y3
        rw [w2, jb2_some, jg_pos (rgk rfl), if_neg n10, w3]
        exact ⟨s.1, g1, g52, rfl, y3, f3, exc_tr x29 (exc_mono f2 (fun _ _ q => q) (fun _ _ q => by cases q))⟩
  rcases Nat.lt_or_ge (ct S.testBit n) 2 with c2 | c2
  rotate_left
  · rcases Nat.lt_or_ge 3 (ct S.testBit n) with c3 | c3
    rotate_left
    · by_cases c4 : ct S.testBit n = 2
      · obtain ⟨A, B, ⟨hAB, hB⟩, hbits, n0, n1⟩ := bits_2 hS c4
        refine both (cTwo g A B) 2 (fun i => if i = 0 then A else B) (Or.inl rfl) c4 (fun i hi => ?_) (fun b => ?_) (ca_solve_2 I (by omega) hAB hB hbits) (fun g28 s e h90 h72 h0 hbr hs => ?_)
        · by_cases z : i = 0
          · rw [if_pos z, z]
            exact ⟨by omega, (hbits A).mpr (Or.inl rfl), n0⟩
          · rw [if_neg z, show i = 1 by omega]
            exact ⟨hB, (hbits B).mpr (Or.inr rfl), n1⟩
        · rw [hbits]
          constructor
          · rintro (rfl | rfl)
            · exact ⟨0, by decide, rfl⟩
            · exact ⟨1, by decide, rfl⟩
          · rintro ⟨i, hi, rfl⟩
            by_cases z : i = 0
            · rw [if_pos z]
              exact Or.inl rfl
            · rw [if_neg z]
              exact Or.inr rfl
        · have e90 : gm_I g28 90 0 = (A : Int) := h90 0 (by decide)
          have e91 : gm_I g28 90 1 = (B : Int) := h90 1 (by decide)
          obtain ⟨g2, s2, r1, ⟨r2, r3, r4⟩, r5⟩ := tries_2 I e (by omega) hB (by omega) e90 e91 h72 h0 hbr hs
          rw [jg_pos (rgk rfl), if_pos (show ((2 : Nat) : Int) = 2 from rfl), r1, jb1_some]
          exact ⟨g2, s2, rfl, o3_in r2, r3, r4, r5⟩
      · obtain ⟨A, B, C, ⟨hAB, hBC, hC⟩, hbits, n0, n1, n2⟩ := bits_3 hS (show ct S.testBit n = 3 by omega)
        refine both (cAll g A B C) 3 (fun i => if i = 0 then A else if i = 1 then B else C) (Or.inr rfl) (by omega) (fun i hi => ?_) (fun b => ?_) (ca_solve_3 I (by omega) hAB hBC hC hbits) (fun g28 s e h90 h72 h0 hbr hs => ?_)
        · by_cases z : i = 0
          · rw [if_pos z, z]
            exact ⟨by omega, (hbits A).mpr (Or.inl rfl), n0⟩
          · rw [if_neg z]
            by_cases z1 : i = 1
            · rw [if_pos z1, z1]
              exact ⟨by omega, (hbits B).mpr (Or.inr (Or.inl rfl)), n1⟩
            · rw [if_neg z1, show i = 2 by omega]
              exact ⟨hC, (hbits C).mpr (Or.inr (Or.inr rfl)), n2⟩
        · rw [hbits]
          constructor
          · rintro (rfl | rfl | rfl)
            · exact ⟨0, by decide, rfl⟩
            · exact ⟨1, by decide, rfl⟩
            · exact ⟨2, by decide, rfl⟩
          · rintro ⟨i, hi, rfl⟩
            by_cases z : i = 0
            · rw [if_pos z]
              exact Or.inl rfl
            · rw [if_neg z]
              by_cases z1 : i = 1
              · rw [if_pos z1]
                exact Or.inr (Or.inl rfl)
              · rw [if_neg z1]
                exact Or.inr (Or.inr rfl)
        · have e90 : gm_I g28 90 0 = (A : Int) := h90 0 (by decide)
          have e91 : gm_I g28 90 1 = (B : Int) := h90 1 (by decide)
          have e92 : gm_I g28 90 2 = (C : Int) := h90 2 (by decide)
          obtain ⟨g2, g3, g4, s4, r1, r2, r3, r4, r5, r6, r7⟩ := tries_3 I e (by omega) (by omega) hC (by omega) (by omega) (by omega) e90 e91 e92 h72 h0 hbr hs
          rw [jg_pos (rgk rfl), if_neg (show ¬ ((3 : Nat) : Int) = 2 by decide), r1, jb1_some, r2, jb1_some, r3, jb1_some]
          exact ⟨g4, s4, rfl, r4, r5, r6, r7⟩
    · obtain ⟨g21, y1, y2, y3⟩ := md_arr_val hn hS
      have x21 : exc W_arr J_sv g g21 := exc_mono y1 (fun a k q => by
        simp only [Bool.or_eq_true, Bool.and_eq_true, beq_iff_eq] at q
        rcases q with rfl | ⟨rfl, rfl⟩ <;> rfl) (fun _ _ q => by cases q)
      rw [if_neg (by omega)] at y3
      exact ⟨-2, g, g21, by rw [hcw, if_neg (by omega), if_neg (by omega)], y3, V_arr_keep x21 (y1.1 27 8 rfl) (y1.2 27 9 rfl) (y1.2 27 10 rfl) (y1.1 44 77 rfl) (fun k => ⟨y1.1 97 k rfl, y1.1 98 k rfl, y1.1 99 k rfl, y1.1 100 k rfl⟩) VA, x21⟩
  · obtain ⟨g21, y1, y2, y3⟩ := md_arr_val hn hS
    have x21 : exc W_arr J_sv g g21 := exc_mono y1 (fun a k q => by
      simp only [Bool.or_eq_true, Bool.and_eq_true, beq_iff_eq] at q
      rcases q with rfl | ⟨rfl, rfl⟩ <;> rfl) (fun _ _ q => by cases q)
    rw [if_neg (by omega)] at y3
    exact ⟨-2, g, g21, by rw [hcw, if_pos (by omega)], y3, V_arr_keep x21 (y1.1 27 8 rfl) (y1.2 27 9 rfl) (y1.2 27 10 rfl) (y1.1 44 77 rfl) (fun k => ⟨y1.1 97 k rfl, y1.1 98 k rfl, y1.1 99 k rfl, y1.1 100 k rfl⟩) VA, x21⟩
