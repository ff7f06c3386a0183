/-! Arrangements: the operation arranged. -/
theorem ct_below (S b : Nat) (hb : b ≤ 31) : ct (S % 2 ^ b).testBit 31 = ct S.testBit b := by
  obtain ⟨k, hk⟩ : ∃ k, 31 = b + k := ⟨31 - b, by omega⟩
  rw [hk, ct_split, ct_none (p := fun i => (S % 2 ^ b).testBit (b + i)) (fun i hi => by
    rw [Nat.testBit_mod_two_pow, decide_eq_false (by omega), Bool.false_and]), Nat.add_zero]
  exact ct_cong (fun i hi => by
    rw [Nat.testBit_mod_two_pow, decide_eq_true hi, Bool.true_and])
theorem md_arrd_no {g : gm_T} {m : Nat} (hm : gm_I g 44 77 = (m : Int)) (m3 : m ≤ 3) {a w : Int} (ha : rg a) (hw : rg w) (hr : ∀ i, i < m → rg (gm_I g 97 i)) (hno : ∀ i, i < m → gm_I g 97 i ≠ a ∨ ¬ (0 ≤ w ∧ w ≤ 2)) : ∀ (d k fuel : Nat), k + d = m → d < fuel → md_arranged_l2 g a w fuel (k : Int) = some (-100000) := by
  intro d
  induction d with
  | zero =>
    intro k fuel hd hf
    obtain ⟨f, rfl⟩ : ∃ f, fuel = f + 1 := ⟨fuel - 1, by omega⟩
    unfold md_arranged_l2
    rw [hm, jg_pos ⟨rgn (by omega), rgn (by omega)⟩, if_neg (by omega)]
  | succ d ih =>
    intro k fuel hd hf
    obtain ⟨f, rfl⟩ : ∃ f, fuel = f + 1 := ⟨fuel - 1, by omega⟩
    have next := ih (k + 1) f (by omega) (by omega)
    unfold md_arranged_l2
    rw [hm, jg_pos ⟨rgn (by omega), rgn (by omega)⟩, if_pos (by omega), jg_pos (by omega), Int.toNat_natCast, jg_pos ⟨hr k (by omega), ha⟩]
    by_cases c : gm_I g 97 k = a
    · have hw2 := (hno k (by omega)).resolve_left (fun z => z c)
      rw [if_pos c, md_in_eq hw (rgk rfl) (rgk rfl), jb_tst, if_neg hw2]
      exact next
    · rw [if_neg c]
      exact next
theorem md_arrd_yes {g : gm_T} {m i : Nat} (hm : gm_I g 44 77 = (m : Int)) (m3 : m ≤ 3) (him : i < m) {a w : Int} (ha : rg a) (hw : 0 ≤ w ∧ w ≤ 2) (hr : ∀ i, i < m → rg (gm_I g 97 i)) (h1 : gm_I g 97 i = a) (h2 : ∀ j, j < m → gm_I g 97 j = a → j = i) : ∀ (d k fuel : Nat), k + d = i → d < fuel → md_arranged_l2 g a w fuel (k : Int) = some (if w = 0 then gm_I g 98 i else if w = 1 then gm_I g 99 i else gm_I g 100 i) := by
  have hwr : rg w := ⟨by omega, by omega⟩
  intro d
  induction d with
  | zero =>
    intro k fuel hd hf
    obtain ⟨f, rfl⟩ : ∃ f, fuel = f + 1 := ⟨fuel - 1, by omega⟩
    have hk : k = i := by omega
    unfold md_arranged_l2
    rw [hm, jg_pos ⟨rgn (by omega), rgn (by omega)⟩, if_pos (by omega), jg_pos (by omega), Int.toNat_natCast, jg_pos ⟨hr k (by omega), ha⟩, hk, if_pos h1, md_in_eq hwr (rgk rfl) (rgk rfl), jb_tst, if_pos hw, jg_pos hwr, ite_some2, ite_some2]
  | succ d ih =>
    intro k fuel hd hf
    obtain ⟨f, rfl⟩ : ∃ f, fuel = f + 1 := ⟨fuel - 1, by omega⟩
    have next := ih (k + 1) f (by omega) (by omega)
    unfold md_arranged_l2
    rw [hm, jg_pos ⟨rgn (by omega), rgn (by omega)⟩, if_pos (by omega), jg_pos (by omega), Int.toNat_natCast, jg_pos ⟨hr k (by omega), ha⟩, if_neg (fun z => by
      have := h2 k (by omega) z
      omega)]
    exact next
theorem op_arranged {n : Nat} {g : gm_T} (hn : V_num n g) (VA : V_arr n g) {a w : Int} (ha : rg a) (hw : rg w) : ∃ r, cw_arranged g a w = some r ∧ md_arranged g a w = some r := by
  have h30 := hn.2.2
  obtain ⟨S, m, bt, P, ⟨hS, m3⟩, ⟨h2, h3⟩, h4, h5, h6, h7, h8⟩ := VA
  have hr : ∀ i, i < m → rg (gm_I g 97 i) := fun i hi => by
    obtain ⟨⟨a1, a2⟩, -⟩ := h4 i hi
    rw [a1]
    exact rgn (by omega)
  have no : (∀ i, i < m → gm_I g 97 i ≠ a ∨ ¬ (0 ≤ w ∧ w ≤ 2)) → md_arranged g a w = some (-100000) := fun z => by
    unfold md_arranged
    exact md_arrd_no h3 m3 ha hw hr z m 0 fz (by omega) (Nat.lt_of_le_of_lt (show m ≤ 300 by omega) (fz_gt rfl))
  unfold cw_arranged
  rw [cw_isBit_eq hn ha, jb_tst]
  by_cases c1 : 0 ≤ a ∧ a < (n : Int)
  · obtain ⟨b, rfl⟩ : ∃ b : Nat, a = (b : Int) := ⟨_, (Int.toNat_of_nonneg c1.1).symm⟩
    have hb : b < n := by omega
    rw [if_pos c1]
    unfold ca_holds
    rw [h2, zbit (by omega) (by omega)]
    by_cases c2 : S.testBit b = true
    · obtain ⟨i, i1, i2⟩ := (h5 b).mp c2
      obtain ⟨⟨a1, a2⟩, a3, a4, a5⟩ := h4 i i1
      have huq : ∀ j, j < m → gm_I g 97 j = (b : Int) → j = i := fun j hj z => by
        obtain ⟨⟨b1, -⟩, -, -, b5⟩ := h4 j hj
        have e : bt j = bt i := by omega
        rw [← b5, ← a5, e]
      have hpl : ca_placeOf g (b : Int) = some (pp (P i)) := by
        unfold ca_placeOf
        have hp : 0 < 2 ^ b := Nat.two_pow_pos b
        have hlt : S % 2 ^ b < 2147483648 := Nat.lt_of_le_of_lt (Nat.mod_le _ _) (by omega)
        rw [h2, zSl_1 (by omega), show ((2 ^ b : Nat) : Int) - 1 = ((2 ^ b - 1 : Nat) : Int) by omega, zA_n _ (by omega), Nat.and_two_pow_sub_one_eq_mod, jd_bitCount_n g hlt, jb1_some, ct_below S b (by omega), ← i2, a5, jg_pos (rgn (by omega))]
        by_cases z0 : i = 0
        · rw [z0, if_pos (show ((0 : Nat) : Int) = 0 from rfl), h6 (by omega), p0_here]
        · rw [if_neg (by omega)]
          by_cases z1 : i = 1
          · rw [z1, if_pos (show ((1 : Nat) : Int) = 1 from rfl), h7 (by omega)]
          · rw [if_neg (by omega), h8 (by omega), show i = 2 by omega]
      rw [if_pos c2, if_neg n10, jb1_some, jg_pos (rgk rfl), if_neg n10, hpl, jb1_some, cw_partOf_eq a4 (by decide) hw, jb1_some]
      refine ⟨_, rfl, ?_⟩
      have f1 : gm_I g 98 i = (P i).1 := congrArg (fun p : plc => p.1) a3
      have f2 : gm_I g 99 i = (P i).2.1 := congrArg (fun p : plc => p.2.1) a3
      have f3 : gm_I g 100 i = (P i).2.2 := congrArg (fun p : plc => p.2.2) a3
      by_cases c3 : 0 ≤ w ∧ w ≤ 2
      · unfold md_arranged
        rw [show md_arranged_l2 g (b : Int) w fz 0 = _ from md_arrd_yes h3 m3 i1 ha c3 hr (by rw [a1, i2]) huq i 0 fz (by omega) (Nat.lt_of_le_of_lt (show i ≤ 300 by omega) (fz_gt rfl)), f1, f2, f3]
        by_cases w0 : w = 0
        · rw [if_pos w0, if_pos w0]
        · rw [if_neg w0, if_neg w0]
          by_cases w1 : w = 1
          · rw [if_pos w1, if_pos w1]
          · rw [if_neg w1, if_neg w1, if_pos (show w = 2 by omega)]
      · rw [if_neg (show ¬ w = 0 by omega), if_neg (show ¬ w = 1 by omega), if_neg (show ¬ w = 2 by omega)]
        exact no (fun _ _ => Or.inr c3)
    · rw [if_neg c2, if_pos rfl, jb1_some, jg_pos (rgk rfl), if_pos rfl]
      refine ⟨_, rfl, no (fun i hi => Or.inl (fun z => c2 ((h5 b).mpr ⟨i, hi, ?_⟩)))⟩
      have := (h4 i hi).1.1
      omega
  · rw [if_neg c1]
    refine ⟨_, rfl, no (fun i hi => Or.inl (fun z => c1 ?_))⟩
    obtain ⟨⟨a1, a2⟩, -⟩ := h4 i hi
    omega
