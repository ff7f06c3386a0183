/-! The tape: feed; what a bit is: about, corner. -/
def V_tape (g : gm_T) : Prop := (gm_I g 1 0 = gm_I g 44 2 ∧ 0 ≤ gm_I g 44 2 ∧ gm_I g 44 2 ≤ 240) ∧ ∀ k : Nat, (k : Int) < gm_I g 44 2 → zA (gm_I g 2 k) 255 = gm_I g 45 k ∧ 0 ≤ gm_I g 45 k ∧ gm_I g 45 k ≤ 255
def W_tape (a k : Nat) : Bool := (a == 1 && k == 0) || a == 2 || (a == 44 && k == 2) || a == 45
theorem i32_of (x : Int32) : ∃ k, x = Int32.ofNat k := ⟨x.toBitVec.toNat, Int32.toBitVec_inj.mp (by
  show x.toBitVec = BitVec.ofNat 32 x.toBitVec.toNat
  simp)⟩
theorem z8_255 (a : Int) : zA (z8 (z8 a)) 255 = zA a 255 := by
  unfold zA z8
  rw [Int32.ofInt_toInt, Int32.ofInt_toInt]
  have key : ∀ x : Int32, x.toInt8.toInt32 &&& Int32.ofInt 255 = x &&& Int32.ofInt 255 := by
    intro x
    apply Int32.toBitVec_inj.1
    apply BitVec.eq_of_getLsbD_eq
    intro i hi
    rw [Int32.toBitVec_and, Int32.toBitVec_and, BitVec.getLsbD_and, BitVec.getLsbD_and]
    by_cases h8 : i < 8
    · congr 1
      show ((x.toBitVec.signExtend 8).signExtend 32).getLsbD i = _
      rw [BitVec.getLsbD_signExtend, BitVec.getLsbD_signExtend]
      simp [hi, h8]
    · have h2 : ∀ i, i < 32 → ¬ i < 8 → (Int32.ofInt 255).toBitVec.getLsbD i = false := by decide +kernel
      rw [h2 i hi h8, Bool.and_false, Bool.and_false]
  rw [key, key]
/-- a byte out of a long: both ways -/
theorem byte_of (w : Int64) {m : Nat} (hm : m ≤ 56) : zA (lI (lSu w (m : Int))) 255 = lI (lSr w (m : Int) &&& 255) ∧ 0 ≤ lI (lSr w (m : Int) &&& 255) ∧ lI (lSr w (m : Int) &&& 255) ≤ 255 := by
  have hc : ∀ k, k < 64 → ((Int32.ofNat k).toInt64 &&& 63).toBitVec.smod 64 = BitVec.ofNat 64 k := by decide +kernel
  have hu : ∀ k, k < 64 → (((Int32.ofNat k).toInt64.toUInt64 &&& Int64.toUInt64 63).toBitVec % 64).toNat = k := by decide +kernel
  have hb : ∀ i, i < 32 → (lSu w (m : Int)).toInt32.toBitVec.getLsbD i = (lSu w (m : Int)).toBitVec.getLsbD i := by
    intro i hi
    show ((lSu w (m : Int)).toBitVec.signExtend 32).getLsbD i = _
    rw [BitVec.getLsbD_signExtend]
    have : i < 64 := by omega
    simp [hi, this]
  have hb2 : ∀ i, i < 32 → (lSr w (m : Int) &&& 255).toInt32.toBitVec.getLsbD i = (lSr w (m : Int) &&& 255).toBitVec.getLsbD i := by
    intro i hi
    show ((lSr w (m : Int) &&& 255).toBitVec.signExtend 32).getLsbD i = _
    rw [BitVec.getLsbD_signExtend]
    have : i < 64 := by omega
    simp [hi, this]
  have h255 : ∀ i, i < 64 → ((255 : Int64)).toBitVec.getLsbD i = decide (i < 8) := by decide +kernel
  have h255' : ∀ i, i < 32 → (Int32.ofInt 255).toBitVec.getLsbD i = decide (i < 8) := by decide +kernel
  have key : (lSu w (m : Int)).toInt32 &&& Int32.ofInt 255 = (lSr w (m : Int) &&& 255).toInt32 := by
    apply Int32.toBitVec_inj.1
    apply BitVec.eq_of_getLsbD_eq
    intro i hi
    rw [Int32.toBitVec_and, BitVec.getLsbD_and, hb i hi, hb2 i hi, Int64.toBitVec_and, BitVec.getLsbD_and, h255 i (by omega), h255' i hi]
    by_cases h8 : i < 8
    · congr 1
      unfold lSu lSr
      rw [im_ofN]
      show ((w.toUInt64 >>> ((Int32.ofNat m).toInt64.toUInt64 &&& Int64.toUInt64 63)).toBitVec).getLsbD i = _
      rw [UInt64.toBitVec_shiftRight]
      show (w.toBitVec >>> (((Int32.ofNat m).toInt64.toUInt64 &&& Int64.toUInt64 63).toBitVec % 64).toNat).getLsbD i = _
      rw [hu m (by omega), Int64.toBitVec_shiftRight, BitVec.getLsbD_ushiftRight]
      show _ = (w.toBitVec.sshiftRight (((Int32.ofNat m).toInt64 &&& 63).toBitVec.smod 64).toNat).getLsbD i
      rw [hc m (by omega), BitVec.toNat_ofNat, Nat.mod_eq_of_lt (show m < 2 ^ 64 by omega), BitVec.getLsbD_sshiftRight]
      have h1 : i < 64 := by omega
      have h2 : m + i < 64 := by omega
      simp [h1, h2]
    · simp [h8]
  have e1 : zA (lI (lSu w (m : Int))) 255 = lI (lSr w (m : Int) &&& 255) := by
    unfold zA lI
    rw [Int32.ofInt_toInt, key]
  refine ⟨e1, ?_⟩
  rw [← e1]
  unfold zA
  obtain ⟨k, hk⟩ := i32_of (Int32.ofInt (lI (lSu w (m : Int))))
  rw [hk, show Int32.ofInt 255 = Int32.ofNat 255 from by decide, im_and]
  have hle : k &&& 255 ≤ 255 := Nat.and_le_right
  rw [Int32.toInt_ofNat_of_lt (Nat.lt_of_le_of_lt hle (by decide))]
  omega
theorem ct_append_eq {g : gm_T} {s v : Int} (hs : gm_I g 1 0 = s) (h0 : 0 ≤ s ∧ s < 240) : ct_append g v = some (gm_wI (gm_wI g 2 s.toNat (z8 (z8 v))) 1 0 (s + 1)) := by
  unfold ct_append
  rw [hs, jg_pos ⟨by omega, by omega⟩, if_pos h0.2, jg_pos h0]
  simp only [jl_eq, gI_wI]
  simp [hs]
/-- what the loops of feed do -/
theorem cw_feed_lp (w : Int64) : ∀ (m fuel : Nat) (g : gm_T) (s : Nat), gm_I g 1 0 = (s : Int) → s + m ≤ 240 → m < fuel → m ≤ 8 → ∃ g2, cw_feed_l37 w fuel ((m : Int) - 1) g = some g2 ∧ gm_I g2 1 0 = ((s + m : Nat) : Int) ∧ (∀ k, k < s → gm_I g2 2 k = gm_I g 2 k) ∧ (∀ j, j < m → zA (gm_I g2 2 (s + j)) 255 = lI (lSr w ((8 * (m - 1 - j) : Nat) : Int) &&& 255)) ∧ exc (fun a k => (a == 1 && k == 0) || a == 2) nob g g2 := by
  intro m
  induction m with
  | zero =>
    intro fuel g s hs h1 h2 _
    obtain ⟨f, rfl⟩ : ∃ f, fuel = f + 1 := ⟨fuel - 1, by omega⟩
    unfold cw_feed_l37
    refine ⟨g, ?_, by rw [hs]; rfl, fun _ _ => rfl, fun j hj => by omega, exc_rf⟩
    rw [jg_pos (rgk rfl), if_pos (by decide)]
  | succ m ih =>
    intro fuel g s hs h1 h2 h8
    obtain ⟨f, rfl⟩ : ∃ f, fuel = f + 1 := ⟨fuel - 1, by omega⟩
    unfold cw_feed_l37
    rw [jg_pos ⟨by omega, by omega⟩, if_neg (by omega), ct_append_eq hs ⟨by omega, by omega⟩, jb1_some, Int.toNat_natCast]
    obtain ⟨g2, e1, e2, e3, e4, e5⟩ := ih f (gm_wI (gm_wI g 2 s (z8 (z8 (zA (lI (lSu w (8 * (((m + 1 : Nat) : Int) - 1)))) 255)))) 1 0 ((s : Int) + 1)) (s + 1) (by rw [gI_wI]; simp) (by omega) (by omega) (by omega)
    refine ⟨g2, ?_, by rw [e2]; omega, fun k hk => ?_, fun j hj => ?_, ?_⟩
    · rw [show ((m + 1 : Nat) : Int) - 1 + -1 = (m : Int) - 1 by omega]
      exact e1
    · rw [e3 k (by omega), gI_wI, gI_wI]
      simp
      omega
    · rcases Nat.eq_zero_or_pos j with h0 | h0
      · subst h0
        rw [e3 (s + 0) (by omega), gI_wI, gI_wI]
        simp only [Nat.reduceEqDiff, if_false, if_true, Nat.add_zero]
        rw [z8_255, show 8 * (((m + 1 : Nat) : Int) - 1) = ((8 * m : Nat) : Int) by omega, show m + 1 - 1 - 0 = m by omega]
        have hb := (byte_of w (m := 8 * m) (by omega)).1
        rw [hb]
        have h5 := byte_of w (m := 8 * m) (by omega)
        obtain ⟨k, hk⟩ : ∃ k : Nat, lI (lSr w ((8 * m : Nat) : Int) &&& 255) = (k : Int) := ⟨_, (Int.toNat_of_nonneg h5.2.1).symm⟩
        rw [hk] at h5 ⊢
        rw [show (255 : Int) = ((255 : Nat) : Int) from rfl, zA_n _ (by omega), show (255 : Nat) = 2 ^ 8 - 1 from rfl, Nat.and_two_pow_sub_one_eq_mod, Nat.mod_eq_of_lt (by omega)]
      · have h6 := e4 (j - 1) (by omega)
        rw [show s + 1 + (j - 1) = s + j by omega, show m - 1 - (j - 1) = m + 1 - 1 - j by omega] at h6
        exact h6
    · exact exc_tr (exc_wI (exc_wI exc_rf rfl) rfl) e5
theorem md_feed_lp (w : Int64) : ∀ (m fuel : Nat) (g : gm_T) (s : Nat), gm_I g 44 2 = (s : Int) → s + m ≤ 240 → m < fuel → m ≤ 8 → ∃ g2, md_feed_l33 w fuel ((m : Int) - 1) g = some g2 ∧ gm_I g2 44 2 = ((s + m : Nat) : Int) ∧ (∀ k, k < s → gm_I g2 45 k = gm_I g 45 k) ∧ (∀ j, j < m → gm_I g2 45 (s + j) = lI (lSr w ((8 * (m - 1 - j) : Nat) : Int) &&& 255)) ∧ exc (fun a k => (a == 44 && k == 2) || a == 45) nob g g2 := by
  intro m
  induction m with
  | zero =>
    intro fuel g s hs h1 h2 _
    obtain ⟨f, rfl⟩ : ∃ f, fuel = f + 1 := ⟨fuel - 1, by omega⟩
    unfold md_feed_l33
    refine ⟨g, ?_, by rw [hs]; rfl, fun _ _ => rfl, fun j hj => by omega, exc_rf⟩
    rw [jg_pos (rgk rfl), if_pos (by decide)]
  | succ m ih =>
    intro fuel g s hs h1 h2 h8
    obtain ⟨f, rfl⟩ : ∃ f, fuel = f + 1 := ⟨fuel - 1, by omega⟩
    unfold md_feed_l33
    rw [jg_pos ⟨by omega, by omega⟩, if_neg (by omega), hs, jg_pos ⟨by omega, by omega⟩, Int.toNat_natCast]
    simp only [jl_eq, gI_wI]
    simp only [Nat.reduceEqDiff, if_false, hs]
    obtain ⟨g2, e1, e2, e3, e4, e5⟩ := ih f (gm_wI (gm_wI g 45 s (lI (lSr w (8 * (((m + 1 : Nat) : Int) - 1)) &&& 255))) 44 2 ((s : Int) + 1)) (s + 1) (by rw [gI_wI]; simp) (by omega) (by omega) (by omega)
    refine ⟨g2, ?_, by rw [e2]; omega, fun k hk => ?_, fun j hj => ?_, ?_⟩
    · rw [show ((m + 1 : Nat) : Int) - 1 + -1 = (m : Int) - 1 by omega]
      exact e1
    · rw [e3 k (by omega), gI_wI, gI_wI]
      simp
      omega
    · rcases Nat.eq_zero_or_pos j with h0 | h0
      · subst h0
        rw [e3 (s + 0) (by omega), gI_wI, gI_wI]
        simp only [Nat.reduceEqDiff, if_false, if_true, Nat.add_zero]
        rw [show 8 * (((m + 1 : Nat) : Int) - 1) = ((8 * m : Nat) : Int) by omega, show m + 1 - 1 - 0 = m by omega]
      · have h6 := e4 (j - 1) (by omega)
        rw [show s + 1 + (j - 1) = s + j by omega, show m - 1 - (j - 1) = m + 1 - 1 - j by omega] at h6
        exact h6
    · exact exc_tr (exc_wI (exc_wI exc_rf rfl) rfl) e5
theorem op_feed {g : gm_T} (h : V_tape g) (w : Int64) {a : Int} (ha : rg a) : ∃ r g1 g2, cw_feed g w a = some (r, g1) ∧ md_feed g1 w a = some (r, g2) ∧ V_tape g2 ∧ exc W_tape nob g g2 := by
  obtain ⟨⟨q1, q2, q3⟩, q4⟩ := id h
  unfold cw_feed md_feed
  simp only [jg_pos ha, md_in_eq ha (rgk rfl : rg 1) (rgk rfl : rg 8), jb_tst, jl_eq]
  by_cases h1 : 1 ≤ a ∧ a ≤ 8
  · rw [if_neg (by omega), if_pos h1.2, q1, jg_pos ⟨by omega, by omega⟩]
    by_cases h2 : gm_I g 44 2 + a ≤ 240
    · rw [if_pos h2]
      obtain ⟨s, hs⟩ : ∃ s : Nat, gm_I g 44 2 = (s : Int) := ⟨_, (Int.toNat_of_nonneg q2).symm⟩
      obtain ⟨m, hm⟩ : ∃ m : Nat, a = (m : Int) := ⟨_, (Int.toNat_of_nonneg (by omega)).symm⟩
      subst hm
      have hfz : 100 < fz := fz_gt rfl
      obtain ⟨g1, e1, e2, e3, e4, e5⟩ := cw_feed_lp w m fz g s (by rw [q1, hs]) (by omega) (by omega) (by omega)
      have hs1 : gm_I g1 44 2 = (s : Int) := by rw [e5.1 44 2 rfl, hs]
      obtain ⟨g2, f1, f2, f3, f4, f5⟩ := md_feed_lp w m fz g1 s hs1 (by omega) (by omega) (by omega)
      refine ⟨((s + m : Nat) : Int), g1, g2, by rw [e1, jb1_some, e2], ?_, ?_, ?_⟩
      · rw [if_pos h1, hs1, jg_pos ⟨by omega, by omega⟩, if_pos (by omega), f1, jb1_some, f2]
      · have k1 : gm_I g2 1 0 = ((s + m : Nat) : Int) := by rw [f5.1 1 0 rfl, e2]
        refine ⟨⟨by rw [k1, f2], by rw [f2]; omega, by rw [f2]; omega⟩, fun k hk => ?_⟩
        rw [f2] at hk
        rw [f5.1 2 k rfl]
        by_cases hks : k < s
        · rw [e3 k hks, f3 k hks, e5.1 45 k rfl]
          exact q4 k (by omega)
        · have h5 := e4 (k - s) (by omega)
          have h6 := f4 (k - s) (by omega)
          rw [show s + (k - s) = k by omega] at h5 h6
          rw [h5, h6]
          exact ⟨rfl, (byte_of w (by omega)).2⟩
      · refine exc_tr (exc_mono e5 (fun b k hb => ?_) (fun _ _ hb => hb)) (exc_mono f5 (fun b k hb => ?_) (fun _ _ hb => hb))
        · unfold W_tape
          simp only [Bool.or_eq_true] at hb ⊢
          rcases hb with hb | hb <;> simp [hb]
        · unfold W_tape
          simp only [Bool.or_eq_true] at hb ⊢
          rcases hb with hb | hb <;> simp [hb]
    · rw [if_neg h2]
      refine ⟨-4, g, g, rfl, ?_, h, exc_rf⟩
      rw [if_pos h1, jg_pos ⟨by omega, by omega⟩, if_neg h2]
  · refine ⟨-2, g, g, ?_, by rw [if_neg h1], h, exc_rf⟩
    by_cases h2 : a < 1
    · rw [if_pos h2]
    · rw [if_neg h2, if_neg (by omega)]
/-- what is known of the bits: the class's own cells and the reference's -/
def V_bit (n : Nat) (g : gm_T) : Prop := ∀ b, b < n → (gm_I g (bA b) 3 = gm_I g 46 b ∧ 3 ≤ gm_I g 46 b ∧ gm_I g 46 b ≤ 8) ∧ (∀ k : Nat, (k : Int) < gm_I g 46 b → (gm_I g (bA b + 2) k = gm_I g 47 (8 * b + k) ∧ -20 ≤ gm_I g 47 (8 * b + k) ∧ gm_I g 47 (8 * b + k) ≤ 20) ∧ (gm_I g (bA b + 3) k = gm_I g 48 (8 * b + k) ∧ -20 ≤ gm_I g 48 (8 * b + k) ∧ gm_I g 48 (8 * b + k) ≤ 20) ∧ (gm_I g (bA b + 4) k = gm_I g 49 (8 * b + k) ∧ 0 ≤ gm_I g 49 (8 * b + k) ∧ gm_I g 49 (8 * b + k) ≤ 9)) ∧ (gm_I g (bA b) 7 = gm_I g 50 b ∧ 0 ≤ gm_I g 50 b ∧ gm_I g 50 b ≤ 5) ∧ (∀ k : Nat, (k : Int) < gm_I g 50 b → (gm_I g (bA b + 5) k = gm_I g 51 (5 * b + k) ∧ -20 ≤ gm_I g 51 (5 * b + k) ∧ gm_I g 51 (5 * b + k) ≤ 19) ∧ (gm_I g (bA b + 6) k = gm_I g 52 (5 * b + k) ∧ -20 ≤ gm_I g 52 (5 * b + k) ∧ gm_I g 52 (5 * b + k) ≤ 19) ∧ (gm_I g (bA b + 7) k = gm_I g 53 (5 * b + k) ∧ 0 ≤ gm_I g 53 (5 * b + k) ∧ gm_I g 53 (5 * b + k) ≤ 9)) ∧ (gm_I g (bA b) 0 = gm_I g 54 b ∧ 1 ≤ gm_I g 54 b ∧ gm_I g 54 b ≤ 99) ∧ (gm_I g (bA b) 1 = gm_I g 55 b ∧ -1 ≤ gm_I g 55 b ∧ gm_I g 55 b ≤ 3) ∧ (gm_I g (bA b) 2 = gm_I g 56 b ∧ 0 ≤ gm_I g 56 b ∧ gm_I g 56 b ≤ 9) ∧ (gm_I g (bA b) 12 = gm_I g 57 b ∧ 0 ≤ gm_I g 57 b ∧ gm_I g 57 b ≤ 1600) ∧ gm_I g (bA b) 11 = gm_I g 58 b
theorem op_about {n : Nat} {g : gm_T} (hn : V_num n g) (h : V_bit n g) {a b : Int} (ha : rg a) (hb : rg b) : ∃ r, cw_about n g a b = some r ∧ md_about g a b = some r := by
  have h30 := hn.2.2
  unfold cw_about md_about
  simp only [cw_isBit_eq hn ha, md_isBit_eq hn ha, jb_tst, jg_pos hb]
  by_cases h1 : 0 ≤ a ∧ a < (n : Int)
  · obtain ⟨k, rfl⟩ : ∃ k : Nat, a = (k : Int) := ⟨_, (Int.toNat_of_nonneg h1.1).symm⟩
    obtain ⟨⟨c1, -⟩, -, ⟨c2, -⟩, -, ⟨c3, -⟩, ⟨c4, -⟩, ⟨c5, -⟩, ⟨c6, -⟩, c7⟩ := h k (by omega)
    rw [if_pos h1, if_pos h1, jg_pos h1]
    simp only [Int.toNat_natCast, c1, c2, c3, c4, c5, c6, c7, jg_pos (show (0 : Int) ≤ (k : Int) ∧ (k : Int) < 30 by omega), ite_some2]
    exact ⟨_, rfl, rfl⟩
  · rw [if_neg h1, if_neg h1]
    exact ⟨_, rfl, rfl⟩
theorem cw_isEdge_eq {n : Nat} {g : gm_T} (hn : V_num n g) (h : V_bit n g) {a e : Int} (ha : rg a) (he : rg e) : cw_isEdge n g a e = some (if 0 ≤ a ∧ a < (n : Int) ∧ 0 ≤ e ∧ e < gm_I g 46 a.toNat then 1 else 0) := by
  unfold cw_isEdge
  rw [cw_isBit_eq hn ha, jb_tst]
  by_cases h1 : 0 ≤ a ∧ a < (n : Int)
  · obtain ⟨⟨c1, c2, c3⟩, -⟩ := h a.toNat (by omega)
    rw [if_pos h1, jg_pos he, jg_pos h1, c1, jg_pos ⟨by omega, by omega⟩]
    by_cases h2 : e < 0
    · rw [if_pos h2, if_neg (by omega)]
    · rw [if_neg h2]
      by_cases h3 : e < gm_I g 46 a.toNat
      · rw [if_pos h3, if_pos (by omega)]
      · rw [if_neg h3, if_neg (by omega)]
  · rw [if_neg h1, if_neg (by omega)]
theorem md_isEdge_eq {n : Nat} {g : gm_T} (hn : V_num n g) (h : V_bit n g) {a e : Int} (ha : rg a) (he : rg e) : md_isEdge g a e = some (if 0 ≤ a ∧ a < (n : Int) ∧ 0 ≤ e ∧ e < gm_I g 46 a.toNat then 1 else 0) := by
  have h30 := hn.2.2
  unfold md_isEdge
  rw [md_isBit_eq hn ha, jb_tst]
  by_cases h1 : 0 ≤ a ∧ a < (n : Int)
  · obtain ⟨⟨c1, c2, c3⟩, -⟩ := h a.toNat (by omega)
    rw [if_pos h1, jg_pos (by omega), md_in_eq he (rgk rfl) ⟨by omega, by omega⟩, jb_tst]
    by_cases h2 : 0 ≤ e ∧ e ≤ gm_I g 46 a.toNat - 1
    · rw [if_pos h2, if_pos (by omega)]
    · rw [if_neg h2, if_neg (by omega)]
  · rw [if_neg h1, if_neg (by omega)]
theorem op_corner {n : Nat} {g : gm_T} (hn : V_num n g) (h : V_bit n g) {a e c : Int} (ha : rg a) (he : rg e) (hc : rg c) : ∃ r, cw_corner n g a e c = some r ∧ md_corner g a e c = some r := by
  have h30 := hn.2.2
  unfold cw_corner md_corner
  simp only [cw_isEdge_eq hn h ha he, md_isEdge_eq hn h ha he, jb_tst, jg_pos hc, jl_eq]
  by_cases h1 : 0 ≤ a ∧ a < (n : Int) ∧ 0 ≤ e ∧ e < gm_I g 46 a.toNat
  · obtain ⟨k, rfl⟩ : ∃ k : Nat, a = (k : Int) := ⟨_, (Int.toNat_of_nonneg h1.1).symm⟩
    obtain ⟨j, rfl⟩ : ∃ j : Nat, e = (j : Int) := ⟨_, (Int.toNat_of_nonneg h1.2.2.1).symm⟩
    rw [if_pos h1, if_pos h1, jg_pos (by omega)]
    rw [Int.toNat_natCast] at h1
    obtain ⟨⟨c1, c2, c3⟩, c4, -⟩ := h k (by omega)
    obtain ⟨⟨d1, -⟩, ⟨d2, -⟩, ⟨d3, -⟩⟩ := c4 j (by omega)
    rw [jg_pos (show (0 : Int) ≤ (j : Int) ∧ (j : Int) < 8 by omega), jg_pos (show (0 : Int) ≤ (j : Int) ∧ (j : Int) < 8 by omega), jg_pos (show (0 : Int) ≤ (j : Int) ∧ (j : Int) < 8 by omega), jg_pos (show (0 : Int) ≤ 8 * (k : Int) + (j : Int) ∧ 8 * (k : Int) + (j : Int) < 240 by omega), jg_pos (show (0 : Int) ≤ 8 * (k : Int) + (j : Int) ∧ 8 * (k : Int) + (j : Int) < 240 by omega), jg_pos (show (0 : Int) ≤ 8 * (k : Int) + (j : Int) ∧ 8 * (k : Int) + (j : Int) < 240 by omega)]
    simp only [Int.toNat_natCast, show (8 * (k : Int) + (j : Int)).toNat = 8 * k + j by omega, d1, d2, d3, ite_some2]
    exact ⟨_, rfl, rfl⟩
  · rw [if_neg h1, if_neg h1]
    exact ⟨_, rfl, rfl⟩
