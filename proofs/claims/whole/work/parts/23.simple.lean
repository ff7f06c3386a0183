/-! The first calls: tests, tolerance, likeness, skill, enter, box, about, corner, clash. -/
theorem rg01 {c : Prop} [inst : Decidable c] : rg (if c then (1 : Int) else 0) := by
  split
  · exact rgk rfl
  · exact rgk rfl
theorem nm_eq {x : Int} (h : rg x) : nm x = x := rg_of h
theorem nm_low {x : Int} (h1 : -6442450944 ≤ x) (h2 : x < -2147483648) : nm x = x + 4294967296 := by
  have h3 : nm x = nm (x + 4294967296) := by
    unfold nm
    rw [Int32.ofInt_add, show Int32.ofInt 4294967296 = 0 from by decide, Int32.add_zero]
  rw [h3, nm_eq ⟨by omega, by omega⟩]
theorem jb_tst {β : Type} {c : Prop} [inst : Decidable c] {X Y : Option β} : jb1 (some (if c then (1 : Int) else 0)) (fun v => jg (rg v) (if v = 0 then X else Y)) = if c then Y else X := by
  by_cases h : c
  · simp only [h, if_true, jb1_some]
    rw [jg_pos (rgk rfl)]
    rfl
  · simp only [h, if_false, jb1_some]
    rw [jg_pos (rgk rfl)]
    rfl
theorem md_in_eq {g : gm_T} {a l h : Int} (ha : rg a) (hl : rg l) (hh : rg h) : md_in g a l h = some (if l ≤ a ∧ a ≤ h then 1 else 0) := by
  unfold md_in
  rw [jg_pos ⟨ha, hl⟩, jg_pos hh]
  by_cases h1 : a < l
  · rw [if_pos h1, if_neg (by omega)]
  · rw [if_neg h1]
    by_cases h2 : a ≤ h
    · rw [if_pos h2, if_pos (by omega)]
    · rw [if_neg h2, if_neg (by omega)]
/-- how many bits there are -/
def V_num (n : Nat) (g : gm_T) : Prop := gm_I g 10 1 = (n : Int) ∧ gm_I g 44 3 = (n : Int) ∧ n ≤ 30
theorem rgn {n : Nat} (h : n ≤ 1000000) : rg (n : Int) := ⟨by omega, by omega⟩
theorem cw_isBit_eq {n : Nat} {g : gm_T} (hn : V_num n g) {a : Int} (ha : rg a) : cw_isBit g a = some (if 0 ≤ a ∧ a < (n : Int) then 1 else 0) := by
  unfold cw_isBit
  have h30 := hn.2.2
  rw [jg_pos ha, hn.1, jg_pos (rgn (by omega))]
  by_cases h1 : a < 0
  · rw [if_pos h1, if_neg (by omega)]
  · rw [if_neg h1]
    by_cases h2 : a < (n : Int)
    · rw [if_pos h2, if_pos (by omega)]
    · rw [if_neg h2, if_neg (by omega)]
theorem md_isBit_eq {n : Nat} {g : gm_T} (hn : V_num n g) {a : Int} (ha : rg a) : md_isBit g a = some (if 0 ≤ a ∧ a < (n : Int) then 1 else 0) := by
  unfold md_isBit
  have h30 := hn.2.2
  rw [hn.2.1, md_in_eq ha (rgk rfl) ⟨by omega, by omega⟩, jb1_some]
  rw [show (if 0 ≤ a ∧ a ≤ (n : Int) - 1 then (1 : Int) else 0) = (if 0 ≤ a ∧ a < (n : Int) then 1 else 0) by
    by_cases h : 0 ≤ a ∧ a < (n : Int)
    · rw [if_pos h, if_pos (by omega)]
    · rw [if_neg h, if_neg (by omega)]]
  rw [jg_pos (by split <;> simp)]
theorem cw_isDigit_eq {g : gm_T} {a : Int} (ha : rg a) : cw_isDigit g a = some (if 0 ≤ a ∧ a ≤ 9 then 1 else 0) := by
  unfold cw_isDigit
  rw [jg_pos ha]
  by_cases h1 : a < 0
  · rw [if_pos h1, if_neg (by omega)]
  · rw [if_neg h1]
    by_cases h2 : a ≤ 9
    · rw [if_pos h2, if_pos (by omega)]
    · rw [if_neg h2, if_neg (by omega)]
theorem cw_isDay_eq {g : gm_T} {a : Int} (ha : rg a) : cw_isDay g a = some (if 0 ≤ a ∧ a ≤ 999 then 1 else 0) := by
  unfold cw_isDay
  rw [jg_pos ha]
  by_cases h1 : a < 0
  · rw [if_pos h1, if_neg (by omega)]
  · rw [if_neg h1]
    by_cases h2 : a ≤ 999
    · rw [if_pos h2, if_pos (by omega)]
    · rw [if_neg h2, if_neg (by omega)]
theorem cw_isHand_eq {g : gm_T} {a : Int} (ha : rg a) : cw_isHand g a = some (if 0 ≤ a ∧ a ≤ 5 then 1 else 0) := by
  unfold cw_isHand
  rw [jg_pos ha]
  by_cases h1 : a < 0
  · rw [if_pos h1, if_neg (by omega)]
  · rw [if_neg h1]
    by_cases h2 : a < 6
    · rw [if_pos h2, if_pos (by omega)]
    · rw [if_neg h2, if_neg (by omega)]
-- tolerance
def V_tol (g : gm_T) : Prop := gm_I g 10 2 = gm_I g 44 20 ∧ 0 ≤ gm_I g 44 20 ∧ gm_I g 44 20 ≤ 30
def W_tol (a k : Nat) : Bool := (a == 10 && k == 2) || (a == 44 && k == 20)
theorem op_tolerance {g : gm_T} (h : V_tol g) {a : Int} (ha : rg a) : ∃ r g1 g2, cw_tolerance g a = some (r, g1) ∧ md_tolerance g1 a = some (r, g2) ∧ V_tol g2 ∧ exc W_tol nob g g2 := by
  unfold cw_tolerance md_tolerance
  simp only [jg_pos ha, md_in_eq ha (rgk rfl : rg 0) (rgk rfl : rg 30), jb_tst, jl_eq]
  by_cases h1 : 0 ≤ a ∧ a ≤ 30
  · refine ⟨gm_I g 10 2, gm_wI g 10 2 a, gm_wI (gm_wI g 10 2 a) 44 20 a, ?_, ?_, ?_, ?_⟩
    · rw [if_neg (by omega), if_pos h1.2]
    · rw [if_pos h1, gI_wI]
      simp [h.1]
    · unfold V_tol
      simp only [gI_wI]
      simp
      exact h1
    · exact exc_wI (exc_wI exc_rf rfl) rfl
  · refine ⟨-2, g, g, ?_, ?_, h, exc_rf⟩
    · by_cases h2 : a < 0
      · rw [if_pos h2]
      · rw [if_neg h2, if_neg (by omega)]
    · rw [if_neg h1]
-- likeness
def V_like (g : gm_T) : Prop := ∀ k, k < 100 → gm_I g 12 k = gm_I g 62 k ∧ 0 ≤ gm_I g 62 k ∧ gm_I g 62 k ≤ 9
def W_like (a k : Nat) : Bool := a == 12 || a == 62
theorem op_likeness {g : gm_T} (h : V_like g) {a b c : Int} (ha : rg a) (hb : rg b) (hc : rg c) : ∃ r g1 g2, cw_likeness g a b c = some (r, g1) ∧ md_likeness g1 a b c = some (r, g2) ∧ V_like g2 ∧ exc W_like nob g g2 := by
  unfold cw_likeness md_likeness
  simp only [cw_isDigit_eq ha, cw_isDigit_eq hb, cw_isDigit_eq hc, md_in_eq ha (rgk rfl : rg 0) (rgk rfl : rg 9), md_in_eq hb (rgk rfl : rg 0) (rgk rfl : rg 9), md_in_eq hc (rgk rfl : rg 0) (rgk rfl : rg 9), jb_tst, jl_eq]
  by_cases h1 : 0 ≤ a ∧ a ≤ 9
  · by_cases h2 : 0 ≤ b ∧ b ≤ 9
    · by_cases h3 : 0 ≤ c ∧ c ≤ 9
      · simp only [if_pos h1, if_pos h2, if_pos h3]
        rw [jg_pos (by omega), jg_pos (by omega)]
        refine ⟨_, _, gm_wI (gm_wI (gm_wI (gm_wI g 12 (10 * a + b).toNat c) 12 (10 * b + a).toNat c) 62 (10 * a + b).toNat c) 62 (10 * b + a).toNat c, rfl, ?_, ?_, ?_⟩
        · rw [jg_pos (by omega), jg_pos (by omega)]
          simp only [gI_wI]
          simp
          exact (h _ (by omega)).1.symm
        · intro k hk
          have hq := h k hk
          simp only [gI_wI]
          simp
          split
          · exact ⟨rfl, h3⟩
          · split
            · exact ⟨rfl, h3⟩
            · exact hq
        · exact exc_wI (exc_wI (exc_wI (exc_wI exc_rf rfl) rfl) rfl) rfl
      · simp only [if_pos h1, if_pos h2, if_neg h3]
        exact ⟨-2, g, g, rfl, rfl, h, exc_rf⟩
    · simp only [if_pos h1, if_neg h2]
      exact ⟨-1, g, g, rfl, rfl, h, exc_rf⟩
  · simp only [if_neg h1]
    exact ⟨-1, g, g, rfl, rfl, h, exc_rf⟩
-- skill
def V_skill (g : gm_T) : Prop := ∀ k, k < 60 → gm_I g 36 k = gm_I g 107 k ∧ 0 ≤ gm_I g 107 k ∧ gm_I g 107 k ≤ 9
def W_skill (a k : Nat) : Bool := a == 36 || a == 107
theorem op_skill {g : gm_T} (h : V_skill g) {a b c : Int} (ha : rg a) (hb : rg b) (hc : rg c) : ∃ r g1 g2, cw_skill g a b c = some (r, g1) ∧ md_skill g1 a b c = some (r, g2) ∧ V_skill g2 ∧ exc W_skill nob g g2 := by
  unfold cw_skill md_skill
  simp only [cw_isHand_eq ha, cw_isDigit_eq hb, cw_isDigit_eq hc, md_in_eq ha (rgk rfl : rg 0) (rgk rfl : rg 5), md_in_eq hb (rgk rfl : rg 0) (rgk rfl : rg 9), md_in_eq hc (rgk rfl : rg 0) (rgk rfl : rg 9), jb_tst, jl_eq]
  by_cases h1 : 0 ≤ a ∧ a ≤ 5
  · by_cases h2 : 0 ≤ b ∧ b ≤ 9
    · by_cases h3 : 0 ≤ c ∧ c ≤ 9
      · simp only [if_pos h1, if_pos h2, if_pos h3]
        rw [jg_pos (by omega)]
        refine ⟨_, _, gm_wI (gm_wI g 36 (10 * a + b).toNat c) 107 (10 * a + b).toNat c, rfl, ?_, ?_, ?_⟩
        · rw [jg_pos (by omega)]
          simp only [gI_wI]
          simp
          exact (h _ (by omega)).1.symm
        · intro k hk
          have hq := h k hk
          simp only [gI_wI]
          simp
          split
          · exact ⟨rfl, h3⟩
          · exact hq
        · exact exc_wI (exc_wI exc_rf rfl) rfl
      · simp only [if_pos h1, if_pos h2, if_neg h3]
        exact ⟨-2, g, g, rfl, rfl, h, exc_rf⟩
    · simp only [if_pos h1, if_neg h2]
      exact ⟨-1, g, g, rfl, rfl, h, exc_rf⟩
  · simp only [if_neg h1]
    exact ⟨-1, g, g, rfl, rfl, h, exc_rf⟩
-- clash
def V_clash (g : gm_T) : Prop := (gm_I g 22 5 = gm_I g 44 35 ∧ 0 ≤ gm_I g 44 35 ∧ gm_I g 44 35 ≤ 5) ∧ (gm_I g 22 8 = gm_I g 44 36 ∧ 0 ≤ gm_I g 44 36 ∧ gm_I g 44 36 ≤ 60) ∧ gm_I g 22 6 = gm_I g 44 37 ∧ gm_I g 22 7 = gm_I g 44 38 ∧ ∀ k : Nat, (k : Int) < gm_I g 44 36 → gm_I g 24 k = gm_I g 75 k
theorem op_clash {g : gm_T} (h : V_clash g) {a : Int} (ha : rg a) : ∃ r, cw_clash g a = some r ∧ md_clash g a = some r := by
  obtain ⟨⟨h1, h2, h3⟩, ⟨h4, h5, h6⟩, h7, h8, h9⟩ := h
  unfold cw_clash md_clash
  rw [h1, h4, h7, h8]
  rw [jg_pos (show rg (gm_I g 44 35) from ⟨by omega, by omega⟩), jg_pos (show rg (gm_I g 44 35) from ⟨by omega, by omega⟩), jg_pos ha, jg_pos ha]
  split
  · exact ⟨_, rfl, rfl⟩
  split
  · exact ⟨_, rfl, rfl⟩
  split
  · exact ⟨_, rfl, rfl⟩
  split
  · exact ⟨_, rfl, rfl⟩
  split
  · exact ⟨_, rfl, rfl⟩
  have hs : nm (gm_I g 44 36 - 1) = gm_I g 44 36 - 1 := nm_eq ⟨by omega, by omega⟩
  rw [hs, md_in_eq (a := nm (a - 10)) (rg_toInt _) (rgk rfl) ⟨by omega, by omega⟩, jb_tst]
  by_cases h10 : a < 10
  · rw [if_pos h10]
    have hlow : nm (a - 10) < 0 ∨ 100 < nm (a - 10) := by
      by_cases hq : -2147483638 ≤ a
      · rw [nm_eq ⟨by omega, by omega⟩]
        omega
      · rw [nm_low (by have := ha.1; omega) (by omega)]
        have := ha.1
        omega
    rw [if_neg (by omega)]
    exact ⟨_, rfl, rfl⟩
  · rw [if_neg h10]
    have hr : rg (a - 10) := ⟨by omega, by have := ha.2; omega⟩
    rw [nm_eq hr, jg_pos (show rg (a - 10) ∧ rg (gm_I g 44 36) from ⟨hr, by omega, by omega⟩)]
    by_cases h11 : a - 10 < gm_I g 44 36
    · rw [if_pos h11, if_pos (by omega), jg_pos (by omega), jg_pos (by omega), h9 _ (by omega)]
      exact ⟨_, rfl, rfl⟩
    · rw [if_neg h11, if_neg (by omega)]
      exact ⟨_, rfl, rfl⟩
