/-! The reference's new bit, before it is compared. -/
def mkSn (n : Nat) (g : gm_T) (a b c : Int) : gm_T := gm_wI (gm_wI (gm_wI (gm_wI (gm_wI (gm_wI g 54 n a) 55 n b) 56 n c) 70 n 0) 71 n 0) 44 3 ((n : Int) + 1)
theorem mkR_of {n : Nat} {g : gm_T} (h3 : gm_I g 44 3 = (n : Int)) (hn : n < 30) (a b c : Int) : mkR g a b c = jb1 (md_bit_l167 fz 0 (mkSn n g a b c)) fun (g42 : gm_T) => some (((gm_I g42 44 3) - 1), g42) := by
  have s1 : gm_I (gm_wI g 54 n a) 44 3 = (n : Int) := by rw [gI_oth (by decide)]; exact h3
  have s2 : gm_I (gm_wI (gm_wI g 54 n a) 55 n b) 44 3 = (n : Int) := by rw [gI_oth (by decide)]; exact s1
  have s3 : gm_I (gm_wI (gm_wI (gm_wI g 54 n a) 55 n b) 56 n c) 44 3 = (n : Int) := by rw [gI_oth (by decide)]; exact s2
  have s4 : gm_I (gm_wI (gm_wI (gm_wI (gm_wI g 54 n a) 55 n b) 56 n c) 70 n 0) 44 3 = (n : Int) := by rw [gI_oth (by decide)]; exact s3
  have s5 : gm_I (gm_wI (gm_wI (gm_wI (gm_wI (gm_wI g 54 n a) 55 n b) 56 n c) 70 n 0) 71 n 0) 44 3 = (n : Int) := by rw [gI_oth (by decide)]; exact s4
  unfold mkR mkSn
  rw [h3, jg_pos ⟨by omega, by omega⟩, Int.toNat_natCast, jl_eq, s1, jg_pos ⟨by omega, by omega⟩, Int.toNat_natCast, jl_eq, s2, jg_pos ⟨by omega, by omega⟩, Int.toNat_natCast, jl_eq, s3, jg_pos ⟨by omega, by omega⟩, Int.toNat_natCast, jl_eq, s4, jg_pos ⟨by omega, by omega⟩, Int.toNat_natCast, jl_eq, s5, jl_eq]
def W_mS (n a j : Nat) : Bool := ((a == 54 || a == 55 || a == 56 || a == 70 || a == 71) && j == n) || (a == 44 && j == 3)
theorem mkSn_exc {n : Nat} {g : gm_T} {a b c : Int} : exc (W_mS n) nob g (mkSn n g a b c) := exc_wI (exc_wI (exc_wI (exc_wI (exc_wI (exc_wI exc_rf (by unfold W_mS; simp)) (by unfold W_mS; simp)) (by unfold W_mS; simp)) (by unfold W_mS; simp)) (by unfold W_mS; simp)) (by unfold W_mS; simp)
theorem mkSn_at {n : Nat} {g : gm_T} {a b c : Int} : gm_I (mkSn n g a b c) 54 n = a ∧ gm_I (mkSn n g a b c) 55 n = b ∧ gm_I (mkSn n g a b c) 56 n = c ∧ gm_I (mkSn n g a b c) 70 n = 0 ∧ gm_I (mkSn n g a b c) 71 n = 0 ∧ gm_I (mkSn n g a b c) 44 3 = ((n + 1 : Nat) : Int) := by
  unfold mkSn
  refine ⟨?_, ?_, ?_, ?_, ?_, ?_⟩
  · rw [gI_oth (by decide), gI_oth (by decide), gI_oth (by decide), gI_oth (by decide), gI_oth (by decide), gI_eq]
  · rw [gI_oth (by decide), gI_oth (by decide), gI_oth (by decide), gI_oth (by decide), gI_eq]
  · rw [gI_oth (by decide), gI_oth (by decide), gI_oth (by decide), gI_eq]
  · rw [gI_oth (by decide), gI_oth (by decide), gI_eq]
  · rw [gI_oth (by decide), gI_eq]
  · rw [gI_eq]; rfl
