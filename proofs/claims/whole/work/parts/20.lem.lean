/-! Level 3: plain facts for the programs. -/
theorem gI_wI (g : gm_T) (a k : Nat) (v : Int) (b j : Nat) : gm_I (gm_wI g a k v) b j = if b = a then (if j = k then v else gm_I g b j) else gm_I g b j := rfl
theorem gI_wJ (g : gm_T) (a k : Nat) (v : Int64) (b j : Nat) : gm_I (gm_wJ g a k v) b j = gm_I g b j := rfl
theorem gJ_wI (g : gm_T) (a k : Nat) (v : Int) (b j : Nat) : gm_J (gm_wI g a k v) b j = gm_J g b j := rfl
theorem gJ_wJ (g : gm_T) (a k : Nat) (v : Int64) (b j : Nat) : gm_J (gm_wJ g a k v) b j = if b = a then (if j = k then v else gm_J g b j) else gm_J g b j := rfl
theorem ite_some2 {α : Type} {c : Prop} [inst : Decidable c] (a b : α) : (if c then some a else some b) = some (if c then a else b) := by
  split <;> rfl
theorem fz_gt {k : Nat} (h : Nat.blt k 100000 = true) : k < fz := Nat.le_of_ble_eq_true h
/-- g2 is g but for the cells that W names (ints) and WJ (longs) -/
def exc (W WJ : Nat → Nat → Bool) (g g2 : gm_T) : Prop := (∀ a k, W a k = false → gm_I g2 a k = gm_I g a k) ∧ (∀ a k, WJ a k = false → gm_J g2 a k = gm_J g a k)
def nob (_ _ : Nat) : Bool := false
theorem exc_rf {W WJ : Nat → Nat → Bool} {g : gm_T} : exc W WJ g g := ⟨fun _ _ _ => rfl, fun _ _ _ => rfl⟩
theorem exc_tr {W WJ : Nat → Nat → Bool} {g g2 g3 : gm_T} (h1 : exc W WJ g g2) (h2 : exc W WJ g2 g3) : exc W WJ g g3 := ⟨fun a k h => (h2.1 a k h).trans (h1.1 a k h), fun a k h => (h2.2 a k h).trans (h1.2 a k h)⟩
theorem exc_wI {W WJ : Nat → Nat → Bool} {g g2 : gm_T} {a k : Nat} {v : Int} (h1 : exc W WJ g g2) (hw : W a k = true) : exc W WJ g (gm_wI g2 a k v) := ⟨fun b j h => by
  rw [gI_wI]
  split
  · split
    · subst_vars
      rw [hw] at h
      cases h
    · exact h1.1 b j h
  · exact h1.1 b j h, h1.2⟩
theorem exc_wJ {W WJ : Nat → Nat → Bool} {g g2 : gm_T} {a k : Nat} {v : Int64} (h1 : exc W WJ g g2) (hw : WJ a k = true) : exc W WJ g (gm_wJ g2 a k v) := ⟨h1.1, fun b j h => by
  rw [gJ_wJ]
  split
  · split
    · subst_vars
      rw [hw] at h
      cases h
    · exact h1.2 b j h
  · exact h1.2 b j h⟩
theorem exc_mono {W WJ V VJ : Nat → Nat → Bool} {g g2 : gm_T} (h : exc W WJ g g2) (h1 : ∀ a k, W a k = true → V a k = true) (h2 : ∀ a k, WJ a k = true → VJ a k = true) : exc V VJ g g2 := ⟨fun a k hv => h.1 a k (by
  cases hq : W a k with
  | false => rfl
  | true => rw [h1 a k hq] at hv; cases hv), fun a k hv => h.2 a k (by
  cases hq : WJ a k with
  | false => rfl
  | true => rw [h2 a k hq] at hv; cases hv)⟩
-- masks: ints that are not below 0, as numbers
theorem im_ofN (n : Nat) : Int32.ofInt (n : Int) = Int32.ofNat n := Int32.ofInt_eq_ofNat
theorem im_and (a b : Nat) : Int32.ofNat a &&& Int32.ofNat b = Int32.ofNat (a &&& b) := by
  apply Int32.toBitVec_inj.1
  show BitVec.ofNat 32 a &&& BitVec.ofNat 32 b = BitVec.ofNat 32 (a &&& b)
  apply BitVec.eq_of_getLsbD_eq
  intro i hi
  simp [hi]
theorem im_or (a b : Nat) : Int32.ofNat a ||| Int32.ofNat b = Int32.ofNat (a ||| b) := by
  apply Int32.toBitVec_inj.1
  show BitVec.ofNat 32 a ||| BitVec.ofNat 32 b = BitVec.ofNat 32 (a ||| b)
  apply BitVec.eq_of_getLsbD_eq
  intro i hi
  simp [hi]
theorem and_le_l (a b : Nat) : a &&& b ≤ a := Nat.and_le_left
theorem zA_n {a : Nat} (b : Nat) (ha : a < 2147483648) : zA (a : Int) (b : Int) = ((a &&& b : Nat) : Int) := by
  unfold zA
  rw [im_ofN, im_ofN, im_and]
  exact Int32.toInt_ofNat_of_lt (Nat.lt_of_le_of_lt (and_le_l a b) ha)
theorem zA_comm (a b : Int) : zA a b = zA b a := by
  unfold zA
  rw [Int32.and_comm]
theorem zO_n {a b : Nat} (ha : a < 2147483648) (hb : b < 2147483648) : zO (a : Int) (b : Int) = ((a ||| b : Nat) : Int) := by
  unfold zO
  rw [im_ofN, im_ofN, im_or]
  exact Int32.toInt_ofNat_of_lt (Nat.or_lt_two_pow (n := 31) ha hb)
theorem im_s : ∀ n, n < 32 → ((Int32.ofNat n &&& 31).toBitVec.smod 32).toNat = n := by decide +kernel
theorem zSl_1 {b : Nat} (hb : b < 31) : zSl 1 (b : Int) = ((2 ^ b : Nat) : Int) := by
  have h : ∀ b, b < 31 → (Int32.ofInt 1 <<< (Int32.ofNat b &&& 31)) = Int32.ofNat (2 ^ b) := by decide +kernel
  unfold zSl
  rw [im_ofN, h b hb]
  exact Int32.toInt_ofNat_of_lt (Nat.pow_lt_pow_right (by decide) hb)
theorem zSr_n {a b : Nat} (ha : a < 2147483648) (hb : b < 32) : zSr (a : Int) (b : Int) = ((a >>> b : Nat) : Int) := by
  unfold zSr
  rw [im_ofN, im_ofN]
  have h1 : (Int32.ofNat a >>> (Int32.ofNat b &&& 31)).toBitVec = (Int32.ofNat (a >>> b)).toBitVec := by
    rw [Int32.toBitVec_shiftRight]
    have h2 := im_s b hb
    show BitVec.sshiftRight' _ _ = _
    unfold BitVec.sshiftRight'
    rw [h2, BitVec.sshiftRight_eq_of_msb_false]
    · apply BitVec.eq_of_toNat_eq
      rw [BitVec.toNat_ushiftRight]
      show (BitVec.ofNat 32 a).toNat >>> b = (BitVec.ofNat 32 (a >>> b)).toNat
      rw [BitVec.toNat_ofNat, BitVec.toNat_ofNat, Nat.mod_eq_of_lt (by omega), Nat.mod_eq_of_lt (Nat.lt_of_le_of_lt (by rw [Nat.shiftRight_eq_div_pow]; exact Nat.div_le_self _ _) (show a < 2 ^ 32 by omega))]
    · show (BitVec.ofNat 32 a).msb = false
      rw [BitVec.msb_eq_decide, BitVec.toNat_ofNat, Nat.mod_eq_of_lt (by omega)]
      simp
      omega
  rw [show Int32.ofNat a >>> (Int32.ofNat b &&& 31) = Int32.ofNat (a >>> b) from Int32.toBitVec_inj.mp h1]
  exact Int32.toInt_ofNat_of_lt (Nat.lt_of_le_of_lt (by rw [Nat.shiftRight_eq_div_pow]; exact Nat.div_le_self _ _) ha)
/-- bit b of a mask -/
theorem zbit {a b : Nat} (ha : a < 2147483648) (hb : b < 32) : zA (zSr (a : Int) (b : Int)) 1 = if a.testBit b then 1 else 0 := by
  rw [zSr_n ha hb]
  have h1 := zA_n (a := a >>> b) 1 (Nat.lt_of_le_of_lt (by rw [Nat.shiftRight_eq_div_pow]; exact Nat.div_le_self _ _) ha)
  rw [show ((1 : Nat) : Int) = 1 from rfl] at h1
  rw [h1, Nat.and_one_is_mod]
  unfold Nat.testBit
  rw [Nat.one_and_eq_mod_two]
  rcases Nat.mod_two_eq_zero_or_one (a >>> b) with h | h <;> simp [h]
/-- a without the bits of b -/
theorem im_not (b : Nat) : ∀ i, i < 32 → ((Int32.ofNat b) ^^^ (-1)).toBitVec.getLsbD i = !(b.testBit i) := by
  intro i hi
  rw [Int32.toBitVec_xor, BitVec.getLsbD_xor]
  have h1 : ∀ i, i < 32 → ((-1 : Int32)).toBitVec.getLsbD i = true := by decide +kernel
  rw [h1 i hi]
  show ((BitVec.ofNat 32 b).getLsbD i ^^ true) = _
  rw [BitVec.getLsbD_ofNat]
  simp [hi]
def ndf (a b : Nat) : Nat := a ^^^ (a &&& b)
theorem ndf_bit (a b i : Nat) : (ndf a b).testBit i = (a.testBit i && !b.testBit i) := by
  unfold ndf
  rw [Nat.testBit_xor, Nat.testBit_and]
  cases a.testBit i <;> cases b.testBit i <;> rfl
theorem ndf_le (a b : Nat) : ndf a b ≤ a := by
  have h : ndf a b = ndf a b &&& a := by
    apply Nat.eq_of_testBit_eq
    intro i
    rw [Nat.testBit_and, ndf_bit]
    cases a.testBit i <;> cases b.testBit i <;> rfl
  rw [h]
  exact Nat.and_le_right
theorem zA_not {a b : Nat} (ha : a < 2147483648) : zA (a : Int) (zX (b : Int) (-1)) = ((ndf a b : Nat) : Int) := by
  unfold zA zX
  rw [Int32.ofInt_toInt, im_ofN, im_ofN, show Int32.ofInt (-1) = -1 from by decide]
  have h : Int32.ofNat a &&& (Int32.ofNat b ^^^ -1) = Int32.ofNat (ndf a b) := by
    apply Int32.toBitVec_inj.1
    apply BitVec.eq_of_getLsbD_eq
    intro i hi
    rw [Int32.toBitVec_and, BitVec.getLsbD_and, im_not b i hi]
    show ((BitVec.ofNat 32 a).getLsbD i && !b.testBit i) = (BitVec.ofNat 32 (ndf a b)).getLsbD i
    rw [BitVec.getLsbD_ofNat, BitVec.getLsbD_ofNat, ndf_bit]
    simp [hi]
  rw [h]
  exact Int32.toInt_ofNat_of_lt (Nat.lt_of_le_of_lt (ndf_le a b) ha)
