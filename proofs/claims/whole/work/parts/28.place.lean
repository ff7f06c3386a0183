/-! Placings packed in longs. -/
theorem lSr_n {a b : Nat} (ha : a < 2 ^ 63) (hb : b < 64) : lSr (lN a) (b : Int) = lN (a / 2 ^ b) := by
  have hc : ∀ k, k < 64 → (((Int32.ofNat k).toInt64 &&& 63).toBitVec.smod 64).toNat = k := by decide +kernel
  unfold lSr
  rw [im_ofN]
  apply wb_inj
  rw [Int64.toBitVec_shiftRight]
  show BitVec.sshiftRight _ _ = _
  rw [hc b hb, BitVec.sshiftRight_eq_of_msb_false]
  · apply BitVec.eq_of_toNat_eq
    rw [BitVec.toNat_ushiftRight, wb_tb, wb_tb, BitVec.toNat_ofNat, BitVec.toNat_ofNat, Nat.mod_eq_of_lt (show a < 2 ^ 64 by omega), Nat.shiftRight_eq_div_pow, Nat.mod_eq_of_lt (Nat.lt_of_le_of_lt (Nat.div_le_self _ _) (show a < 2 ^ 64 by omega))]
  · rw [wb_tb, BitVec.msb_eq_decide, BitVec.toNat_ofNat, Nat.mod_eq_of_lt (show a < 2 ^ 64 by omega)]
    simp
    omega
theorem lI_n {a : Nat} (ha : a < 2147483648) : lI (lN a) = (a : Int) := by
  unfold lI lN
  rw [Int64.toInt32_ofNat']
  exact Int32.toInt_ofNat_of_lt ha
theorem iL_n {a : Nat} (ha : a < 2147483648) : iL (a : Int) = lN a := by
  unfold iL lN
  rw [im_ofN]
  exact Int32.toInt64_ofNat' (by have : Int32.maxValue.toInt = 2147483647 := by decide
                                 omega)
theorem lN_less {a b : Nat} (ha : a < 2 ^ 63) (hb : b < 2 ^ 63) : lN a < lN b ↔ a < b := by
  rw [Int64.lt_iff_toInt_lt, show (lN a).toInt = (a : Int) from lg_ofNat_toInt ha, show (lN b).toInt = (b : Int) from lg_ofNat_toInt hb]
  omega
theorem lN_inj {a b : Nat} (ha : a < 2 ^ 63) (hb : b < 2 ^ 63) (h : lN a = lN b) : a = b := by
  have h1 := congrArg Int64.toInt h
  rw [show (lN a).toInt = (a : Int) from lg_ofNat_toInt ha, show (lN b).toInt = (b : Int) from lg_ofNat_toInt hb] at h1
  omega
/-- a placing in a long -/
def pN (t x y : Int) : Nat := t.toNat * 1099511627776 + (x + 524288).toNat * 1048576 + (y + 524288).toNat
def pk (t x y : Int) : Int64 := lN (pN t x y)
def okp (t x y : Int) : Prop := (0 ≤ t ∧ t ≤ 3) ∧ (-524288 ≤ x ∧ x ≤ 524287) ∧ -524288 ≤ y ∧ y ≤ 524287
theorem pN_lt {t x y : Int} (h : okp t x y) : pN t x y < 4398046511104 := by
  obtain ⟨h1, h2, h3⟩ := h
  unfold pN
  omega
theorem pk_inj {t x y t2 x2 y2 : Int} (h : okp t x y) (h2 : okp t2 x2 y2) : pk t x y = pk t2 x2 y2 ↔ t = t2 ∧ x = x2 ∧ y = y2 := by
  constructor
  · intro q
    have e := lN_inj (by have := pN_lt h; omega) (by have := pN_lt h2; omega) q
    obtain ⟨a1, a2, a3⟩ := h
    obtain ⟨b1, b2, b3⟩ := h2
    unfold pN at e
    omega
  · rintro ⟨rfl, rfl, rfl⟩
    rfl
theorem or_add {a b k : Nat} (h : b < 2 ^ k) : (a * 2 ^ k) ||| b = a * 2 ^ k + b := by
  have := Nat.two_pow_add_eq_or_of_lt h a
  rw [Nat.mul_comm]
  exact this.symm
theorem zA_3 {t : Int} (h : 0 ≤ t ∧ t ≤ 2147483647) : zA t 3 = t % 4 := by
  obtain ⟨k, rfl⟩ : ∃ k : Nat, t = (k : Int) := ⟨_, (Int.toNat_of_nonneg h.1).symm⟩
  rw [show (3 : Int) = ((3 : Nat) : Int) from rfl, zA_n _ (by omega), show (3 : Nat) = 2 ^ 2 - 1 from rfl, Nat.and_two_pow_sub_one_eq_mod]
  omega
theorem cc_of_eq {g : gm_T} {t x y : Int} (ht : 0 ≤ t ∧ t ≤ 1000) (hx : -524288 ≤ x ∧ x ≤ 524287) (hy : -524288 ≤ y ∧ y ≤ 524287) : cc_of g t x y = some (pk (t % 4) x y) := by
  unfold cc_of
  obtain ⟨u, hu⟩ : ∃ u : Nat, t % 4 = (u : Int) := ⟨_, (Int.toNat_of_nonneg (by omega)).symm⟩
  obtain ⟨a, ha⟩ : ∃ a : Nat, x + 524288 = (a : Int) := ⟨_, (Int.toNat_of_nonneg (by omega)).symm⟩
  obtain ⟨b, hb⟩ : ∃ b : Nat, y + 524288 = (b : Int) := ⟨_, (Int.toNat_of_nonneg (by omega)).symm⟩
  have ha2 : a < 1048576 := by omega
  have hb2 : b < 1048576 := by omega
  have hu2 : u < 4 := by omega
  have sl : ∀ {m k : Nat}, k < 64 → lSl (lN m) (k : Int) = lN (m * 2 ^ k) := by
    intro m k hk
    unfold lSl
    rw [im_ofN]
    exact wb_shl m hk
  rw [zA_3 ⟨ht.1, by omega⟩, hu, ha, hb, iL_n (by omega), iL_n (by omega), iL_n (by omega), show (1048575 : Int64) = lN (2 ^ 20 - 1) from by decide +kernel, wb_mask (by omega) (by decide), wb_mask (by omega) (by decide), Nat.mod_eq_of_lt (show a < 2 ^ 20 by omega), Nat.mod_eq_of_lt (show b < 2 ^ 20 by omega), show (40 : Int) = ((40 : Nat) : Int) from rfl, show (20 : Int) = ((20 : Nat) : Int) from rfl, sl (by decide), sl (by decide), wb_or (by omega) (by omega)]
  have e1 : u * 2 ^ 40 ||| a * 2 ^ 20 = u * 2 ^ 40 + a * 2 ^ 20 := or_add (by omega)
  have e2 : (u * 2 ^ 40 + a * 2 ^ 20) ||| b = u * 2 ^ 40 + a * 2 ^ 20 + b := by
    have := or_add (a := u * 2 ^ 20 + a) (b := b) (k := 20) (by omega)
    rw [show (u * 2 ^ 20 + a) * 2 ^ 20 = u * 2 ^ 40 + a * 2 ^ 20 by omega] at this
    exact this
  rw [e1, wb_or (by omega) (by omega), e2]
  unfold pk pN
  rw [ha, hb, Int.toNat_natCast, Int.toNat_natCast, Int.toNat_natCast]
theorem cc_turn_eq {g : gm_T} {t x y : Int} (h : okp t x y) : cc_turn g (pk t x y) = some t := by
  have hl := pN_lt h
  obtain ⟨h1, h2, h3⟩ := id h
  unfold cc_turn pk
  rw [show (40 : Int) = ((40 : Nat) : Int) from rfl, lSr_n (by omega) (by decide)]
  have e : pN t x y / 2 ^ 40 = t.toNat := by unfold pN; omega
  rw [e, lI_n (by omega), show ((t.toNat : Nat) : Int) = t by omega, zA_3 ⟨by omega, by omega⟩]
  congr 1
  omega
theorem cc_x_eq {g : gm_T} {t x y : Int} (h : okp t x y) : cc_x g (pk t x y) = some x := by
  have hl := pN_lt h
  obtain ⟨h1, h2, h3⟩ := id h
  unfold cc_x pk
  rw [show (20 : Int) = ((20 : Nat) : Int) from rfl, lSr_n (by omega) (by decide), show (1048575 : Int64) = lN (2 ^ 20 - 1) from by decide +kernel, wb_mask (Nat.lt_of_le_of_lt (Nat.div_le_self _ _) (by omega)) (by decide)]
  have e : pN t x y / 2 ^ 20 % 2 ^ 20 = (x + 524288).toNat := by unfold pN; omega
  rw [e, lI_n (by omega)]
  congr 1
  omega
theorem cc_y_eq {g : gm_T} {t x y : Int} (h : okp t x y) : cc_y g (pk t x y) = some y := by
  have hl := pN_lt h
  obtain ⟨h1, h2, h3⟩ := id h
  unfold cc_y pk
  rw [show (1048575 : Int64) = lN (2 ^ 20 - 1) from by decide +kernel, wb_mask (by omega) (by decide)]
  have e : pN t x y % 2 ^ 20 = (y + 524288).toNat := by unfold pN; omega
  rw [e, lI_n (by omega)]
  congr 1
  omega
theorem cc_turnedX_eq {g : gm_T} {t x y : Int} (ht : 0 ≤ t ∧ t ≤ 1000) : cc_turnedX g t x y = some (tX (t % 4) x y) := by
  unfold cc_turnedX tX
  rw [zA_3 ⟨ht.1, by omega⟩]
  simp only [ite_some2]
theorem cc_turnedY_eq {g : gm_T} {t x y : Int} (ht : 0 ≤ t ∧ t ≤ 1000) : cc_turnedY g t x y = some (tY (t % 4) x y) := by
  unfold cc_turnedY tY
  rw [zA_3 ⟨ht.1, by omega⟩]
  simp only [ite_some2]
theorem cc_cellX_eq {g : gm_T} {t x y : Int} (ht : 0 ≤ t ∧ t ≤ 3) : cc_cellX g t x y = some (cX t x y) := by
  unfold cc_cellX
  rw [cc_turnedX_eq ⟨ht.1, by omega⟩, jb1_some, jg_pos ⟨by omega, by omega⟩]
  rcases t4 ht with rfl | rfl | rfl | rfl
  · show some (x - 0) = some x
    rw [Int.sub_zero]
  · rfl
  · rfl
  · show some (y - 0) = some y
    rw [Int.sub_zero]
theorem cc_cellY_eq {g : gm_T} {t x y : Int} (ht : 0 ≤ t ∧ t ≤ 3) : cc_cellY g t x y = some (cY t x y) := by
  unfold cc_cellY
  rw [cc_turnedY_eq ⟨ht.1, by omega⟩, jb1_some, jg_pos ⟨by omega, by omega⟩]
  rcases t4 ht with rfl | rfl | rfl | rfl
  · show some (y - 0) = some y
    rw [Int.sub_zero]
  · show some (x - 0) = some x
    rw [Int.sub_zero]
  · rfl
  · rfl
/-- a placing: (turn, x, y) -/
abbrev plc : Type := Int × Int × Int
def pp (p : plc) : Int64 := pk p.1 p.2.1 p.2.2
/-- within: what is placed by q inside something placed by p -/
def pon (p q : plc) : plc := ((p.1 + q.1) % 4, tX p.1 q.2.1 q.2.2 + p.2.1, tY p.1 q.2.1 q.2.2 + p.2.2)
def pin (p : plc) : plc := ((4 - p.1) % 4, tX ((4 - p.1) % 4) (-p.2.1) (-p.2.2), tY ((4 - p.1) % 4) (-p.2.1) (-p.2.2))
def bpl (M : Int) (p : plc) : Prop := (0 ≤ p.1 ∧ p.1 ≤ 3) ∧ (-M ≤ p.2.1 ∧ p.2.1 ≤ M) ∧ -M ≤ p.2.2 ∧ p.2.2 ≤ M
theorem bpl_ok {M : Int} {p : plc} (h : bpl M p) (hM : M ≤ 524287) : okp p.1 p.2.1 p.2.2 := by
  obtain ⟨h1, h2, h3⟩ := h
  exact ⟨h1, ⟨by omega, by omega⟩, by omega, by omega⟩
theorem t_b {t x y M : Int} (ht : 0 ≤ t ∧ t ≤ 3) (hx : -M ≤ x ∧ x ≤ M) (hy : -M ≤ y ∧ y ≤ M) : (-M ≤ tX t x y ∧ tX t x y ≤ M) ∧ -M ≤ tY t x y ∧ tY t x y ≤ M := by
  rcases t4 ht with rfl | rfl | rfl | rfl <;> (unfold tX tY; simp; omega)
theorem bpl_on {M N : Int} {p q : plc} (hp : bpl M p) (hq : bpl N q) : bpl (M + N) (pon p q) := by
  obtain ⟨h1, h2, h3⟩ := hp
  obtain ⟨k1, k2, k3⟩ := hq
  obtain ⟨b1, b2⟩ := t_b h1 k2 k3
  unfold pon bpl
  dsimp only
  omega
theorem bpl_in {M : Int} {p : plc} (hp : bpl M p) : bpl M (pin p) := by
  obtain ⟨h1, h2, h3⟩ := hp
  obtain ⟨b1, b2⟩ := t_b (t := (4 - p.1) % 4) (x := -p.2.1) (y := -p.2.2) (M := M) (by omega) (by omega) (by omega)
  unfold pin bpl
  dsimp only
  omega
theorem cc_onto_eq {g : gm_T} {M N : Int} {p q : plc} (hp : bpl M p) (hq : bpl N q) (hM : M + N ≤ 524287) (h0 : 0 ≤ M) (h1 : 0 ≤ N) : cc_onto g (pp p) (pp q) = some (pp (pon p q)) := by
  have ho := bpl_on hp hq
  have o1 := bpl_ok hp (by omega)
  have o2 := bpl_ok hq (by omega)
  have o3 := bpl_ok ho hM
  unfold cc_onto pp
  rw [cc_turn_eq o1, jb1_some, cc_x_eq o2, jb1_some, cc_y_eq o2, jb1_some, cc_turn_eq o2, jb1_some, cc_turnedX_eq ⟨o1.1.1, by have := o1.1.2; omega⟩, jb1_some, cc_x_eq o1, jb1_some, cc_turnedY_eq ⟨o1.1.1, by have := o1.1.2; omega⟩, jb1_some, cc_y_eq o1, jb1_some]
  have e4 : p.1 % 4 = p.1 := by have := o1.1; omega
  have e5 : cc_of g (p.1 + q.1) (tX p.1 q.2.1 q.2.2 + p.2.1) (tY p.1 q.2.1 q.2.2 + p.2.2) = _ := cc_of_eq ⟨by have := o1.1; have := o2.1; omega, by have := o1.1; have := o2.1; omega⟩ o3.2.1 o3.2.2
  rw [e4, e5, jb1_some]
  rfl
theorem cc_inverse_eq {g : gm_T} {M : Int} {p : plc} (hp : bpl M p) (hM : M ≤ 524287) : cc_inverse g (pp p) = some (pp (pin p)) := by
  have o1 := bpl_ok hp hM
  have o2 := bpl_ok (bpl_in hp) hM
  unfold cc_inverse pp
  unfold pin at o2 ⊢
  dsimp only at o2 ⊢
  have h1 : 0 ≤ 4 - p.1 ∧ 4 - p.1 ≤ 1000 := by
    have := o1.1
    omega
  rw [cc_turn_eq o1, jb1_some, jl_eq, cc_x_eq o1, jb1_some, jl_eq, cc_y_eq o1, jb1_some, jl_eq, cc_turnedX_eq h1, jb1_some, cc_turnedY_eq h1, jb1_some, cc_of_eq h1 o2.2.1 o2.2.2, jb1_some]
theorem cc_against_eq {g : gm_T} {M N : Int} {p q : plc} (hp : bpl M p) (hq : bpl N q) (hM : M + N ≤ 524287) (h0 : 0 ≤ M) (h1 : 0 ≤ N) : cc_against g (pp p) (pp q) = some (pp (pon (pin p) q)) := by
  unfold cc_against
  rw [cc_inverse_eq hp (by omega), jb1_some, cc_onto_eq (bpl_in hp) hq hM h0 h1, jb1_some]
theorem cc_move_eq {g : gm_T} {M N : Int} {p q : plc} (hp : bpl M p) (hq : bpl N q) (hM : M + N ≤ 524287) (h0 : 0 ≤ M) (h1 : 0 ≤ N) : cc_move g (pp p) (pp q) = some (pp (pon q (pin p))) := by
  unfold cc_move
  rw [cc_inverse_eq hp (by omega), jb1_some, cc_onto_eq hq (bpl_in hp) (by omega) h1 h0, jb1_some]
-- the group's laws
def okt (p : plc) : Prop := 0 ≤ p.1 ∧ p.1 ≤ 3
theorem pl_ext {p q : plc} (h1 : p.1 = q.1) (h2 : p.2.1 = q.2.1) (h3 : p.2.2 = q.2.2) : p = q := by
  obtain ⟨a, b, c⟩ := p
  obtain ⟨d, e, f⟩ := q
  simp only at h1 h2 h3
  rw [h1, h2, h3]
theorem tt {s t x y : Int} (hs : 0 ≤ s ∧ s ≤ 3) (ht : 0 ≤ t ∧ t ≤ 3) : tX s (tX t x y) (tY t x y) = tX ((s + t) % 4) x y ∧ tY s (tX t x y) (tY t x y) = tY ((s + t) % 4) x y := by
  rcases t4 hs with rfl | rfl | rfl | rfl <;> rcases t4 ht with rfl | rfl | rfl | rfl <;> (unfold tX tY; simp)
theorem t_add (t x y a b : Int) : tX t (x + a) (y + b) = tX t x y + tX t a b ∧ tY t (x + a) (y + b) = tY t x y + tY t a b := by
  unfold tX tY
  constructor
  · split
    · rfl
    · split
      · omega
      · split <;> omega
  · split
    · rfl
    · split
      · rfl
      · split <;> omega
theorem t_neg (t x y : Int) : tX t (-x) (-y) = -tX t x y ∧ tY t (-x) (-y) = -tY t x y := by
  unfold tX tY
  constructor
  · split
    · rfl
    · split
      · omega
      · split <;> omega
  · split
    · rfl
    · split
      · rfl
      · split <;> omega
theorem pon_okt {p q : plc} (hp : okt p) (hq : okt q) : okt (pon p q) := by
  unfold okt at *
  unfold pon
  dsimp only
  omega
theorem pin_okt {p : plc} (hp : okt p) : okt (pin p) := by
  unfold okt at *
  unfold pin
  dsimp only
  omega
theorem pon_assoc {p q r : plc} (hp : okt p) (hq : okt q) : pon (pon p q) r = pon p (pon q r) := by
  obtain ⟨a1, a2⟩ := tt (x := r.2.1) (y := r.2.2) hp hq
  obtain ⟨b1, b2⟩ := t_add p.1 (tX q.1 r.2.1 r.2.2) (tY q.1 r.2.1 r.2.2) q.2.1 q.2.2
  refine pl_ext ?_ ?_ ?_
  · show ((p.1 + q.1) % 4 + r.1) % 4 = (p.1 + (q.1 + r.1) % 4) % 4
    omega
  · show tX ((p.1 + q.1) % 4) r.2.1 r.2.2 + (tX p.1 q.2.1 q.2.2 + p.2.1) = tX p.1 (tX q.1 r.2.1 r.2.2 + q.2.1) (tY q.1 r.2.1 r.2.2 + q.2.2) + p.2.1
    rw [b1, a1]
    omega
  · show tY ((p.1 + q.1) % 4) r.2.1 r.2.2 + (tY p.1 q.2.1 q.2.2 + p.2.2) = tY p.1 (tX q.1 r.2.1 r.2.2 + q.2.1) (tY q.1 r.2.1 r.2.2 + q.2.2) + p.2.2
    rw [b2, a2]
    omega
def p0 : plc := (0, 0, 0)
theorem pon_0 {p : plc} (hp : okt p) : pon p p0 = p := by
  have h := hp
  unfold okt at h
  refine pl_ext ?_ ?_ ?_
  · show (p.1 + 0) % 4 = p.1
    omega
  · show tX p.1 0 0 + p.2.1 = p.2.1
    rcases t4 h with e | e | e | e <;> (rw [e]; unfold tX; simp)
  · show tY p.1 0 0 + p.2.2 = p.2.2
    rcases t4 h with e | e | e | e <;> (rw [e]; unfold tY; simp)
theorem p0_on {p : plc} (hp : okt p) : pon p0 p = p := by
  have h := hp
  unfold okt at h
  refine pl_ext ?_ ?_ ?_
  · show (0 + p.1) % 4 = p.1
    omega
  · show p.2.1 + 0 = p.2.1
    omega
  · show p.2.2 + 0 = p.2.2
    omega
theorem pin_on {p : plc} (hp : okt p) : pon (pin p) p = p0 := by
  have h := hp
  unfold okt at h
  obtain ⟨e1, e2⟩ := t_neg ((4 - p.1) % 4) p.2.1 p.2.2
  refine pl_ext ?_ ?_ ?_
  · show ((4 - p.1) % 4 + p.1) % 4 = 0
    omega
  · show tX ((4 - p.1) % 4) p.2.1 p.2.2 + tX ((4 - p.1) % 4) (-p.2.1) (-p.2.2) = 0
    omega
  · show tY ((4 - p.1) % 4) p.2.1 p.2.2 + tY ((4 - p.1) % 4) (-p.2.1) (-p.2.2) = 0
    omega
theorem pon_in {p : plc} (hp : okt p) : pon p (pin p) = p0 := by
  have h := hp
  unfold okt at h
  obtain ⟨e1, e2⟩ := tt (s := p.1) (t := (4 - p.1) % 4) (x := -p.2.1) (y := -p.2.2) h (by omega)
  rw [show (p.1 + (4 - p.1) % 4) % 4 = 0 by omega] at e1 e2
  refine pl_ext ?_ ?_ ?_
  · show (p.1 + (4 - p.1) % 4) % 4 = 0
    omega
  · show tX p.1 (tX ((4 - p.1) % 4) (-p.2.1) (-p.2.2)) (tY ((4 - p.1) % 4) (-p.2.1) (-p.2.2)) + p.2.1 = 0
    rw [e1]
    show -p.2.1 + p.2.1 = 0
    omega
  · show tY p.1 (tX ((4 - p.1) % 4) (-p.2.1) (-p.2.2)) (tY ((4 - p.1) % 4) (-p.2.1) (-p.2.2)) + p.2.2 = 0
    rw [e2]
    show -p.2.2 + p.2.2 = 0
    omega
theorem pin_pin {p : plc} (hp : okt p) : pin (pin p) = p := by
  have h1 := pin_okt hp
  have h2 : pon (pin (pin p)) (pon (pin p) p) = pin (pin p) := by rw [pin_on hp, pon_0 (pin_okt h1)]
  rw [← pon_assoc (pin_okt h1) h1, pin_on h1, p0_on hp] at h2
  exact h2.symm
theorem pin_pon {p q : plc} (hp : okt p) (hq : okt q) : pin (pon p q) = pon (pin q) (pin p) := by
  have hpq := pon_okt hp hq
  have h1 : pon (pon (pin q) (pin p)) (pon p q) = p0 := by
    rw [pon_assoc (pin_okt hq) (pin_okt hp), ← pon_assoc (pin_okt hp) hp, pin_on hp, p0_on hq, pin_on hq]
  have h2 : pon (pon (pon (pin q) (pin p)) (pon p q)) (pin (pon p q)) = pin (pon p q) := by rw [h1, p0_on (pin_okt hpq)]
  rw [pon_assoc (pon_okt (pin_okt hq) (pin_okt hp)) hpq, pon_in hpq, pon_0 (pon_okt (pin_okt hq) (pin_okt hp))] at h2
  exact h2.symm
theorem pon_left {p q r : plc} (hp : okt p) (hq : okt q) (hr : okt r) (h : pon p q = pon p r) : q = r := by
  have h1 := congrArg (pon (pin p)) h
  rw [← pon_assoc (pin_okt hp) hp, ← pon_assoc (pin_okt hp) hp, pin_on hp, p0_on hq, p0_on hr] at h1
  exact h1
theorem pon_right {p q r : plc} (hp : okt p) (hq : okt q) (hr : okt r) (h : pon q p = pon r p) : q = r := by
  have h1 := congrArg (fun s => pon s (pin p)) h
  rw [pon_assoc hq hp, pon_assoc hr hp, pon_in hp, pon_0 hq, pon_0 hr] at h1
  exact h1
