/-! Longs as numbers (the first rows of the kit's family wb_ for pasting), bitCount and numberOfTrailingZeros as programs. -/
theorem wb_tb (n : Nat) : (lN n).toBitVec = BitVec.ofNat 64 n := rfl
theorem wb_inj {a b : Int64} (h : a.toBitVec = b.toBitVec) : a = b := Int64.toBitVec_inj.mp h
theorem wb_tn {n : Nat} (h : n < 2 ^ 64) : (lN n).toBitVec.toNat = n := by rw [wb_tb, BitVec.toNat_ofNat, Nat.mod_eq_of_lt h]
theorem wb_of (x : Int64) : ∃ n, n < 2 ^ 64 ∧ x = lN n := ⟨x.toBitVec.toNat, x.toBitVec.isLt, wb_inj (by rw [wb_tb]; simp)⟩
theorem wb_of32 (x : Int32) : ∃ n, n < 2 ^ 32 ∧ x = nI n := ⟨x.toBitVec.toNat, x.toBitVec.isLt, Int32.toBitVec_inj.mp (by show _ = BitVec.ofNat 32 _; simp)⟩
theorem wb_c : ∀ k, k < 64 → ((nI k).toInt64 &&& 63) = lN k := by decide +kernel
theorem wb_cu : ∀ k, k < 64 → ((nI k).toInt64.toUInt64 &&& Int64.toUInt64 63) = UInt64.ofNat k := by decide +kernel
theorem wb_sm : ∀ k, k < 64 → (BitVec.ofNat 64 k).smod 64 = BitVec.ofNat 64 k := by decide +kernel
theorem wb_pw {a b : Nat} (h : a ≤ b) : 2 ^ b = 2 ^ a * 2 ^ (b - a) := by rw [← Nat.pow_add]; congr 1; omega
theorem wb_lt2 {a b : Nat} (h : a < b) : 2 ^ a < 2 ^ b := Nat.pow_lt_pow_right (by decide) h
theorem wb_mod (n : Nat) : lN n = lN (n % 2 ^ 64) := wb_inj (by rw [wb_tb, wb_tb]; apply BitVec.eq_of_toNat_eq; rw [BitVec.toNat_ofNat, BitVec.toNat_ofNat, Nat.mod_mod])
theorem wb_shr {n k : Nat} (hn : n < 2 ^ 64) (hk : k < 64) : ((lN n).toUInt64 >>> ((nI k).toInt64.toUInt64 &&& Int64.toUInt64 63)).toInt64 = lN (n / 2 ^ k) := by
  rw [wb_cu k hk]
  apply wb_inj
  apply BitVec.eq_of_toNat_eq
  show ((lN n).toUInt64 >>> UInt64.ofNat k).toNat = (BitVec.ofNat 64 _).toNat
  have h1 : (UInt64.ofNat k).toNat = k := by
    show (BitVec.ofNat 64 k).toNat = k
    rw [BitVec.toNat_ofNat, Nat.mod_eq_of_lt (by omega)]
  have h2 : (lN n).toUInt64.toNat = n := wb_tn hn
  rw [UInt64.toNat_shiftRight, h1, h2, Nat.mod_eq_of_lt hk, Nat.shiftRight_eq_div_pow, BitVec.toNat_ofNat, Nat.mod_eq_of_lt (Nat.lt_of_le_of_lt (Nat.div_le_self _ _) hn)]
theorem wb_shl (n : Nat) {k : Nat} (hk : k < 64) : lN n <<< ((nI k).toInt64 &&& 63) = lN (n * 2 ^ k) := by
  rw [wb_c k hk]
  apply wb_inj
  rw [Int64.toBitVec_shiftLeft, wb_tb, wb_tb, wb_tb, wb_sm k hk]
  apply BitVec.eq_of_toNat_eq
  rw [BitVec.shiftLeft_eq', BitVec.toNat_shiftLeft, BitVec.toNat_ofNat, BitVec.toNat_ofNat, BitVec.toNat_ofNat, Nat.mod_eq_of_lt (show k < 2 ^ 64 by omega), Nat.shiftLeft_eq, Nat.mul_mod, Nat.mod_mod, ← Nat.mul_mod]
theorem wb_and {a b : Nat} (ha : a < 2 ^ 64) (hb : b < 2 ^ 64) : lN a &&& lN b = lN (a &&& b) := by
  apply wb_inj
  rw [Int64.toBitVec_and, wb_tb, wb_tb, wb_tb]
  apply BitVec.eq_of_toNat_eq
  rw [BitVec.toNat_and, BitVec.toNat_ofNat, BitVec.toNat_ofNat, BitVec.toNat_ofNat, Nat.mod_eq_of_lt ha, Nat.mod_eq_of_lt hb, Nat.mod_eq_of_lt (Nat.and_lt_two_pow _ hb)]
theorem wb_or {a b : Nat} (ha : a < 2 ^ 64) (hb : b < 2 ^ 64) : lN a ||| lN b = lN (a ||| b) := by
  apply wb_inj
  rw [Int64.toBitVec_or, wb_tb, wb_tb, wb_tb]
  apply BitVec.eq_of_toNat_eq
  rw [BitVec.toNat_or, BitVec.toNat_ofNat, BitVec.toNat_ofNat, BitVec.toNat_ofNat, Nat.mod_eq_of_lt ha, Nat.mod_eq_of_lt hb, Nat.mod_eq_of_lt (Nat.or_lt_two_pow ha hb)]
theorem wb_mask {n k : Nat} (hn : n < 2 ^ 64) (hk : k < 64) : lN n &&& lN (2 ^ k - 1) = lN (n % 2 ^ k) := by
  rw [wb_and hn (by have := wb_lt2 hk; omega), Nat.and_two_pow_sub_one_eq_mod]
theorem wb_a1 {n : Nat} (hn : n < 2 ^ 64) : lN n &&& 1 = lN (n % 2) := wb_mask (k := 1) hn (by decide)
theorem im_su : ∀ n, n < 32 → (((Int32.ofNat n).toUInt32 &&& Int32.toUInt32 31).toBitVec % 32).toNat = n := by decide +kernel
theorem zSu_n {a b : Nat} (ha : a < 2147483648) (hb : b < 32) : zSu (a : Int) (b : Int) = ((a >>> b : Nat) : Int) := by
  unfold zSu
  rw [im_ofN, im_ofN]
  have h : ((Int32.ofNat a).toUInt32 >>> ((Int32.ofNat b).toUInt32 &&& Int32.toUInt32 31)).toInt32 = Int32.ofNat (a >>> b) := by
    apply Int32.toBitVec_inj.1
    show ((Int32.ofNat a).toUInt32 >>> ((Int32.ofNat b).toUInt32 &&& Int32.toUInt32 31)).toBitVec = BitVec.ofNat 32 (a >>> b)
    rw [UInt32.toBitVec_shiftRight]
    show (BitVec.ofNat 32 a) >>> (((Int32.ofNat b).toUInt32 &&& Int32.toUInt32 31).toBitVec % 32).toNat = _
    rw [im_su b hb]
    apply BitVec.eq_of_toNat_eq
    rw [BitVec.toNat_ushiftRight, BitVec.toNat_ofNat, BitVec.toNat_ofNat, Nat.mod_eq_of_lt (by omega), Nat.mod_eq_of_lt (Nat.lt_of_le_of_lt (by rw [Nat.shiftRight_eq_div_pow]; exact Nat.div_le_self _ _) (show a < 2 ^ 32 by omega))]
  rw [h]
  exact Int32.toInt_ofNat_of_lt (Nat.lt_of_le_of_lt (by rw [Nat.shiftRight_eq_div_pow]; exact Nat.div_le_self _ _) ha)
theorem bmap4 (f : Nat → Nat) (x : Nat) : bmap f 4 x = 256 * (256 * (256 * (256 * 0 + f (x / 256 / 256 / 256 % 256)) + f (x / 256 / 256 % 256)) + f (x / 256 % 256)) + f (x % 256) := rfl
theorem bs4 (x : Nat) : bs 4 x = 0 + pb (x / 256 / 256 / 256 % 256) + pb (x / 256 / 256 % 256) + pb (x / 256 % 256) + pb (x % 256) := rfl
theorem jd_bitCount_n (g : gm_T) {m : Nat} (hm : m < 2147483648) : jd_bitCount g (m : Int) = some ((ct m.testBit 31 : Nat) : Int) := by
  obtain ⟨y, z, w, hy, h1, h2, hz, h3, hw, h4, h5⟩ := b_pop 4 m (by omega)
  have hct : ct m.testBit 31 = bs 4 m := by
    rw [bs_ct]
    have : ct m.testBit (8 * 4) = ct m.testBit 31 := ct_more (fun i hi => Nat.testBit_lt_two_pow (Nat.lt_of_lt_of_le hm (Nat.pow_le_pow_right (n := 2) (by decide) (show 31 ≤ i from hi)))) 32 (by decide)
    exact this.symm
  have hyl : y < 2147483648 := by omega
  have hzl : z ≤ 1717986918 := by
    have a1 : y &&& bm 51 4 ≤ 858993459 := Nat.and_le_right
    have a2 : (y >>> 2) &&& bm 51 4 ≤ 858993459 := Nat.and_le_right
    omega
  have hz4 : z >>> 4 = z / 16 := by rw [Nat.shiftRight_eq_div_pow]
  have hwl : w ≤ 252645135 := by rw [hw]; exact Nat.and_le_right
  unfold jd_bitCount
  simp only [jl_eq]
  rw [show (1 : Int) = ((1 : Nat) : Int) from rfl, zSu_n hm (by decide), show (1431655765 : Int) = ((1431655765 : Nat) : Int) from rfl, zA_n _ (Nat.lt_of_le_of_lt (by rw [Nat.shiftRight_eq_div_pow]; exact Nat.div_le_self _ _) hm)]
  rw [show (m : Int) - (((m >>> 1) &&& 1431655765 : Nat) : Int) = (y : Int) by rw [hy]; have : bm 85 4 = 1431655765 := rfl; rw [this] at h1 ⊢; omega]
  rw [show (2 : Int) = ((2 : Nat) : Int) from rfl, show (858993459 : Int) = ((858993459 : Nat) : Int) from rfl, zSu_n hyl (by decide), zA_n _ hyl, zA_n _ (Nat.lt_of_le_of_lt (by rw [Nat.shiftRight_eq_div_pow]; exact Nat.div_le_self _ _) hyl)]
  rw [show ((y &&& 858993459 : Nat) : Int) + (((y >>> 2) &&& 858993459 : Nat) : Int) = (z : Int) by rw [hz]; have : bm 51 4 = 858993459 := rfl; rw [this]; omega]
  rw [show (4 : Int) = ((4 : Nat) : Int) from rfl, zSu_n (show z < 2147483648 by omega) (by decide), show (z : Int) + ((z >>> 4 : Nat) : Int) = ((z + z >>> 4 : Nat) : Int) by omega, show (252645135 : Int) = ((252645135 : Nat) : Int) from rfl, zA_n _ (by omega)]
  rw [show ((z + z >>> 4) &&& 252645135 : Nat) = w from hw.symm]
  have hw8 : w >>> 8 = w / 256 := by rw [Nat.shiftRight_eq_div_pow]
  rw [show (8 : Int) = ((8 : Nat) : Int) from rfl, zSu_n (show w < 2147483648 by omega) (by decide), show (w : Int) + ((w >>> 8 : Nat) : Int) = ((w + w / 256 : Nat) : Int) by omega]
  have hw16 : (w + w / 256) >>> 16 = (w + w / 256) / 65536 := by rw [Nat.shiftRight_eq_div_pow]
  rw [show (16 : Int) = ((16 : Nat) : Int) from rfl, zSu_n (show w + w / 256 < 2147483648 by omega) (by decide), show ((w + w / 256 : Nat) : Int) + (((w + w / 256) >>> 16 : Nat) : Int) = ((w + w / 256 + (w + w / 256) / 65536 : Nat) : Int) by omega, show (63 : Int) = ((63 : Nat) : Int) from rfl, zA_n _ (by omega)]
  rw [show (63 : Nat) = 2 ^ 6 - 1 from rfl, Nat.and_two_pow_sub_one_eq_mod]
  rw [hct, bs4]
  rw [bmap4] at h5
  have p0 := (pb_all (m % 256) (Nat.mod_lt _ (by decide))).2.2.2.2.1
  have p1 := (pb_all (m / 256 % 256) (Nat.mod_lt _ (by decide))).2.2.2.2.1
  have p2 := (pb_all (m / 256 / 256 % 256) (Nat.mod_lt _ (by decide))).2.2.2.2.1
  have p3 := (pb_all (m / 256 / 256 / 256 % 256) (Nat.mod_lt _ (by decide))).2.2.2.2.1
  generalize pb (m % 256) = q0 at *
  generalize pb (m / 256 % 256) = q1 at *
  generalize pb (m / 256 / 256 % 256) = q2 at *
  generalize pb (m / 256 / 256 / 256 % 256) = q3 at *
  have e1 : w / 256 = q1 + 256 * q2 + 65536 * q3 := by omega
  have e2 : (w + w / 256) / 65536 = q2 + q3 + 256 * q3 := by omega
  congr 1
  omega
theorem bmap8 (f : Nat → Nat) (x : Nat) : bmap f 8 x = 256 * (256 * (256 * (256 * bmap f 4 (x / 256 / 256 / 256 / 256) + f (x / 256 / 256 / 256 % 256)) + f (x / 256 / 256 % 256)) + f (x / 256 % 256)) + f (x % 256) := rfl
theorem bs8 (x : Nat) : bs 8 x = bs 4 (x / 256 / 256 / 256 / 256) + pb (x / 256 / 256 / 256 % 256) + pb (x / 256 / 256 % 256) + pb (x / 256 % 256) + pb (x % 256) := rfl
theorem il_add (a b : Nat) : lN a + lN b = lN (a + b) := by
  apply wb_inj
  rw [Int64.toBitVec_add, wb_tb, wb_tb, wb_tb, BitVec.ofNat_add]
theorem il_sub {a b : Nat} (h : b ≤ a) : lN a - lN b = lN (a - b) := by
  have h1 := il_add (a - b) b
  rw [Nat.sub_add_cancel h] at h1
  rw [← h1, Int64.add_sub_cancel]
theorem lSu_n {a b : Nat} (ha : a < 2 ^ 64) (hb : b < 64) : lSu (lN a) (b : Int) = lN (a >>> b) := by
  unfold lSu
  rw [im_ofN, Nat.shiftRight_eq_div_pow]
  exact wb_shr ha hb
theorem lI_low (n : Nat) : zA (lI (lN n)) 127 = ((n % 128 : Nat) : Int) := by
  unfold zA lI
  rw [Int32.ofInt_toInt]
  have h1 : (lN n).toInt32 = Int32.ofNat n := by
    unfold lN
    exact Int64.toInt32_ofNat
  rw [h1, show Int32.ofInt 127 = Int32.ofNat 127 from by decide, im_and, show (127 : Nat) = 2 ^ 7 - 1 from rfl, Nat.and_two_pow_sub_one_eq_mod]
  exact Int32.toInt_ofNat_of_lt (by omega)
theorem pop_re (q0 q1 q2 q3 q4 q5 q6 q7 : Nat) : 256 * (256 * (256 * (256 * (256 * (256 * (256 * (256 * 0 + q7) + q6) + q5) + q4) + q3) + q2) + q1) + q0 = q0 + 256 * (q1 + 256 * (q2 + 256 * (q3 + 256 * (q4 + 256 * (q5 + 256 * (q6 + 256 * q7)))))) := by
  simp only [Nat.mul_zero, Nat.zero_add, Nat.add_zero, Nat.add_comm]
theorem pop_re2 (q0 q1 q2 q3 q4 q5 q6 q7 : Nat) : q0 + q1 + q2 + q3 + (q4 + q5 + q6 + q7) = 0 + q7 + q6 + q5 + q4 + q3 + q2 + q1 + q0 := by
  omega
theorem pop_d (a b : Nat) (h : a < 256) : (a + 256 * b) / 256 = b := by omega
theorem pop_d2 (a b : Nat) (h : a < 65536) : (a + 65536 * b) / 65536 = b := by omega
theorem pop_d4 (a b : Nat) (h : a < 4294967296) : (a + 4294967296 * b) / 4294967296 = b := by omega
theorem pop_s (a b c d : Nat) : a + 256 * b + (c + 256 * d) = (a + c) + 256 * (b + d) := by omega
theorem pop_m (a b : Nat) (h : a < 128) : (a + 256 * b) % 128 = a := by omega
theorem pop_sum {q0 q1 q2 q3 q4 q5 q6 q7 : Nat} (h0 : q0 ≤ 8) (h1 : q1 ≤ 8) (h2 : q2 ≤ 8) (h3 : q3 ≤ 8) (h4 : q4 ≤ 8) (h5 : q5 ≤ 8) (h6 : q6 ≤ 8) (h7 : q7 ≤ 8) : (q0 + 256 * (q1 + 256 * (q2 + 256 * (q3 + 256 * (q4 + 256 * (q5 + 256 * (q6 + 256 * q7)))))) + (q0 + 256 * (q1 + 256 * (q2 + 256 * (q3 + 256 * (q4 + 256 * (q5 + 256 * (q6 + 256 * q7))))))) / 256 + (q0 + 256 * (q1 + 256 * (q2 + 256 * (q3 + 256 * (q4 + 256 * (q5 + 256 * (q6 + 256 * q7)))))) + (q0 + 256 * (q1 + 256 * (q2 + 256 * (q3 + 256 * (q4 + 256 * (q5 + 256 * (q6 + 256 * q7))))))) / 256) / 65536 + (q0 + 256 * (q1 + 256 * (q2 + 256 * (q3 + 256 * (q4 + 256 * (q5 + 256 * (q6 + 256 * q7)))))) + (q0 + 256 * (q1 + 256 * (q2 + 256 * (q3 + 256 * (q4 + 256 * (q5 + 256 * (q6 + 256 * q7))))))) / 256 + (q0 + 256 * (q1 + 256 * (q2 + 256 * (q3 + 256 * (q4 + 256 * (q5 + 256 * (q6 + 256 * q7)))))) + (q0 + 256 * (q1 + 256 * (q2 + 256 * (q3 + 256 * (q4 + 256 * (q5 + 256 * (q6 + 256 * q7))))))) / 256) / 65536) / 4294967296) % 128 = q0 + q1 + q2 + q3 + (q4 + q5 + q6 + q7) := by
  rw [pop_d q0 _ (by omega), pop_s q0 _ q1 _]
  generalize hr : q2 + 256 * (q3 + 256 * (q4 + 256 * (q5 + 256 * (q6 + 256 * q7)))) = r
  have hA : q1 + 256 * r + r = (q1 + q2) + 256 * (q2 + q3 + 256 * (q3 + q4 + 256 * (q4 + q5 + 256 * (q5 + q6 + 256 * (q6 + q7 + 256 * q7))))) := by omega
  rw [hA]
  generalize hs : q2 + q3 + 256 * (q3 + q4 + 256 * (q4 + q5 + 256 * (q5 + q6 + 256 * (q6 + q7 + 256 * q7)))) = u
  have hB : q0 + q1 + 256 * (q1 + q2 + 256 * u) = (q0 + q1 + 256 * (q1 + q2)) + 65536 * u := by omega
  rw [hB, pop_d2 _ _ (by omega)]
  have hC : q0 + q1 + 256 * (q1 + q2) + 65536 * u + u = (q0 + q1 + q2 + q3 + 256 * (q1 + q2 + q3 + q4 + 256 * (q2 + q3 + q4 + q5 + 256 * (q3 + q4 + q5 + q6)))) + 4294967296 * (q4 + q5 + q6 + q7 + 256 * (q5 + q6 + q7 + 256 * (q6 + q7 + 256 * q7))) := by omega
  rw [hC, pop_d4 _ _ (by omega)]
  generalize hv : q1 + q2 + q3 + q4 + 256 * (q2 + q3 + q4 + q5 + 256 * (q3 + q4 + q5 + q6)) = v
  generalize hw : q5 + q6 + q7 + 256 * (q6 + q7 + 256 * q7) = w
  have hD : q0 + q1 + q2 + q3 + 256 * v + 4294967296 * (q4 + q5 + q6 + q7 + 256 * w) + (q4 + q5 + q6 + q7 + 256 * w) = (q0 + q1 + q2 + q3 + (q4 + q5 + q6 + q7)) + 256 * (v + 16777216 * (q4 + q5 + q6 + q7 + 256 * w) + w) := by omega
  rw [hD, pop_m _ _ (by omega)]
theorem je_bitCount_n (g : gm_T) {m : Nat} (hm : m < 2 ^ 64) : je_bitCount g (lN m) = some ((ct m.testBit 64 : Nat) : Int) := by
  obtain ⟨y, z, w, hy, h1, h2, hz, h3, hw, h4, h5⟩ := b_pop 8 m (by omega)
  have hct : ct m.testBit 64 = bs 8 m := (bs_ct 8 m).symm
  have hyl : y < 2 ^ 64 := by omega
  have hzl : z ≤ 7378697629483820646 := by
    have a1 : y &&& bm 51 8 ≤ 3689348814741910323 := Nat.and_le_right
    have a2 : (y >>> 2) &&& bm 51 8 ≤ 3689348814741910323 := Nat.and_le_right
    omega
  have hz4 : z >>> 4 = z / 16 := by rw [Nat.shiftRight_eq_div_pow]
  have hwl : w ≤ 1085102592571150095 := by rw [hw]; exact Nat.and_le_right
  have sh : ∀ {a : Nat} (k : Nat), a < 2 ^ 64 → a >>> k < 2 ^ 64 := fun k h => Nat.lt_of_le_of_lt (by rw [Nat.shiftRight_eq_div_pow]; exact Nat.div_le_self _ _) h
  unfold je_bitCount
  simp only [jl_eq]
  rw [show (1 : Int) = ((1 : Nat) : Int) from rfl, lSu_n hm (by decide), show (6148914691236517205 : Int64) = lN (bm 85 8) from by decide +kernel, wb_and (sh 1 hm) (by decide), il_sub h1, ← hy]
  rw [show (2 : Int) = ((2 : Nat) : Int) from rfl, show (3689348814741910323 : Int64) = lN (bm 51 8) from by decide +kernel, lSu_n hyl (by decide), wb_and hyl (by decide), wb_and (sh 2 hyl) (by decide), il_add, ← hz]
  rw [show (4 : Int) = ((4 : Nat) : Int) from rfl, lSu_n (show z < 2 ^ 64 by omega) (by decide), il_add, show (1085102592571150095 : Int64) = lN (bm 15 8) from by decide +kernel, wb_and (by omega) (by decide), ← hw]
  have hw8 : w >>> 8 = w / 256 := by rw [Nat.shiftRight_eq_div_pow]
  rw [show (8 : Int) = ((8 : Nat) : Int) from rfl, lSu_n (show w < 2 ^ 64 by omega) (by decide), il_add, hw8]
  have hw16 : (w + w / 256) >>> 16 = (w + w / 256) / 65536 := by rw [Nat.shiftRight_eq_div_pow]
  rw [show (16 : Int) = ((16 : Nat) : Int) from rfl, lSu_n (show w + w / 256 < 2 ^ 64 by omega) (by decide), il_add, hw16]
  have hw32 : (w + w / 256 + (w + w / 256) / 65536) >>> 32 = (w + w / 256 + (w + w / 256) / 65536) / 4294967296 := by rw [Nat.shiftRight_eq_div_pow]
  rw [show (32 : Int) = ((32 : Nat) : Int) from rfl, lSu_n (show w + w / 256 + (w + w / 256) / 65536 < 2 ^ 64 by omega) (by decide), il_add, hw32, lI_low]
  rw [hct, bs8, bs4]
  rw [bmap8, bmap4] at h5
  generalize m / 256 / 256 / 256 / 256 = mm at *
  have p0 := (pb_all (m % 256) (Nat.mod_lt _ (by decide))).2.2.2.2.1
  have p1 := (pb_all (m / 256 % 256) (Nat.mod_lt _ (by decide))).2.2.2.2.1
  have p2 := (pb_all (m / 256 / 256 % 256) (Nat.mod_lt _ (by decide))).2.2.2.2.1
  have p3 := (pb_all (m / 256 / 256 / 256 % 256) (Nat.mod_lt _ (by decide))).2.2.2.2.1
  have p4 := (pb_all (mm % 256) (Nat.mod_lt _ (by decide))).2.2.2.2.1
  have p5 := (pb_all (mm / 256 % 256) (Nat.mod_lt _ (by decide))).2.2.2.2.1
  have p6 := (pb_all (mm / 256 / 256 % 256) (Nat.mod_lt _ (by decide))).2.2.2.2.1
  have p7 := (pb_all (mm / 256 / 256 / 256 % 256) (Nat.mod_lt _ (by decide))).2.2.2.2.1
  generalize pb (m % 256) = q0 at *
  generalize pb (m / 256 % 256) = q1 at *
  generalize pb (m / 256 / 256 % 256) = q2 at *
  generalize pb (m / 256 / 256 / 256 % 256) = q3 at *
  generalize pb (mm % 256) = q4 at *
  generalize pb (mm / 256 % 256) = q5 at *
  generalize pb (mm / 256 / 256 % 256) = q6 at *
  generalize pb (mm / 256 / 256 / 256 % 256) = q7 at *
  rw [show w = q0 + 256 * (q1 + 256 * (q2 + 256 * (q3 + 256 * (q4 + 256 * (q5 + 256 * (q6 + 256 * q7)))))) from by rw [h5]; exact pop_re q0 q1 q2 q3 q4 q5 q6 q7, pop_sum p0 p1 p2 p3 p4 p5 p6 p7]
  congr 1
  exact congrArg Int.ofNat (pop_re2 q0 q1 q2 q3 q4 q5 q6 q7)
/-! the lowest bit -/
theorem low_bit {m : Nat} (h0 : m ≠ 0) : ∃ k, m.testBit k = true ∧ ∀ j, j < k → m.testBit j = false := by
  obtain ⟨i, hi⟩ := Nat.exists_testBit_of_ne_zero h0
  have : ∀ n, (∃ i, i < n ∧ m.testBit i = true) → ∃ k, m.testBit k = true ∧ ∀ j, j < k → m.testBit j = false := by
    intro n
    induction n with
    | zero => rintro ⟨i, h, -⟩; omega
    | succ n ih =>
      rintro ⟨i, h, hb⟩
      by_cases hq : ∃ i, i < n ∧ m.testBit i = true
      · exact ih hq
      · refine ⟨i, hb, fun j hj => ?_⟩
        cases hm : m.testBit j with
        | false => rfl
        | true => exact absurd ⟨j, by omega, hm⟩ hq
  exact this (i + 1) ⟨i, by omega, hi⟩
theorem ntz_mask {m k : Nat} (hm : m < 2147483648) (hk : m.testBit k = true) (hl : ∀ j, j < k → m.testBit j = false) : k < 31 ∧ zA (zX (m : Int) (-1)) ((m : Int) - 1) = ((2 ^ k - 1 : Nat) : Int) := by
  have hk31 : k < 31 := by
    rcases Nat.lt_or_ge k 31 with h | h
    · exact h
    · rw [Nat.testBit_lt_two_pow (Nat.lt_of_lt_of_le hm (Nat.pow_le_pow_right (n := 2) (by decide) h))] at hk
      cases hk
  refine ⟨hk31, ?_⟩
  have hpos : 0 < m := by
    rcases Nat.eq_zero_or_pos m with h | h
    · rw [h] at hk; simp at hk
    · exact h
  have hdec : m = 2 ^ k * (m / 2 ^ k) := by
    have h1 : m % 2 ^ k = 0 := by
      apply Nat.eq_of_testBit_eq
      intro i
      rw [Nat.testBit_mod_two_pow, Nat.zero_testBit]
      by_cases hi : i < k
      · rw [hl i hi, Bool.and_false]
      · simp [hi]
    have := Nat.div_add_mod m (2 ^ k)
    omega
  have hodd : (m / 2 ^ k) % 2 = 1 := by
    have := hk
    rw [Nat.testBit_eq_decide_div_mod_eq] at this
    exact of_decide_eq_true this
  have hm1 : m - 1 = 2 ^ k * (m / 2 ^ k - 1) + (2 ^ k - 1) := by
    have h2 : 0 < 2 ^ k := Nat.two_pow_pos k
    have h3 : 2 ^ k * (m / 2 ^ k - 1) = 2 ^ k * (m / 2 ^ k) - 2 ^ k := by rw [Nat.mul_sub_one]
    have h4 : 2 ^ k ≤ 2 ^ k * (m / 2 ^ k) := Nat.le_mul_of_pos_right _ (by clear hdec h3; generalize m / 2 ^ k = q at *; omega)
    omega
  rw [show (m : Int) - 1 = ((m - 1 : Nat) : Int) by omega, zA_comm, zA_not (by omega)]
  congr 1
  apply Nat.eq_of_testBit_eq
  intro i
  have h2 : 2 ^ k - 1 < 2 ^ k := Nat.sub_lt (Nat.two_pow_pos k) (by decide)
  rw [ndf_bit, hm1, Nat.testBit_two_pow_mul_add _ h2, Nat.testBit_two_pow_sub_one]
  by_cases hi : i < k
  · rw [if_pos hi, hl i hi]
    simp [hi]
  · rw [if_neg hi, decide_eq_false hi]
    have h3 : m.testBit i = (m / 2 ^ k).testBit (i - k) := by
      rw [Nat.testBit_div_two_pow]
      congr 1
      omega
    rw [h3]
    rcases Nat.eq_zero_or_pos (i - k) with h0 | h0
    · rw [h0, Nat.testBit_zero, Nat.testBit_zero, hodd]
      simp
    · obtain ⟨j, hj⟩ : ∃ j, i - k = j + 1 := ⟨i - k - 1, by omega⟩
      rw [hj, Nat.testBit_succ, Nat.testBit_succ, show (m / 2 ^ k - 1) / 2 = m / 2 ^ k / 2 by clear hdec hm1 h3; generalize m / 2 ^ k = q at *; omega]
      cases (m / 2 ^ k / 2).testBit j <;> rfl
def ntzf (x : Int) : Int :=
  if x ≤ 0 then zA x 32 else
  let p1 := if x ≤ 65536 then (x, 1) else (zSu x 16, 1 + 16)
  let p2 := if p1.1 ≤ 256 then p1 else (zSu p1.1 8, p1.2 + 8)
  let p3 := if p2.1 ≤ 16 then p2 else (zSu p2.1 4, p2.2 + 4)
  if p3.1 ≤ 4 then p3.2 + zSu p3.1 1 else (p3.2 + 2) + zSu (zSu p3.1 2) 1
theorem ntzf_all : ∀ k : Nat, k < 31 → ntzf ((2 ^ k - 1 : Nat) : Int) = (k : Int) := by decide +kernel
theorem jd_ntz_n (g : gm_T) {m k : Nat} (hm : m < 2147483648) (hk : m.testBit k = true) (hl : ∀ j, j < k → m.testBit j = false) : jd_numberOfTrailingZeros g (m : Int) = some (k : Int) := by
  obtain ⟨h31, hz⟩ := ntz_mask hm hk hl
  rw [← ntzf_all k h31, ← hz]
  have hr : rg (zA (zX (m : Int) (-1)) ((m : Int) - 1)) := rg_toInt _
  unfold jd_numberOfTrailingZeros ntzf
  simp only [jl_eq]
  generalize zA (zX (m : Int) (-1)) ((m : Int) - 1) = x at hr
  rw [jg_pos hr]
  have r2 : ∀ a b, rg (zSu a b) := fun a b => rg_toInt _
  split
  · rfl
  · by_cases h1 : x ≤ 65536
    · simp only [h1, if_true, jb2_some]
      by_cases h2 : x ≤ 256
      · simp only [h2, if_true, jg_pos hr, jb2_some]
        by_cases h3 : x ≤ 16
        · simp only [h3, if_true, jg_pos hr, jb2_some]
          split <;> rfl
        · simp only [h3, if_false, jg_pos hr, jg_pos (r2 _ _), jb2_some]
          split <;> rfl
      · simp only [h2, if_false, jg_pos hr, jb2_some, jg_pos (r2 _ _)]
        by_cases h3 : zSu x 8 ≤ 16
        · simp only [h3, if_true, jg_pos (r2 _ _), jb2_some]
          split <;> rfl
        · simp only [h3, if_false, jg_pos (r2 _ _), jb2_some]
          split <;> rfl
    · simp only [h1, if_false, jb2_some, jg_pos (r2 _ _)]
      by_cases h2 : zSu x 16 ≤ 256
      · simp only [h2, if_true, jg_pos (r2 _ _), jb2_some]
        by_cases h3 : zSu x 16 ≤ 16
        · simp only [h3, if_true, jg_pos (r2 _ _), jb2_some]
          split <;> rfl
        · simp only [h3, if_false, jg_pos (r2 _ _), jb2_some]
          split <;> rfl
      · simp only [h2, if_false, jg_pos (r2 _ _), jb2_some]
        by_cases h3 : zSu (zSu x 16) 8 ≤ 16
        · simp only [h3, if_true, jg_pos (r2 _ _), jb2_some]
          split <;> rfl
        · simp only [h3, if_false, jg_pos (r2 _ _), jb2_some]
          split <;> rfl
