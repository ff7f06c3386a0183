/-! How many bits: Integer.bitCount, Long.bitCount. -/
def ct (p : Nat → Bool) : Nat → Nat
  | 0 => 0
  | n + 1 => ct p n + (if p n then 1 else 0)
theorem ct_succ (p : Nat → Bool) (n : Nat) : ct p (n + 1) = ct p n + (if p n then 1 else 0) := rfl
theorem ct_cong {p q : Nat → Bool} : ∀ {n : Nat}, (∀ i, i < n → p i = q i) → ct p n = ct q n
  | 0, _ => rfl
  | n + 1, h => by rw [ct_succ, ct_succ, ct_cong (fun i hi => h i (by omega)), h n (by omega)]
theorem ct_le (p : Nat → Bool) : ∀ n, ct p n ≤ n
  | 0 => Nat.le_refl _
  | n + 1 => by
    have := ct_le p n
    rw [ct_succ]
    split <;> omega
theorem ct_split (p : Nat → Bool) (m : Nat) : ∀ n, ct p (m + n) = ct p m + ct (fun i => p (m + i)) n
  | 0 => rfl
  | n + 1 => by rw [← Nat.add_assoc, ct_succ, ct_succ, ct_split p m n]; omega
theorem ct_none {p : Nat → Bool} : ∀ {n : Nat}, (∀ i, i < n → p i = false) → ct p n = 0
  | 0, _ => rfl
  | n + 1, h => by rw [ct_succ, ct_none (fun i hi => h i (by omega)), h n (by omega)]; rfl
theorem ct_more {p : Nat → Bool} {m : Nat} (h : ∀ i, m ≤ i → p i = false) : ∀ n, m ≤ n → ct p n = ct p m := by
  intro n hn
  obtain ⟨k, rfl⟩ : ∃ k, n = m + k := ⟨n - m, by omega⟩
  rw [ct_split, ct_none (p := fun i => p (m + i)) (fun i hi => h _ (by omega))]
  rfl
def bm (M : Nat) : Nat → Nat
  | 0 => 0
  | n + 1 => 256 * bm M n + M
def bmap (f : Nat → Nat) : Nat → Nat → Nat
  | 0, _ => 0
  | n + 1, x => 256 * bmap f n (x / 256) + f (x % 256)
theorem b_shand (k M m y b : Nat) (hk : k ≤ 8) (hM : M < 2 ^ (8 - k)) (hb : b < 256) : ((256 * y + b) >>> k) &&& (256 * m + M) = 256 * ((y >>> k) &&& m) + ((b >>> k) &&& M) := by
  have hM8 : M < 2 ^ 8 := Nat.lt_of_lt_of_le hM (Nat.pow_le_pow_right (by decide) (by omega))
  have hbM : (b >>> k) &&& M < 2 ^ 8 := Nat.lt_of_le_of_lt Nat.and_le_right hM8
  apply Nat.eq_of_testBit_eq
  intro i
  rw [Nat.testBit_and, Nat.testBit_shiftRight, show 256 = 2 ^ 8 from rfl, Nat.testBit_two_pow_mul_add _ (show b < 2 ^ 8 from hb), Nat.testBit_two_pow_mul_add _ hM8, Nat.testBit_two_pow_mul_add _ hbM]
  by_cases hi : i < 8
  · rw [if_pos hi, if_pos hi, Nat.testBit_and, Nat.testBit_shiftRight]
    by_cases h2 : k + i < 8
    · rw [if_pos h2]
    · rw [if_neg h2]
      have h3 : M.testBit i = false := Nat.testBit_lt_two_pow (Nat.lt_of_lt_of_le hM (Nat.pow_le_pow_right (by decide) (by omega)))
      rw [h3, Bool.and_false, Bool.and_false]
  · rw [if_neg hi, if_neg hi, if_neg (by omega), Nat.testBit_and, Nat.testBit_shiftRight, show k + i - 8 = k + (i - 8) by omega]
theorem b_sm (k M : Nat) (hk : k ≤ 8) (hM : M < 2 ^ (8 - k)) : ∀ (n x : Nat), (x >>> k) &&& bm M n = bmap (fun b => (b >>> k) &&& M) n x
  | 0, x => by unfold bm bmap; exact Nat.and_zero _
  | n + 1, x => by
    have h := b_shand k M (bm M n) (x / 256) (x % 256) hk hM (Nat.mod_lt _ (by decide))
    rw [show 256 * (x / 256) + x % 256 = x by omega, b_sm k M hk hM n] at h
    exact h
theorem b_add (f g : Nat → Nat) : ∀ n x, bmap f n x + bmap g n x = bmap (fun b => f b + g b) n x
  | 0, _ => rfl
  | n + 1, x => by
    have := b_add f g n (x / 256)
    unfold bmap
    omega
theorem b_id : ∀ n x, x < 256 ^ n → bmap (fun b => b) n x = x
  | 0, x, h => by
    have : x = 0 := by simpa using h
    rw [this]; rfl
  | n + 1, x, h => by
    unfold bmap
    rw [b_id n (x / 256) (by rw [Nat.pow_succ] at h; omega)]
    omega
theorem b_sub (f g : Nat → Nat) (hg : ∀ b, b < 256 → g b ≤ f b) : ∀ n x, bmap f n x - bmap g n x = bmap (fun b => f b - g b) n x ∧ bmap g n x ≤ bmap f n x
  | 0, _ => ⟨rfl, Nat.le_refl _⟩
  | n + 1, x => by
    have h1 := b_sub f g hg n (x / 256)
    have h2 := hg (x % 256) (Nat.mod_lt _ (by decide))
    unfold bmap
    omega
theorem b_lt (f : Nat → Nat) (hf : ∀ b, b < 256 → f b < 256) : ∀ n x, bmap f n x < 256 ^ n
  | 0, _ => by unfold bmap; decide
  | n + 1, x => by
    have h1 := b_lt f hf n (x / 256)
    have h2 := hf (x % 256) (Nat.mod_lt _ (by decide))
    unfold bmap
    rw [Nat.pow_succ]
    omega
theorem b_comp (f g : Nat → Nat) (hg : ∀ b, b < 256 → g b < 256) : ∀ n x, bmap f n (bmap g n x) = bmap (fun b => f (g b)) n x
  | 0, _ => rfl
  | n + 1, x => by
    have h2 := hg (x % 256) (Nat.mod_lt _ (by decide))
    show 256 * bmap f n ((256 * bmap g n (x / 256) + g (x % 256)) / 256) + f ((256 * bmap g n (x / 256) + g (x % 256)) % 256) = 256 * bmap (fun b => f (g b)) n (x / 256) + f (g (x % 256))
    rw [show (256 * bmap g n (x / 256) + g (x % 256)) / 256 = bmap g n (x / 256) by omega, show (256 * bmap g n (x / 256) + g (x % 256)) % 256 = g (x % 256) by omega, b_comp f g hg n]
theorem b_cong {f g : Nat → Nat} (h : ∀ b, b < 256 → f b = g b) : ∀ n x, bmap f n x = bmap g n x
  | 0, _ => rfl
  | n + 1, x => by
    unfold bmap
    rw [b_cong h n, h _ (Nat.mod_lt _ (by decide))]
/-- the bits of one byte -/
def pb (b : Nat) : Nat := ct b.testBit 8
def s1b (b : Nat) : Nat := b - ((b >>> 1) &&& 85)
def s2b (b : Nat) : Nat := (b &&& 51) + ((b >>> 2) &&& 51)
def s3b (b : Nat) : Nat := (b &&& 15) + (b >>> 4)
theorem pb_all : ∀ b, b < 256 → (b >>> 1) &&& 85 ≤ b ∧ s1b b < 256 ∧ s2b (s1b b) < 256 ∧ (s2b (s1b b) + (s2b (s1b b) >>> 4)) &&& 15 = pb b ∧ pb b ≤ 8 ∧ s2b (s1b b) % 16 ≤ 4 ∧ s2b (s1b b) / 16 ≤ 4 := by decide +kernel
/-- the sum of the bytes -/
def bs : Nat → Nat → Nat
  | 0, _ => 0
  | n + 1, x => bs n (x / 256) + pb (x % 256)
theorem bs_ct : ∀ n x, bs n x = ct x.testBit (8 * n)
  | 0, _ => rfl
  | n + 1, x => by
    unfold bs
    rw [bs_ct n, show 8 * (n + 1) = 8 + 8 * n by omega, ct_split]
    have h1 : pb (x % 256) = ct x.testBit 8 := ct_cong fun i hi => by
      rw [show 256 = 2 ^ 8 from rfl, Nat.testBit_mod_two_pow]
      simp [hi]
    have h2 : ct (x / 256).testBit (8 * n) = ct (fun i => x.testBit (8 + i)) (8 * n) := ct_cong fun i _ => by
      rw [show 256 = 2 ^ 8 from rfl, Nat.testBit_div_two_pow, Nat.add_comm]
    omega
/-- bytes of four bits each that hold at most 4: shifted and added, the upper halves fall away -/
theorem b_low (h : Nat → Nat) (h1 : ∀ b, b < 256 → h b < 256 ∧ h b % 16 ≤ 4 ∧ h b / 16 ≤ 4) (n x : Nat) : bmap h n x % 16 ≤ 4 := by
  cases n with
  | zero => unfold bmap; decide
  | succ n =>
    obtain ⟨a1, a2, a3⟩ := h1 (x % 256) (Nat.mod_lt _ (by decide))
    unfold bmap
    omega
theorem b_half (h : Nat → Nat) (h1 : ∀ b, b < 256 → h b < 256 ∧ h b % 16 ≤ 4 ∧ h b / 16 ≤ 4) (n x : Nat) : (bmap h n x + (bmap h n x >>> 4)) &&& bm 15 n = bmap (fun b => (h b + (h b >>> 4)) &&& 15) n x := by
  induction n generalizing x with
  | zero => unfold bm bmap; exact Nat.and_zero _
  | succ n ih =>
    obtain ⟨a1, a2, a3⟩ := h1 (x % 256) (Nat.mod_lt _ (by decide))
    unfold bm bmap
    rw [← ih (x / 256)]
    have hy := b_low h h1 n (x / 256)
    generalize bmap h n (x / 256) = y at *
    generalize h (x % 256) = b at *
    have e1 : (256 * y + b) >>> 4 = 16 * y + b / 16 := by
      rw [Nat.shiftRight_eq_div_pow]
      omega
    have e2 : b >>> 4 = b / 16 := by rw [Nat.shiftRight_eq_div_pow]
    have e3 : y >>> 4 = y / 16 := by rw [Nat.shiftRight_eq_div_pow]
    have e4 : 256 * y + b + (16 * y + b / 16) = 256 * (y + y / 16) + (16 * (y % 16) + b + b / 16) := by omega
    rw [e1, e2, e3, e4]
    have hlow : ∀ z q, (16 * z + q) &&& 15 = q &&& 15 := by
      intro z q
      have := Nat.and_two_pow_sub_one_eq_mod (16 * z + q) 4
      have h2 := Nat.and_two_pow_sub_one_eq_mod q 4
      simp at this h2
      omega
    have hc : 16 * (y % 16) + b + b / 16 < 256 := by omega
    have k := b_shand 0 15 (bm 15 n) (y + y / 16) (16 * (y % 16) + b + b / 16) (by decide) (by decide) hc
    simp only [Nat.shiftRight_zero] at k
    rw [k, Nat.add_assoc, hlow]
/-- the whole count, on numbers -/
theorem b_pop (n x : Nat) (hx : x < 256 ^ n) : ∃ y z w, y = x - ((x >>> 1) &&& bm 85 n) ∧ (x >>> 1) &&& bm 85 n ≤ x ∧ y < 256 ^ n ∧ z = (y &&& bm 51 n) + ((y >>> 2) &&& bm 51 n) ∧ z < 256 ^ n ∧ w = (z + (z >>> 4)) &&& bm 15 n ∧ z + (z >>> 4) < 256 ^ n * 2 ∧ w = bmap pb n x := by
  have h1 := b_sm 1 85 (by decide) (by decide) n x
  have hs := b_sub (fun b => b) (fun b => (b >>> 1) &&& 85) (fun b hb => (pb_all b hb).1) n x
  rw [b_id n x hx, ← h1] at hs
  have hy : x - ((x >>> 1) &&& bm 85 n) = bmap s1b n x := hs.1
  have hyl : bmap s1b n x < 256 ^ n := b_lt s1b (fun b hb => (pb_all b hb).2.1) n x
  have h2 := b_sm 2 51 (by decide) (by decide) n (bmap s1b n x)
  have h3 := b_sm 0 51 (by decide) (by decide) n (bmap s1b n x)
  simp only [Nat.shiftRight_zero] at h3
  have hz : (bmap s1b n x &&& bm 51 n) + ((bmap s1b n x >>> 2) &&& bm 51 n) = bmap (fun b => s2b (s1b b)) n x := by
    rw [h2, h3, b_add]
    exact b_comp s2b s1b (fun b hb => (pb_all b hb).2.1) n x
  have hzl : bmap (fun b => s2b (s1b b)) n x < 256 ^ n := b_lt _ (fun b hb => (pb_all b hb).2.2.1) n x
  have hw := b_half (fun b => s2b (s1b b)) (fun b hb => ⟨(pb_all b hb).2.2.1, (pb_all b hb).2.2.2.2.2.1, (pb_all b hb).2.2.2.2.2.2⟩) n x
  refine ⟨_, _, _, rfl, hs.2, by rw [hy]; exact hyl, rfl, by rw [hy, hz]; exact hzl, rfl, ?_, ?_⟩
  · rw [hy, hz, Nat.shiftRight_eq_div_pow]
    omega
  · rw [hy, hz, hw]
    exact b_cong (fun b hb => (pb_all b hb).2.2.2.1) n x
