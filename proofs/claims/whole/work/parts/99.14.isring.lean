/-! The ring: the class as a whole. -/
def anq (P : Nat → Bool) : Nat → Nat → Bool
  | _, 0 => false
  | v, d + 1 => P v || anq P (v + 1) d
theorem anq_iff {P : Nat → Bool} : ∀ d v, anq P v d = true ↔ ∃ k, (v ≤ k ∧ k < v + d) ∧ P k = true := by
  intro d
  induction d with
  | zero =>
    intro v
    exact ⟨fun h => (by cases h), fun ⟨k, h, _⟩ => by omega⟩
  | succ d ih =>
    intro v
    show (P v || anq P (v + 1) d) = true ↔ _
    rw [Bool.or_eq_true, ih]
    constructor
    · rintro (h | ⟨k, h1, h2⟩)
      · exact ⟨v, ⟨Nat.le_refl _, by omega⟩, h⟩
      · exact ⟨k, ⟨by omega, by omega⟩, h2⟩
    · rintro ⟨k, h1, h2⟩
      by_cases e : k = v
      · exact Or.inl (e ▸ h2)
      · exact Or.inr ⟨k, ⟨by omega, by omega⟩, h2⟩
def i01 (b : Bool) : Unit ⊕ Int := if b = true then .inr 0 else .inl ()
def rze (c : Nat) (X Y : Nat → Int) (k : Nat) : Bool := decide (X k = X (rnx c k) ∧ Y k = Y (rnx c k))
def rmt (c : Nat) (X Y : Nat → Int) (k : Nat) : Bool := anq (rmw c X Y k) (k + 1) (c - (k + 1))
def rar (c : Nat) (X Y : Nat → Int) : Nat → Int
  | 0 => 0
  | k + 1 => rar c X Y k + (X k * Y (rnx c k) - X (rnx c k) * Y k)
/-- is it a ring, as the class asks -/
def rng (c : Nat) (X Y : Nat → Int) : Bool := !(anq (rze c X Y) 0 c) && !(anq (rmt c X Y) 0 c) && decide (0 < rar c X Y c)
theorem ck_ring_l2 {g : gm_T} {c : Nat} {X Y : Nat → Int} (hG : rG c X Y) (h : isC g c X Y) : ∀ d v fuel, d < fuel → v + d = c → ck_isRing_l2 g fuel (v : Int) = some (i01 (anq (rze c X Y) v d)) := by
  have c8 := hG.1.2
  intro d
  induction d with
  | zero =>
    intro v fuel hf hv
    obtain ⟨fuel, rfl⟩ : ∃ z, fuel = z + 1 := ⟨fuel - 1, by omega⟩
    unfold ck_isRing_l2
    rw [h.1, jg_pos ⟨rgn (by omega), rgn (by omega)⟩, if_neg (by omega)]
    rfl
  | succ d ih =>
    intro v fuel hf hv
    obtain ⟨fuel, rfl⟩ : ∃ z, fuel = z + 1 := ⟨fuel - 1, by omega⟩
    have hk : v < c := by omega
    have hn : rnx c v < c := rnx_lt (by omega)
    have nxt : ck_isRing_l2 g fuel ((v : Int) + 1) = some (i01 (anq (rze c X Y) (v + 1) d)) := ih (v + 1) fuel (by omega) (by omega)
    have bk := hG.2 v hk
    have bn := hG.2 _ hn
    unfold ck_isRing_l2
    rw [h.1, jg_pos ⟨rgn (by omega), rgn (by omega)⟩, if_pos (by omega), ckn_eq hG h hk, jb1_some, jg_pos (by omega), jg_pos (by omega), Int.toNat_natCast, Int.toNat_natCast, (h.2 v hk).1, (h.2 _ hn).1, jg_pos ⟨rg20 bk.1, rg20 bn.1⟩, (h.2 v hk).2, (h.2 _ hn).2, jg_pos ⟨rg20 bk.2, rg20 bn.2⟩, nxt]
    show _ = some (i01 (rze c X Y v || anq (rze c X Y) (v + 1) d))
    by_cases e1 : X v = X (rnx c v)
    · rw [if_pos e1]
      by_cases e2 : Y v = Y (rnx c v)
      · rw [if_pos e2, show rze c X Y v = true from decide_eq_true ⟨e1, e2⟩]
        rfl
      · rw [if_neg e2, show rze c X Y v = false from decide_eq_false (fun q => e2 q.2), Bool.false_or]
    · rw [if_neg e1, show rze c X Y v = false from decide_eq_false (fun q => e1 q.1), Bool.false_or]
theorem ck_ring_l68 {g : gm_T} {c : Nat} {X Y : Nat → Int} (hG : rG c X Y) (h : isC g c X Y) {k : Nat} (hk : k < c) : ∀ d v fuel, d < fuel → v + d = c → ck_isRing_l68 g (k : Int) fuel (v : Int) = some (i01 (anq (rmw c X Y k) v d)) := by
  have c8 := hG.1.2
  intro d
  induction d with
  | zero =>
    intro v fuel hf hv
    obtain ⟨fuel, rfl⟩ : ∃ z, fuel = z + 1 := ⟨fuel - 1, by omega⟩
    unfold ck_isRing_l68
    rw [h.1, jg_pos ⟨rgn (by omega), rgn (by omega)⟩, if_neg (by omega)]
    rfl
  | succ d ih =>
    intro v fuel hf hv
    obtain ⟨fuel, rfl⟩ : ∃ z, fuel = z + 1 := ⟨fuel - 1, by omega⟩
    have hm : v < c := by omega
    have nxt : ck_isRing_l68 g (k : Int) fuel ((v : Int) + 1) = some (i01 (anq (rmw c X Y k) (v + 1) d)) := ih (v + 1) fuel (by omega) (by omega)
    unfold ck_isRing_l68
    rw [h.1, jg_pos ⟨rgn (by omega), rgn (by omega)⟩, if_pos (by omega), ck_meetWrongly_eq hG h hk hm, jb_tst, nxt]
    show _ = some (i01 (rmw c X Y k v || anq (rmw c X Y k) (v + 1) d))
    cases rmw c X Y k v with
    | true => rw [if_pos rfl]; rfl
    | false => rw [if_neg (by decide), Bool.false_or]
theorem ck_ring_l56 {g : gm_T} {c : Nat} {X Y : Nat → Int} (hG : rG c X Y) (h : isC g c X Y) : ∀ d v fuel, d < fuel → v + d = c → ck_isRing_l56 g fuel (v : Int) = some (i01 (anq (rmt c X Y) v d)) := by
  have c8 := hG.1.2
  intro d
  induction d with
  | zero =>
    intro v fuel hf hv
    obtain ⟨fuel, rfl⟩ : ∃ z, fuel = z + 1 := ⟨fuel - 1, by omega⟩
    unfold ck_isRing_l56
    rw [h.1, jg_pos ⟨rgn (by omega), rgn (by omega)⟩, if_neg (by omega)]
    rfl
  | succ d ih =>
    intro v fuel hf hv
    obtain ⟨fuel, rfl⟩ : ∃ z, fuel = z + 1 := ⟨fuel - 1, by omega⟩
    have hk : v < c := by omega
    have nxt : ck_isRing_l56 g fuel ((v : Int) + 1) = some (i01 (anq (rmt c X Y) (v + 1) d)) := ih (v + 1) fuel (by omega) (by omega)
    have inn : ck_isRing_l68 g (v : Int) fz ((v : Int) + 1) = some (i01 (rmt c X Y v)) := ck_ring_l68 hG h hk (c - (v + 1)) (v + 1) fz (Nat.lt_of_le_of_lt (show c - (v + 1) ≤ 8 by omega) (fz_gt rfl)) (by omega)
    unfold ck_isRing_l56
    rw [h.1, jg_pos ⟨rgn (by omega), rgn (by omega)⟩, if_pos (by omega), jl_eq, inn]
    show _ = some (i01 (rmt c X Y v || anq (rmt c X Y) (v + 1) d))
    cases rmt c X Y v with
    | true => rfl
    | false => rw [Bool.false_or, ← nxt]; rfl
theorem ck_area_lp {g : gm_T} {c : Nat} {X Y : Nat → Int} (hG : rG c X Y) (h : isC g c X Y) : ∀ d v fuel, d < fuel → v + d = c → ck_twiceArea_l4 g fuel (rar c X Y v) (v : Int) = some (rar c X Y c) := by
  have c8 := hG.1.2
  intro d
  induction d with
  | zero =>
    intro v fuel hf hv
    obtain ⟨fuel, rfl⟩ : ∃ z, fuel = z + 1 := ⟨fuel - 1, by omega⟩
    have e : v = c := by omega
    subst e
    unfold ck_twiceArea_l4
    rw [h.1, jg_pos ⟨rgn (by omega), rgn (by omega)⟩, if_neg (by omega)]
  | succ d ih =>
    intro v fuel hf hv
    obtain ⟨fuel, rfl⟩ : ∃ z, fuel = z + 1 := ⟨fuel - 1, by omega⟩
    have hk : v < c := by omega
    have hn : rnx c v < c := rnx_lt (by omega)
    unfold ck_twiceArea_l4
    rw [h.1, jg_pos ⟨rgn (by omega), rgn (by omega)⟩, if_pos (by omega), ckn_eq hG h hk, jb1_some, jg_pos (by omega), jg_pos (by omega), jl_eq, Int.toNat_natCast, Int.toNat_natCast, (h.2 v hk).1, (h.2 _ hn).1, (h.2 v hk).2, (h.2 _ hn).2]
    exact ih (v + 1) fuel (by omega) (by omega)
theorem ck_twiceArea_eq {g : gm_T} {c : Nat} {X Y : Nat → Int} (hG : rG c X Y) (h : isC g c X Y) : ck_twiceArea g = some (rar c X Y c) := by
  unfold ck_twiceArea
  rw [show ck_twiceArea_l4 g fz 0 0 = some (rar c X Y c) from ck_area_lp hG h c 0 fz (Nat.lt_of_le_of_lt hG.1.2 (fz_gt rfl)) (Nat.zero_add c)]
  rfl
theorem rar_b {c : Nat} {X Y : Nat → Int} (hG : rG c X Y) : ∀ k, k ≤ c → -(3200 * (k : Int)) ≤ rar c X Y k ∧ rar c X Y k ≤ 3200 * (k : Int) := by
  intro k
  induction k with
  | zero => intro _; show -(3200 * ((0 : Nat) : Int)) ≤ (0 : Int) ∧ (0 : Int) ≤ 3200 * ((0 : Nat) : Int); omega
  | succ k ih =>
    intro hk
    have w := ih (by omega)
    have bk := hG.2 k (by omega)
    have bn := hG.2 _ (rnx_lt (c := c) (k := k) (by omega))
    have p1 := pb40 (a := X k) (b := Y (rnx c k)) (by omega) (by omega)
    have p2 := pb40 (a := X (rnx c k)) (b := Y k) (by omega) (by omega)
    show -(3200 * ((k + 1 : Nat) : Int)) ≤ rar c X Y k + (X k * Y (rnx c k) - X (rnx c k) * Y k) ∧ rar c X Y k + (X k * Y (rnx c k) - X (rnx c k) * Y k) ≤ 3200 * ((k + 1 : Nat) : Int)
    omega
theorem ck_isRing_eq {g : gm_T} {c : Nat} {X Y : Nat → Int} (hG : rG c X Y) (h : isC g c X Y) : ck_isRing g = some (if rng c X Y = true then 1 else 0) := by
  have c8 := hG.1.2
  have hb := rar_b hG c (Nat.le_refl c)
  unfold ck_isRing rng
  rw [show ck_isRing_l2 g fz 0 = some (i01 (anq (rze c X Y) 0 c)) from ck_ring_l2 hG h c 0 fz (Nat.lt_of_le_of_lt c8 (fz_gt rfl)) (Nat.zero_add c), show ck_isRing_l56 g fz 0 = some (i01 (anq (rmt c X Y) 0 c)) from ck_ring_l56 hG h c 0 fz (Nat.lt_of_le_of_lt c8 (fz_gt rfl)) (Nat.zero_add c), ck_twiceArea_eq hG h]
  cases anq (rze c X Y) 0 c with
  | true => rfl
  | false =>
    cases anq (rmt c X Y) 0 c with
    | true => rfl
    | false =>
      show jg (rg (rar c X Y c)) (if rar c X Y c ≤ 0 then some 0 else some 1) = some (if (true && true && decide (0 < rar c X Y c)) = true then 1 else 0)
      rw [jg_pos ⟨by omega, by omega⟩, Bool.true_and, Bool.true_and]
      by_cases e : rar c X Y c ≤ 0
      · rw [if_pos e, if_neg (by rw [decide_eq_true_eq]; omega)]
      · rw [if_neg e, if_pos (decide_eq_true (by omega))]
