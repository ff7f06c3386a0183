/-! Spots: each in a cell of its own, both sides. -/
def sG (s : Nat) (U V : Nat → Int) : Prop := s ≤ 5 ∧ ∀ k, k < s → (-20 ≤ U k ∧ U k ≤ 20) ∧ -20 ≤ V k ∧ V k ≤ 20
def isCs (g : gm_T) (s : Nat) (U V : Nat → Int) : Prop := gm_I g 3 7 = (s : Int) ∧ ∀ k, k < s → gm_I g 7 k = U k ∧ gm_I g 8 k = V k
def isRs (g : gm_T) (n s : Nat) (U V : Nat → Int) : Prop := gm_I g 50 n = (s : Int) ∧ ∀ k, k < s → gm_I g 51 (5 * n + k) = U k ∧ gm_I g 52 (5 * n + k) = V k
def rsm (U V : Nat → Int) (k m : Nat) : Bool := decide (U m = U k ∧ V m = V k)
def gsq (c : Nat) (X Y U V : Nat → Int) (k : Nat) : Bool := !(winr c X Y (U k) (V k)) || anq (rsm U V k) 0 k
theorem ck_spots_l33 {g : gm_T} {s : Nat} {U V : Nat → Int} (hS : sG s U V) (h : isCs g s U V) {k : Nat} (hk : k < s) : ∀ d v fuel, d < fuel → v + d = k → ck_hasGoodSpots_l33 g (k : Int) fuel (v : Int) = some (i01 (anq (rsm U V k) v d)) := by
  have s5 := hS.1
  intro d
  induction d with
  | zero =>
    intro v fuel hf hv
    obtain ⟨fuel, rfl⟩ : ∃ z, fuel = z + 1 := ⟨fuel - 1, by omega⟩
    unfold ck_hasGoodSpots_l33
    rw [jg_pos ⟨rgn (by omega), rgn (by omega)⟩, if_neg (by omega)]
    rfl
  | succ d ih =>
    intro v fuel hf hv
    obtain ⟨fuel, rfl⟩ : ∃ z, fuel = z + 1 := ⟨fuel - 1, by omega⟩
    have hm : v < s := by omega
    have nxt : ck_hasGoodSpots_l33 g (k : Int) fuel ((v : Int) + 1) = some (i01 (anq (rsm U V k) (v + 1) d)) := ih (v + 1) fuel (by omega) (by omega)
    have bk := hS.2 k hk
    have bm := hS.2 v hm
    unfold ck_hasGoodSpots_l33
    rw [jg_pos ⟨rgn (by omega), rgn (by omega)⟩, if_pos (by omega), jg_pos (by omega), jg_pos (by omega), Int.toNat_natCast, Int.toNat_natCast, (h.2 v hm).1, (h.2 k hk).1, jg_pos ⟨rg20 bm.1, rg20 bk.1⟩, (h.2 v hm).2, (h.2 k hk).2, jg_pos ⟨rg20 bm.2, rg20 bk.2⟩, nxt]
    show _ = some (i01 (rsm U V k v || anq (rsm U V k) (v + 1) d))
    by_cases e1 : U v = U k
    · rw [if_pos e1]
      by_cases e2 : V v = V k
      · rw [if_pos e2, show rsm U V k v = true from decide_eq_true ⟨e1, e2⟩]
        rfl
      · rw [if_neg e2, show rsm U V k v = false from decide_eq_false (fun q => e2 q.2), Bool.false_or]
    · rw [if_neg e1, show rsm U V k v = false from decide_eq_false (fun q => e1 q.1), Bool.false_or]
theorem ck_spots_l2 {g : gm_T} {c s : Nat} {X Y U V : Nat → Int} (hG : rG c X Y) (hC : isC g c X Y) (hS : sG s U V) (h : isCs g s U V) : ∀ d v fuel, d < fuel → v + d = s → ck_hasGoodSpots_l2 g fuel (v : Int) = some (if anq (gsq c X Y U V) v d = true then 0 else 1) := by
  have s5 := hS.1
  intro d
  induction d with
  | zero =>
    intro v fuel hf hv
    obtain ⟨fuel, rfl⟩ : ∃ z, fuel = z + 1 := ⟨fuel - 1, by omega⟩
    unfold ck_hasGoodSpots_l2
    rw [h.1, jg_pos ⟨rgn (by omega), rgn (by omega)⟩, if_neg (by omega)]
    rfl
  | succ d ih =>
    intro v fuel hf hv
    obtain ⟨fuel, rfl⟩ : ∃ z, fuel = z + 1 := ⟨fuel - 1, by omega⟩
    have hk : v < s := by omega
    have nxt : ck_hasGoodSpots_l2 g fuel ((v : Int) + 1) = some (if anq (gsq c X Y U V) (v + 1) d = true then 0 else 1) := ih (v + 1) fuel (by omega) (by omega)
    have bk := hS.2 v hk
    have inn : ck_hasGoodSpots_l33 g (v : Int) fz 0 = some (i01 (anq (rsm U V v) 0 v)) := ck_spots_l33 hS h hk v 0 fz (Nat.lt_of_le_of_lt (show v ≤ 5 by omega) (fz_gt rfl)) (Nat.zero_add v)
    unfold ck_hasGoodSpots_l2
    rw [h.1, jg_pos ⟨rgn (by omega), rgn (by omega)⟩, if_pos (by omega), jg_pos (by omega), Int.toNat_natCast, (h.2 v hk).1, (h.2 v hk).2, ck_holdsCell_eq hG hC (by omega) (by omega), jb_tst, inn, nxt]
    show _ = some (if (gsq c X Y U V v || anq (gsq c X Y U V) (v + 1) d) = true then 0 else 1)
    unfold gsq
    cases winr c X Y (U v) (V v) with
    | false => rfl
    | true =>
      rw [if_pos rfl]
      cases anq (rsm U V v) 0 v with
      | true => rfl
      | false => rfl
theorem ck_hasGoodSpots_eq {g : gm_T} {c s : Nat} {X Y U V : Nat → Int} (hG : rG c X Y) (hC : isC g c X Y) (hS : sG s U V) (h : isCs g s U V) : ck_hasGoodSpots g = some (if anq (gsq c X Y U V) 0 s = true then 0 else 1) := ck_spots_l2 hG hC hS h s 0 fz (Nat.lt_of_le_of_lt hS.1 (fz_gt rfl)) (Nat.zero_add s)
/-- the reference's grid of the new bit -/
def isGd (g : gm_T) (n c : Nat) (X Y : Nat → Int) : Prop := ∀ v u, u < 40 → v < 40 → gm_I g 61 (1600 * n + (40 * v + u)) = if winr c X Y (gq u) (gq v) = true then 1 else 0
theorem md_hasCell_n {g : gm_T} {n c : Nat} {X Y : Nat → Int} (hn : n < 30) (hG : rG c X Y) (hD : isGd g n c X Y) {x y : Int} (hx : -20 ≤ x ∧ x ≤ 20) (hy : -20 ≤ y ∧ y ≤ 20) : md_hasCell g (n : Int) x y = some (if winr c X Y x y = true then 1 else 0) := by
  have c0 : 0 < c := by have := hG.1.1; omega
  unfold md_hasCell md_isGrid md_gridOf
  rw [md_in_eq (rg20 hx) (rgk rfl) (rgk rfl), md_in_eq (rg20 hy) (rgk rfl) (rgk rfl)]
  by_cases e1 : -20 ≤ x ∧ x ≤ 19
  rotate_left
  · rw [if_neg e1, winr_out c0 (Or.inr (Or.inr (Or.inl (fun k hk => by have := hG.2 k hk; omega)))), jb1_some, jg_pos (rgk rfl), if_pos rfl, jb1_some, jg_pos (rgk rfl), if_pos rfl]
    rfl
  by_cases e2 : -20 ≤ y ∧ y ≤ 19
  rotate_left
  · rw [if_pos e1, if_neg e2, winr_out c0 (Or.inr (Or.inl (fun k hk => by have := hG.2 k hk; omega))), jb1_some, jg_pos (rgk rfl), if_neg n10, jb1_some, jg_pos (rgk rfl), if_pos rfl, jb1_some, jg_pos (rgk rfl), if_pos rfl]
    rfl
  have ex : gq (x + 20).toNat = x := by unfold gq; omega
  have ey : gq (y + 20).toNat = y := by unfold gq; omega
  have hd := hD (y + 20).toNat (x + 20).toNat (by omega) (by omega)
  rw [ex, ey] at hd
  have hi : (1600 * (n : Int) + 40 * (y + 20)) + x + 20 = ((1600 * n + (40 * (y + 20).toNat + (x + 20).toNat) : Nat) : Int) := by omega
  rw [if_pos e1, if_pos e2, jb1_some, jg_pos (rgk rfl), if_neg n10, jb1_some, jg_pos (rgk rfl), if_neg n10, jb1_some, jg_pos (rgk rfl), if_neg n10, jb1_some, hi, jg_pos (by omega), Int.toNat_natCast, hd, jg_pos (b01_r _)]
  cases winr c X Y x y with
  | true => rfl
  | false => rfl
theorem i5_eq (n k : Nat) : 5 * (n : Int) + (k : Int) = ((5 * n + k : Nat) : Int) := by omega
theorem md_spots_l25 {g : gm_T} {n s : Nat} {U V : Nat → Int} (hn : n < 30) (hS : sG s U V) (h : isRs g n s U V) {k : Nat} (hk : k < s) : ∀ d v fuel (b : Bool), d < fuel → v + d = k → md_areSpots_l25 g (n : Int) ((5 * n + k : Nat) : Int) fuel (if b = true then 1 else 0) ((5 * n + v : Nat) : Int) = some (if (b || anq (rsm U V k) v d) = true then 1 else 0) := by
  have s5 := hS.1
  intro d
  induction d with
  | zero =>
    intro v fuel b hf hv
    obtain ⟨fuel, rfl⟩ : ∃ z, fuel = z + 1 := ⟨fuel - 1, by omega⟩
    unfold md_areSpots_l25
    rw [jg_pos ⟨rgn (by omega), rgn (by omega)⟩, if_neg (by omega)]
    cases b <;> rfl
  | succ d ih =>
    intro v fuel b hf hv
    obtain ⟨fuel, rfl⟩ : ∃ z, fuel = z + 1 := ⟨fuel - 1, by omega⟩
    have hm : v < s := by omega
    have nxt : ∀ b : Bool, md_areSpots_l25 g (n : Int) ((5 * n + k : Nat) : Int) fuel (if b = true then 1 else 0) (((5 * n + v : Nat) : Int) + 1) = some (if (b || anq (rsm U V k) (v + 1) d) = true then 1 else 0) := fun b => ih (v + 1) fuel b (by omega) (by omega)
    have nx0 : md_areSpots_l25 g (n : Int) ((5 * n + k : Nat) : Int) fuel 0 (((5 * n + v : Nat) : Int) + 1) = _ := nxt false
    have nx1 : md_areSpots_l25 g (n : Int) ((5 * n + k : Nat) : Int) fuel 1 (((5 * n + v : Nat) : Int) + 1) = _ := nxt true
    have bk := hS.2 k hk
    have bm := hS.2 v hm
    unfold md_areSpots_l25
    rw [jg_pos ⟨rgn (by omega), rgn (by omega)⟩, if_pos (by omega), jg_pos (b01_r b), jg_pos (by omega), jg_pos (by omega), Int.toNat_natCast, Int.toNat_natCast, (h.2 v hm).1, (h.2 k hk).1, jg_pos ⟨rg20 bk.1, rg20 bm.1⟩, (h.2 v hm).2, (h.2 k hk).2, jg_pos ⟨rg20 bk.2, rg20 bm.2⟩, nx0, nx1]
    show _ = some (if (b || (rsm U V k v || anq (rsm U V k) (v + 1) d)) = true then 1 else 0)
    cases b with
    | true => rfl
    | false =>
      rw [if_pos (show (if false = true then (1 : Int) else 0) = 0 from rfl)]
      by_cases e1 : U k = U v
      · rw [if_pos e1]
        by_cases e2 : V k = V v
        · rw [if_pos e2, show rsm U V k v = true from decide_eq_true ⟨e1.symm, e2.symm⟩]
          rfl
        · rw [if_neg e2, show rsm U V k v = false from decide_eq_false (fun q => e2 q.2.symm)]
          rfl
      · rw [if_neg e1, show rsm U V k v = false from decide_eq_false (fun q => e1 q.1.symm)]
        rfl
theorem md_spots_l4 {g : gm_T} {n c s : Nat} {X Y U V : Nat → Int} (hn : n < 30) (hG : rG c X Y) (hD : isGd g n c X Y) (hS : sG s U V) (h : isRs g n s U V) : ∀ d v fuel, d < fuel → v + d = s → md_areSpots_l4 g (n : Int) fuel ((5 * n + v : Nat) : Int) = some (if anq (gsq c X Y U V) v d = true then 0 else 1) := by
  have s5 := hS.1
  intro d
  induction d with
  | zero =>
    intro v fuel hf hv
    obtain ⟨fuel, rfl⟩ : ∃ z, fuel = z + 1 := ⟨fuel - 1, by omega⟩
    unfold md_areSpots_l4
    rw [jg_pos ⟨by omega, by omega⟩, Int.toNat_natCast, h.1, i5_eq, jg_pos ⟨rgn (by omega), rgn (by omega)⟩, if_neg (by omega)]
    rfl
  | succ d ih =>
    intro v fuel hf hv
    obtain ⟨fuel, rfl⟩ : ∃ z, fuel = z + 1 := ⟨fuel - 1, by omega⟩
    have hk : v < s := by omega
    have nxt : md_areSpots_l4 g (n : Int) fuel (((5 * n + v : Nat) : Int) + 1) = some (if anq (gsq c X Y U V) (v + 1) d = true then 0 else 1) := ih (v + 1) fuel (by omega) (by omega)
    have bk := hS.2 v hk
    have inn : md_areSpots_l25 g (n : Int) ((5 * n + v : Nat) : Int) fz 0 (5 * (n : Int)) = some (if (false || anq (rsm U V v) 0 v) = true then 1 else 0) := md_spots_l25 hn hS h hk v 0 fz false (Nat.lt_of_le_of_lt (show v ≤ 5 by omega) (fz_gt rfl)) (Nat.zero_add v)
    unfold md_areSpots_l4
    rw [jg_pos ⟨by omega, by omega⟩, Int.toNat_natCast, h.1, i5_eq, jg_pos ⟨rgn (by omega), rgn (by omega)⟩, if_pos (by omega), jl_eq, inn, jb_tst, jg_pos (by omega), Int.toNat_natCast, (h.2 v hk).1, (h.2 v hk).2, md_hasCell_n hn hG hD bk.1 bk.2, jb_tst, nxt]
    show _ = some (if (gsq c X Y U V v || anq (gsq c X Y U V) (v + 1) d) = true then 0 else 1)
    unfold gsq
    cases winr c X Y (U v) (V v) <;> cases anq (rsm U V v) 0 v <;> rfl
theorem md_areSpots_eq {g : gm_T} {n c s : Nat} {X Y U V : Nat → Int} (hn : n < 30) (hG : rG c X Y) (hD : isGd g n c X Y) (hS : sG s U V) (h : isRs g n s U V) : md_areSpots g (n : Int) = some (if anq (gsq c X Y U V) 0 s = true then 0 else 1) := by
  unfold md_areSpots
  rw [jl_eq]
  exact md_spots_l4 hn hG hD hS h s 0 fz (Nat.lt_of_le_of_lt hS.1 (fz_gt rfl)) (Nat.zero_add s)
