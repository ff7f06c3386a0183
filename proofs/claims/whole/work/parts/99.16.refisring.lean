/-! The ring: the reference as a whole; both are one. -/
def rqm (c : Nat) (X Y : Nat → Int) (k m : Nat) : Bool := if k = 0 ∧ m + 1 = c then false else rcx c X Y k m
def rqt (c : Nat) (X Y : Nat → Int) (k : Nat) : Bool := rfo c X Y k (rnx c k) || anq (rqm c X Y k) (k + 2) (c - (k + 2))
theorem mmod_eq {c k : Nat} (hk : k < c) : ((k : Int) + 1) % (c : Int) = ((rnx c k : Nat) : Int) := by
  unfold rnx
  by_cases e : k + 1 < c
  · rw [if_pos e, Int.emod_eq_of_lt (by omega) (by omega)]; rfl
  · rw [if_neg e, show (k : Int) + 1 = (c : Int) from by omega, Int.emod_self]; rfl
theorem md_ring_l9 {g : gm_T} {n c : Nat} {X Y : Nat → Int} (hn : n < 30) (hG : rG c X Y) (h : isR g n c X Y) : ∀ d v fuel, d < fuel → v + d = c → md_isRing_l9 g (n : Int) (c : Int) fuel (v : Int) = some (i01 (anq (rze c X Y) v d)) := by
  have c8 := hG.1.2
  intro d
  induction d with
  | zero =>
    intro v fuel hf hv
    obtain ⟨fuel, rfl⟩ : ∃ z, fuel = z + 1 := ⟨fuel - 1, by omega⟩
    unfold md_isRing_l9
    rw [jg_pos ⟨rgn (by omega), rgn (by omega)⟩, if_neg (by omega)]
    rfl
  | succ d ih =>
    intro v fuel hf hv
    obtain ⟨fuel, rfl⟩ : ∃ z, fuel = z + 1 := ⟨fuel - 1, by omega⟩
    have hk : v < c := by omega
    have nxt : md_isRing_l9 g (n : Int) (c : Int) fuel ((v : Int) + 1) = some (i01 (anq (rze c X Y) (v + 1) d)) := ih (v + 1) fuel (by omega) (by omega)
    have dk := rdx_b hG hk
    unfold md_isRing_l9
    rw [jg_pos ⟨rgn (by omega), rgn (by omega)⟩, if_pos (by omega), mwx_eq hn hG h hk, jb1_some, jg_pos ⟨by omega, by omega⟩, mwy_eq hn hG h hk, jb1_some, jg_pos ⟨by omega, by omega⟩, nxt]
    show _ = some (i01 (rze c X Y v || anq (rze c X Y) (v + 1) d))
    have ex : rdx c X v = 0 ↔ X v = X (rnx c v) := by unfold rdx; omega
    have ey : rdx c Y v = 0 ↔ Y v = Y (rnx c v) := by unfold rdx; omega
    by_cases e1 : rdx c X v = 0
    · rw [if_pos e1]
      by_cases e2 : rdx c Y v = 0
      · rw [if_pos e2, show rze c X Y v = true from decide_eq_true ⟨ex.mp e1, ey.mp e2⟩]
        rfl
      · rw [if_neg e2, show rze c X Y v = false from decide_eq_false (fun q => e2 (ey.mpr q.2)), Bool.false_or]
    · rw [if_neg e1, show rze c X Y v = false from decide_eq_false (fun q => e1 (ex.mpr q.1)), Bool.false_or]
theorem md_ring_l68 {g : gm_T} {n c : Nat} {X Y : Nat → Int} (hn : n < 30) (hG : rG c X Y) (h : isR g n c X Y) {k : Nat} (hk : k < c) : ∀ d v fuel, d < fuel → v ≤ 20 → ((v + d = c) ∨ (d = 0 ∧ c ≤ v)) → md_isRing_l68 g (n : Int) (c : Int) (k : Int) fuel (v : Int) = some (i01 (anq (rqm c X Y k) v d)) := by
  have c8 := hG.1.2
  have c3 := hG.1.1
  intro d
  induction d with
  | zero =>
    intro v fuel hf h20 hv
    obtain ⟨fuel, rfl⟩ : ∃ z, fuel = z + 1 := ⟨fuel - 1, by omega⟩
    unfold md_isRing_l68
    rw [jg_pos ⟨rgn (by omega), rgn (by omega)⟩, if_neg (by omega)]
    rfl
  | succ d ih =>
    intro v fuel hf h20 hv
    obtain ⟨fuel, rfl⟩ : ∃ z, fuel = z + 1 := ⟨fuel - 1, by omega⟩
    have hm : v < c := by omega
    have nxt : md_isRing_l68 g (n : Int) (c : Int) (k : Int) fuel ((v : Int) + 1) = some (i01 (anq (rqm c X Y k) (v + 1) d)) := ih (v + 1) fuel (by omega) (by omega) (by omega)
    unfold md_isRing_l68
    rw [jg_pos ⟨rgn (by omega), rgn (by omega)⟩, if_pos (by omega), jg_pos (rgn (by omega)), md_meet_eq hn hG h hk hm, jb_tst, nxt]
    show _ = some (i01 (rqm c X Y k v || anq (rqm c X Y k) (v + 1) d))
    have tail : (if rcx c X Y k v = true then (some (Sum.inr 0) : Option (Unit ⊕ Int)) else some (i01 (anq (rqm c X Y k) (v + 1) d))) = some (i01 (rcx c X Y k v || anq (rqm c X Y k) (v + 1) d)) := by
      cases rcx c X Y k v with
      | true => rfl
      | false => rw [Bool.false_or]; rfl
    by_cases k0 : k = 0
    · rw [if_pos (by omega), jg_pos ⟨by omega, by omega⟩]
      by_cases e : v + 1 = c
      · rw [if_pos (by omega), show rqm c X Y k v = false from if_pos ⟨k0, e⟩, Bool.false_or]
      · rw [if_neg (by omega), show rqm c X Y k v = rcx c X Y k v from if_neg (fun q => e q.2)]
        exact tail
    · rw [if_neg (by omega), show rqm c X Y k v = rcx c X Y k v from if_neg (fun q => k0 q.1)]
      exact tail
theorem md_ring_l42 {g : gm_T} {n c : Nat} {X Y : Nat → Int} (hn : n < 30) (hG : rG c X Y) (h : isR g n c X Y) : ∀ d v fuel, d < fuel → v + d = c → md_isRing_l42 g (n : Int) (c : Int) fuel (v : Int) = some (i01 (anq (rqt c X Y) v d)) := by
  have c8 := hG.1.2
  intro d
  induction d with
  | zero =>
    intro v fuel hf hv
    obtain ⟨fuel, rfl⟩ : ∃ z, fuel = z + 1 := ⟨fuel - 1, by omega⟩
    unfold md_isRing_l42
    rw [jg_pos ⟨rgn (by omega), rgn (by omega)⟩, if_neg (by omega)]
    rfl
  | succ d ih =>
    intro v fuel hf hv
    obtain ⟨fuel, rfl⟩ : ∃ z, fuel = z + 1 := ⟨fuel - 1, by omega⟩
    have hk : v < c := by omega
    have hx : rnx c v < c := rnx_lt (by omega)
    have nxt : md_isRing_l42 g (n : Int) (c : Int) fuel ((v : Int) + 1) = some (i01 (anq (rqt c X Y) (v + 1) d)) := ih (v + 1) fuel (by omega) (by omega)
    have inn : md_isRing_l68 g (n : Int) (c : Int) (v : Int) fz ((v : Int) + 2) = some (i01 (anq (rqm c X Y v) (v + 2) (c - (v + 2)))) := md_ring_l68 hn hG h hk (c - (v + 2)) (v + 2) fz (Nat.lt_of_le_of_lt (show c - (v + 2) ≤ 8 by omega) (fz_gt rfl)) (by omega) (by omega)
    unfold md_isRing_l42
    rw [jg_pos ⟨rgn (by omega), rgn (by omega)⟩, if_pos (by omega), jg_pos (by omega), mmod_eq hk, md_folds_eq hn hG h hk hx, jb_tst, jl_eq, inn]
    show _ = some (i01 (rqt c X Y v || anq (rqt c X Y) (v + 1) d))
    unfold rqt
    cases rfo c X Y v (rnx c v) with
    | true => rfl
    | false =>
      rw [if_neg (by decide), Bool.false_or]
      cases anq (rqm c X Y v) (v + 2) (c - (v + 2)) with
      | true => rfl
      | false =>
        rw [Bool.false_or]
        exact nxt
theorem md_area_lp {g : gm_T} {n c : Nat} {X Y : Nat → Int} (hn : n < 30) (hG : rG c X Y) (h : isR g n c X Y) : ∀ d v fuel, d < fuel → v + d = c → md_areaOf_l4 g (n : Int) fuel (rar c X Y v) (v : Int) = some (rar c X Y c) := by
  have c8 := hG.1.2
  intro d
  induction d with
  | zero =>
    intro v fuel hf hv
    obtain ⟨fuel, rfl⟩ : ∃ z, fuel = z + 1 := ⟨fuel - 1, by omega⟩
    have e : v = c := by omega
    subst e
    unfold md_areaOf_l4
    rw [jg_pos ⟨by omega, by omega⟩, Int.toNat_natCast, h.1, jg_pos ⟨rgn (by omega), rgn (by omega)⟩, if_neg (by omega)]
  | succ d ih =>
    intro v fuel hf hv
    obtain ⟨fuel, rfl⟩ : ∃ z, fuel = z + 1 := ⟨fuel - 1, by omega⟩
    have hk : v < c := by omega
    have hx : rnx c v < c := rnx_lt (by omega)
    unfold md_areaOf_l4 md_cross
    rw [jg_pos ⟨by omega, by omega⟩, Int.toNat_natCast, h.1, jg_pos ⟨rgn (by omega), rgn (by omega)⟩, if_pos (by omega), jl_eq, mdn_eq hn hG h hk, jb1_some, i8_eq, jg_pos (by omega), jg_pos (by omega), Int.toNat_natCast, Int.toNat_natCast, (h.2 v hk).1, (h.2 _ hx).1, (h.2 v hk).2, (h.2 _ hx).2, jb1_some, jl_eq, Int.mul_comm (Y v) (X (rnx c v))]
    exact ih (v + 1) fuel (by omega) (by omega)
theorem md_areaOf_eq {g : gm_T} {n c : Nat} {X Y : Nat → Int} (hn : n < 30) (hG : rG c X Y) (h : isR g n c X Y) : md_areaOf g (n : Int) = some (rar c X Y c) := by
  unfold md_areaOf
  rw [show md_areaOf_l4 g (n : Int) fz 0 0 = some (rar c X Y c) from md_area_lp hn hG h c 0 fz (Nat.lt_of_le_of_lt hG.1.2 (fz_gt rfl)) (Nat.zero_add c)]
  rfl
theorem rqt_eq {c : Nat} {X Y : Nat → Int} (hc : 3 ≤ c) : anq (rqt c X Y) 0 c = anq (rmt c X Y) 0 c := by
  rw [Bool.eq_iff_iff, anq_iff, anq_iff]
  constructor
  · rintro ⟨k, ⟨-, h1⟩, h2⟩
    unfold rqt at h2
    rw [Bool.or_eq_true, anq_iff] at h2
    rcases h2 with h2 | ⟨m, h3, h4⟩
    · by_cases e : k + 1 < c
      · refine ⟨k, ⟨Nat.zero_le _, h1⟩, ?_⟩
        unfold rmt
        rw [anq_iff]
        refine ⟨k + 1, ⟨Nat.le_refl _, by omega⟩, ?_⟩
        have q : rnx c k = k + 1 := if_pos e
        unfold rmw
        rw [if_pos q]
        rw [q] at h2
        exact h2
      · have q : rnx c k = 0 := if_neg e
        have ek : k = c - 1 := by omega
        refine ⟨0, ⟨Nat.le_refl _, by omega⟩, ?_⟩
        unfold rmt
        rw [anq_iff]
        refine ⟨k, ⟨by omega, by omega⟩, ?_⟩
        have q0 : rnx c 0 = 1 := if_pos (by omega)
        unfold rmw
        rw [if_neg (by rw [q0]; omega), if_pos q]
        rw [q] at h2
        exact h2
    · refine ⟨k, ⟨Nat.zero_le _, h1⟩, ?_⟩
      unfold rmt
      rw [anq_iff]
      refine ⟨m, ⟨by omega, by omega⟩, ?_⟩
      unfold rqm at h4
      by_cases e : k = 0 ∧ m + 1 = c
      · rw [if_pos e] at h4; cases h4
      · rw [if_neg e] at h4
        have q : rnx c k = k + 1 := if_pos (by omega)
        unfold rmw
        rw [if_neg (by rw [q]; omega), if_neg (by unfold rnx; split <;> omega)]
        exact h4
  · rintro ⟨k, ⟨-, h1⟩, h2⟩
    unfold rmt at h2
    rw [anq_iff] at h2
    obtain ⟨m, h3, h4⟩ := h2
    have q : rnx c k = k + 1 := if_pos (by omega)
    unfold rmw at h4
    by_cases e : rnx c k = m
    · rw [if_pos e] at h4
      refine ⟨k, ⟨Nat.zero_le _, h1⟩, ?_⟩
      unfold rqt
      rw [Bool.or_eq_true]
      rw [← e] at h4
      exact Or.inl h4
    · rw [if_neg e] at h4
      by_cases e2 : rnx c m = k
      · rw [if_pos e2] at h4
        refine ⟨m, ⟨Nat.zero_le _, by omega⟩, ?_⟩
        unfold rqt
        rw [Bool.or_eq_true]
        rw [← e2] at h4
        exact Or.inl h4
      · rw [if_neg e2] at h4
        refine ⟨k, ⟨Nat.zero_le _, h1⟩, ?_⟩
        unfold rqt
        rw [Bool.or_eq_true, anq_iff]
        refine Or.inr ⟨m, ⟨by omega, by omega⟩, ?_⟩
        unfold rqm
        rw [if_neg (fun z => e2 (by
          have : rnx c m = 0 := if_neg (by omega)
          omega))]
        exact h4
theorem md_isRing_eq {g : gm_T} {n c : Nat} {X Y : Nat → Int} (hn : n < 30) (hG : rG c X Y) (h : isR g n c X Y) : md_isRing g (n : Int) = some (if rng c X Y = true then 1 else 0) := by
  have c8 := hG.1.2
  have hb := rar_b hG c (Nat.le_refl c)
  unfold md_isRing rng
  rw [jg_pos (by omega), Int.toNat_natCast, h.1, jl_eq, show md_isRing_l9 g (n : Int) (c : Int) fz 0 = some (i01 (anq (rze c X Y) 0 c)) from md_ring_l9 hn hG h c 0 fz (Nat.lt_of_le_of_lt c8 (fz_gt rfl)) (Nat.zero_add c), show md_isRing_l42 g (n : Int) (c : Int) fz 0 = some (i01 (anq (rqt c X Y) 0 c)) from md_ring_l42 hn hG h c 0 fz (Nat.lt_of_le_of_lt c8 (fz_gt rfl)) (Nat.zero_add c), md_areaOf_eq hn hG h, rqt_eq hG.1.1]
  cases anq (rze c X Y) 0 c with
  | true => rfl
  | false =>
    cases anq (rmt c X Y) 0 c with
    | true => rfl
    | false =>
      show jg (rg (rar c X Y c)) (if rar c X Y c ≤ 0 then some 0 else some 1) = some (if (true && true && decide (0 < rar c X Y c)) = true then 1 else 0)
      rw [jg_pos ⟨by omega, by omega⟩, Bool.true_and, Bool.true_and]
      by_cases e : rar c X Y c ≤ 0
      · rw [if_pos e, if_neg (by rw [decide_eq_true_eq]; omega)]
      · rw [if_neg e, if_pos (decide_eq_true (by omega))]
