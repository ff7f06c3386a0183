/-! The photograph: agree. -/
def isPh (g : gm_T) (W H D : Nat) (M : Nat → Nat) : Prop := (1 ≤ W ∧ W ≤ 16) ∧ (1 ≤ H ∧ H ≤ 16) ∧ D ≤ 3 ∧ (gm_I g 25 1 = (W : Int) ∧ gm_I g 44 59 = (W : Int)) ∧ (gm_I g 25 2 = (H : Int) ∧ gm_I g 44 60 = (H : Int)) ∧ (gm_I g 25 3 = gm_I g 44 61 ∧ -500 ≤ gm_I g 44 61 ∧ gm_I g 44 61 ≤ 500) ∧ (gm_I g 25 4 = gm_I g 44 62 ∧ -500 ≤ gm_I g 44 62 ∧ gm_I g 44 62 ≤ 500) ∧ gm_I g 44 63 = (D : Int) ∧ isN g M ∧ (∀ y x, y < H → x < W → -1 ≤ gm_I g 88 (16 * y + x) ∧ gm_I g 88 (16 * y + x) ≤ 9) ∧ ∀ k, k < 484 → ∀ c : Nat, (M k).testBit c = true ↔ ∃ y x, (y < H ∧ x < W) ∧ gm_I g 88 (16 * y + x) = (c : Int) ∧ nr D x y k = true
theorem V_photo_cs {g : gm_T} (h : V_photo g) : (gm_I g 25 1 = 0 ∧ gm_I g 44 59 = 0) ∨ ∃ (W H D : Nat) (M : Nat → Nat), isPh g W H D M := h
def sho (g : gm_T) (W H D : Nat) (U V : Int) (c : Nat) : Prop := ∃ y x : Nat, (y < H ∧ x < W) ∧ gm_I g 88 (16 * y + x) = (c : Int) ∧ (gm_I g 44 61 + (x : Int) ≤ U + (D : Int) ∧ U ≤ gm_I g 44 61 + (x : Int) + (D : Int)) ∧ gm_I g 44 62 + (y : Int) ≤ V + (D : Int) ∧ V ≤ gm_I g 44 62 + (y : Int) + (D : Int)
theorem shows_in {g : gm_T} {W H D : Nat} {M : Nat → Nat} (h : isPh g W H D M) {U V v : Int} {c : Nat} (hc : c < 10) (hU : -2000000 ≤ U ∧ U ≤ 2000000) (hv : -2000010 ≤ v ∧ v ≤ 2000010) : ∀ (d fuel : Nat) (u : Int), u + (d : Int) = U + (D : Int) + 1 → U - 10 ≤ u → d < fuel → (md_shows_l27 g U V (c : Int) v fuel u = some (.inr 1) ∧ ∃ y x : Nat, (y < H ∧ x < W) ∧ gm_I g 88 (16 * y + x) = (c : Int) ∧ gm_I g 44 62 + (y : Int) = v ∧ u ≤ gm_I g 44 61 + (x : Int) ∧ gm_I g 44 61 + (x : Int) ≤ U + (D : Int)) ∨ (md_shows_l27 g U V (c : Int) v fuel u = some (.inl ()) ∧ ∀ y x : Nat, y < H → x < W → gm_I g 44 62 + (y : Int) = v → u ≤ gm_I g 44 61 + (x : Int) → gm_I g 44 61 + (x : Int) ≤ U + (D : Int) → gm_I g 88 (16 * y + x) ≠ (c : Int)) := by
  obtain ⟨hW, hH, hD, ⟨-, e59⟩, ⟨-, e60⟩, ⟨-, e61⟩, ⟨-, e62⟩, e63, -, h88, -⟩ := h
  intro d
  induction d with
  | zero =>
    intro fuel u hd hu hf
    obtain ⟨f, rfl⟩ : ∃ f, fuel = f + 1 := ⟨fuel - 1, by omega⟩
    right
    unfold md_shows_l27
    rw [e63, jg_pos ⟨⟨by omega, by omega⟩, by omega, by omega⟩, if_neg (by omega)]
    exact ⟨rfl, fun y x _ _ _ _ _ => by omega⟩
  | succ d ih =>
    intro fuel u hd hu hf
    obtain ⟨f, rfl⟩ : ∃ f, fuel = f + 1 := ⟨fuel - 1, by omega⟩
    have next := ih f (u + 1) (by omega) (by omega) (by omega)
    have skip : (∀ y x : Nat, y < H → x < W → gm_I g 44 62 + (y : Int) = v → u = gm_I g 44 61 + (x : Int) → gm_I g 88 (16 * y + x) ≠ (c : Int)) → (md_shows_l27 g U V (c : Int) v f (u + 1) = some (.inr 1) ∧ ∃ y x : Nat, (y < H ∧ x < W) ∧ gm_I g 88 (16 * y + x) = (c : Int) ∧ gm_I g 44 62 + (y : Int) = v ∧ u ≤ gm_I g 44 61 + (x : Int) ∧ gm_I g 44 61 + (x : Int) ≤ U + (D : Int)) ∨ (md_shows_l27 g U V (c : Int) v f (u + 1) = some (.inl ()) ∧ ∀ y x : Nat, y < H → x < W → gm_I g 44 62 + (y : Int) = v → u ≤ gm_I g 44 61 + (x : Int) → gm_I g 44 61 + (x : Int) ≤ U + (D : Int) → gm_I g 88 (16 * y + x) ≠ (c : Int)) := fun hn => by
      rcases next with ⟨n1, y, x, n2, n3, n4, n5, n6⟩ | ⟨n1, n2⟩
      · exact Or.inl ⟨n1, y, x, n2, n3, n4, by omega, n6⟩
      · refine Or.inr ⟨n1, fun y x q1 q2 q3 q4 q5 => ?_⟩
        by_cases z : u = gm_I g 44 61 + (x : Int)
        · exact hn y x q1 q2 q3 z
        · exact n2 y x q1 q2 q3 (by omega) q5
    unfold md_shows_l27
    rw [e63, jg_pos ⟨⟨by omega, by omega⟩, by omega, by omega⟩, if_pos (by omega), e59, md_in_eq (a := u - gm_I g 44 61) (l := 0) (h := (W : Int) - 1) ⟨by omega, by omega⟩ (rgk rfl) ⟨by omega, by omega⟩, jb1_some]
    by_cases c1 : 0 ≤ u - gm_I g 44 61 ∧ u - gm_I g 44 61 ≤ (W : Int) - 1
    · rw [if_pos c1, jg_pos (rgk rfl), if_neg n10, e60, md_in_eq (a := v - gm_I g 44 62) (l := 0) (h := (H : Int) - 1) ⟨by omega, by omega⟩ (rgk rfl) ⟨by omega, by omega⟩, jb1_some]
      by_cases c2 : 0 ≤ v - gm_I g 44 62 ∧ v - gm_I g 44 62 ≤ (H : Int) - 1
      · obtain ⟨x, hx⟩ : ∃ x : Nat, u - gm_I g 44 61 = (x : Int) := ⟨_, (Int.toNat_of_nonneg c1.1).symm⟩
        obtain ⟨y, hy⟩ : ∃ y : Nat, v - gm_I g 44 62 = (y : Int) := ⟨_, (Int.toNat_of_nonneg c2.1).symm⟩
        have b := h88 y x (by omega) (by omega)
        rw [if_pos c2, jg_pos (rgk rfl), if_neg n10, jb1_some, jg_pos (rgk rfl), if_neg n10, jg_pos (by omega), show ((16 * (v - gm_I g 44 62)) + u - gm_I g 44 61).toNat = 16 * y + x by omega, jg_pos ⟨⟨by omega, by omega⟩, rgn (by omega)⟩]
        by_cases c3 : gm_I g 88 (16 * y + x) = (c : Int)
        · rw [if_pos c3]
          exact Or.inl ⟨rfl, y, x, by omega, c3, by omega, by omega, by omega⟩
        · rw [if_neg c3]
          exact skip (fun y' x' q1 q2 q3 q4 => by
            rw [show y' = y by omega, show x' = x by omega]
            exact c3)
      · rw [if_neg c2, jg_pos (rgk rfl), if_pos rfl, jb1_some, jg_pos (rgk rfl), if_pos rfl]
        exact skip (fun y' x' q1 q2 q3 q4 => by omega)
    · rw [if_neg c1, jg_pos (rgk rfl), if_pos rfl, jb1_some, jg_pos (rgk rfl), if_pos rfl]
      exact skip (fun y' x' q1 q2 q3 q4 => by omega)
theorem shows_out {g : gm_T} {W H D : Nat} {M : Nat → Nat} (h : isPh g W H D M) {U V : Int} {c : Nat} (hc : c < 10) (hU : -2000000 ≤ U ∧ U ≤ 2000000) (hV : -2000000 ≤ V ∧ V ≤ 2000000) : ∀ (d fuel : Nat) (v : Int), v + (d : Int) = V + (D : Int) + 1 → V - 10 ≤ v → d < fuel → (md_shows_l8 g U V (c : Int) fuel v = some 1 ∧ ∃ y x : Nat, (y < H ∧ x < W) ∧ gm_I g 88 (16 * y + x) = (c : Int) ∧ (gm_I g 44 61 + (x : Int) ≤ U + (D : Int) ∧ U ≤ gm_I g 44 61 + (x : Int) + (D : Int)) ∧ gm_I g 44 62 + (y : Int) ≤ V + (D : Int) ∧ v ≤ gm_I g 44 62 + (y : Int)) ∨ (md_shows_l8 g U V (c : Int) fuel v = some 0 ∧ ∀ y x : Nat, y < H → x < W → (gm_I g 44 61 + (x : Int) ≤ U + (D : Int) ∧ U ≤ gm_I g 44 61 + (x : Int) + (D : Int)) → gm_I g 44 62 + (y : Int) ≤ V + (D : Int) → v ≤ gm_I g 44 62 + (y : Int) → gm_I g 88 (16 * y + x) ≠ (c : Int)) := by
  have hD : D ≤ 3 := h.2.2.1
  have e63 : gm_I g 44 63 = (D : Int) := h.2.2.2.2.2.2.2.1
  intro d
  induction d with
  | zero =>
    intro fuel v hd hv hf
    obtain ⟨f, rfl⟩ : ∃ f, fuel = f + 1 := ⟨fuel - 1, by omega⟩
    right
    unfold md_shows_l8
    rw [e63, jg_pos ⟨⟨by omega, by omega⟩, by omega, by omega⟩, if_neg (by omega)]
    exact ⟨rfl, fun y x _ _ _ _ _ => by omega⟩
  | succ d ih =>
    intro fuel v hd hv hf
    obtain ⟨f, rfl⟩ : ∃ f, fuel = f + 1 := ⟨fuel - 1, by omega⟩
    have next := ih f (v + 1) (by omega) (by omega) (by omega)
    have inn := shows_in h (U := U) (V := V) (v := v) hc hU (by omega) (2 * D + 1) fz (U - (D : Int)) (by omega) (by omega) (Nat.lt_of_le_of_lt (show 2 * D + 1 ≤ 300 by omega) (fz_gt rfl))
    unfold md_shows_l8
    rw [e63, jg_pos ⟨⟨by omega, by omega⟩, by omega, by omega⟩, if_pos (by omega), jl_eq]
    rcases inn with ⟨i1, y, x, i2, i3, i4, i5, i6⟩ | ⟨i1, i2⟩
    · rw [i1, jc1_inr]
      exact Or.inl ⟨rfl, y, x, i2, i3, ⟨i6, by omega⟩, by omega, by omega⟩
    · rw [i1, jc1_inl]
      rcases next with ⟨n1, y, x, n2, n3, n4, n5, n6⟩ | ⟨n1, n2⟩
      · exact Or.inl ⟨n1, y, x, n2, n3, n4, n5, by omega⟩
      · refine Or.inr ⟨n1, fun y x q1 q2 q3 q4 q5 => ?_⟩
        by_cases z : v = gm_I g 44 62 + (y : Int)
        · exact i2 y x q1 q2 z.symm (by omega) q3.1
        · exact n2 y x q1 q2 q3 q4 (by omega)
theorem md_shows_eq {g : gm_T} {W H D : Nat} {M : Nat → Nat} (h : isPh g W H D M) {U V : Int} {c : Nat} (hc : c < 10) (hU : -2000000 ≤ U ∧ U ≤ 2000000) (hV : -2000000 ≤ V ∧ V ≤ 2000000) : md_shows g U V (c : Int) = some (@ite _ (sho g W H D U V c) (gd _) 1 0) := by
  have hD : D ≤ 3 := h.2.2.1
  have e63 : gm_I g 44 63 = (D : Int) := h.2.2.2.2.2.2.2.1
  unfold md_shows
  rw [jl_eq, e63]
  rcases shows_out h (U := U) (V := V) hc hU hV (2 * D + 1) fz (V - (D : Int)) (by omega) (by omega) (Nat.lt_of_le_of_lt (show 2 * D + 1 ≤ 300 by omega) (fz_gt rfl)) with ⟨r1, y, x, r2, r3, r4, r5, r6⟩ | ⟨r1, r2⟩
  · rw [r1, @if_pos _ (gd _) ⟨y, x, r2, r3, r4, r5, by omega⟩]
  · rw [r1, @if_neg _ (gd _) (fun ⟨y, x, q1, q2, q3, q4, q5⟩ => r2 y x q1.1 q1.2 q3 q4 (by omega) q2)]
/-- the class's look: near the place, or out of all doubt -/
theorem near_sho {g : gm_T} {W H D : Nat} {M : Nat → Nat} (h : isPh g W H D M) {U V : Int} {c : Nat} {p q : Nat} (hp : U - gm_I g 44 61 + 3 = (p : Int)) (hq : V - gm_I g 44 62 + 3 = (q : Int)) (p22 : p < 22) (q22 : q < 22) : (M (22 * q + p)).testBit c = true ↔ sho g W H D U V c := by
  rw [h.2.2.2.2.2.2.2.2.2.2 (22 * q + p) (by omega) c]
  unfold sho
  constructor
  · rintro ⟨y, x, z1, z2, z3⟩
    have := nr_iff.mp z3
    exact ⟨y, x, z1, z2, by omega, by omega⟩
  · rintro ⟨y, x, z1, z2, z3, z4⟩
    exact ⟨y, x, z1, z2, nr_iff.mpr (by omega)⟩
theorem far_sho {g : gm_T} {W H D : Nat} {M : Nat → Nat} (h : isPh g W H D M) {U V : Int} {c : Nat} (hf : ¬ ((0 ≤ U - gm_I g 44 61 + 3 ∧ U - gm_I g 44 61 + 3 < 22) ∧ 0 ≤ V - gm_I g 44 62 + 3 ∧ V - gm_I g 44 62 + 3 < 22)) : ¬ sho g W H D U V c := by
  have hW := h.1
  have hH := h.2.1
  have hD := h.2.2.1
  rintro ⟨y, x, z1, z2, z3, z4⟩
  omega
noncomputable def agB (g : gm_T) (W H D b : Nat) (t x y : Int) (k : Nat) : Bool := @decide (sho g W H D (cX t (gm_I g 51 (5 * b + k)) (gm_I g 52 (5 * b + k)) + x) (cY t (gm_I g 51 (5 * b + k)) (gm_I g 52 (5 * b + k)) + y) (gm_I g 53 (5 * b + k)).toNat) (gd _)
theorem c_20 {t x y : Int} (hx : -20 ≤ x ∧ x ≤ 19) (hy : -20 ≤ y ∧ y ≤ 19) : (-20 ≤ cX t x y ∧ cX t x y ≤ 19) ∧ -20 ≤ cY t x y ∧ cY t x y ≤ 19 := by
  refine ⟨⟨?_, ?_⟩, ?_, ?_⟩ <;> simp only [cX, cY] <;> (repeat' split) <;> omega
theorem md_ag_lp {n : Nat} {g : gm_T} (VB : V_bit n g) {W H D : Nat} {M : Nat → Nat} (h : isPh g W H D M) {b : Nat} (hb : b < n) (h30 : n ≤ 30) {t x y : Int} (ht : 0 ≤ t ∧ t ≤ 3) (hx : -1000 ≤ x ∧ x ≤ 1000) (hy : -1000 ≤ y ∧ y ≤ 1000) {m : Nat} (hm : gm_I g 50 b = (m : Int)) : ∀ (d k fuel : Nat), k + d = m → d < fuel → md_agrees_l8 g (b : Int) t x y fuel ((ct (agB g W H D b t x y) k : Nat) : Int) ((5 * b + k : Nat) : Int) = some ((ct (agB g W H D b t x y) m : Nat) : Int) := by
  obtain ⟨-, -, ⟨-, m2, m3⟩, mk, -⟩ := VB b hb
  intro d
  induction d with
  | zero =>
    intro k fuel hd hf
    obtain ⟨f, rfl⟩ : ∃ f, fuel = f + 1 := ⟨fuel - 1, by omega⟩
    have hk : k = m := by omega
    unfold md_agrees_l8
    rw [jg_pos (by omega), Int.toNat_natCast, hm, jg_pos ⟨rgn (by omega), by omega, by omega⟩, if_neg (by omega), hk]
  | succ d ih =>
    intro k fuel hd hf
    obtain ⟨f, rfl⟩ : ∃ f, fuel = f + 1 := ⟨fuel - 1, by omega⟩
    have next := ih (k + 1) f (by omega) (by omega)
    obtain ⟨⟨-, a1, a2⟩, ⟨-, a3, a4⟩, -, a5, a6⟩ := mk k (by omega)
    obtain ⟨c, hc⟩ : ∃ c : Nat, gm_I g 53 (5 * b + k) = (c : Int) := ⟨_, (Int.toNat_of_nonneg a5).symm⟩
    have hr := c_20 (t := t) ⟨a1, a2⟩ ⟨a3, a4⟩
    have hag : agB g W H D b t x y k = @decide (sho g W H D (cX t (gm_I g 51 (5 * b + k)) (gm_I g 52 (5 * b + k)) + x) (cY t (gm_I g 51 (5 * b + k)) (gm_I g 52 (5 * b + k)) + y) (gm_I g 53 (5 * b + k)).toNat) (gd _) := rfl
    rw [hc, Int.toNat_natCast] at hag
    unfold md_agrees_l8
    rw [jg_pos (by omega), Int.toNat_natCast, Int.toNat_natCast, hm, jg_pos ⟨rgn (by omega), by omega, by omega⟩, if_pos (by omega), jg_pos (by omega), md_cellX_eq ht (by omega) (by omega), jb1_some, md_cellY_eq ht (by omega) (by omega), jb1_some, hc, md_shows_eq h (by omega) (by omega) (by omega), jb_gd]
    by_cases z : sho g W H D (cX t (gm_I g 51 (5 * b + k)) (gm_I g 52 (5 * b + k)) + x) (cY t (gm_I g 51 (5 * b + k)) (gm_I g 52 (5 * b + k)) + y) c
    · rw [@decide_eq_true _ (gd _) z] at hag
      rw [@if_pos _ (gd _) z, jl_eq, ct_s1 hag]
      exact next
    · rw [@decide_eq_false _ (gd _) z] at hag
      rw [@if_neg _ (gd _) z, jl_eq, Int.add_zero, ct_s0 (by rw [hag]; decide)]
      exact next
theorem md_agrees_eq {n : Nat} {g : gm_T} (VB : V_bit n g) {W H D : Nat} {M : Nat → Nat} (h : isPh g W H D M) {b : Nat} (hb : b < n) (h30 : n ≤ 30) {t x y : Int} (ht : 0 ≤ t ∧ t ≤ 3) (hx : -1000 ≤ x ∧ x ≤ 1000) (hy : -1000 ≤ y ∧ y ≤ 1000) {m : Nat} (hm : gm_I g 50 b = (m : Int)) : md_agrees g (b : Int) t x y = some ((ct (agB g W H D b t x y) m : Nat) : Int) := by
  obtain ⟨-, -, ⟨-, m2, m3⟩, -⟩ := VB b hb
  have h1 := md_ag_lp VB h hb h30 ht hx hy hm m 0 fz (by omega) (Nat.lt_of_le_of_lt (show m ≤ 300 by omega) (fz_gt rfl))
  unfold md_agrees
  rw [jl_eq, show 5 * (b : Int) = ((5 * b + 0 : Nat) : Int) by omega, show md_agrees_l8 g (b : Int) t x y fz 0 ((5 * b + 0 : Nat) : Int) = _ from h1, jb1_some]
theorem cp_ag_lp {n : Nat} {g : gm_T} (VB : V_bit n g) {W H D : Nat} {M : Nat → Nat} (h : isPh g W H D M) {b : Nat} (hb : b < n) {t x y : Int} (ht : 0 ≤ t ∧ t ≤ 3) (hx : -1000 ≤ x ∧ x ≤ 1000) (hy : -1000 ≤ y ∧ y ≤ 1000) {m : Nat} (hm : gm_I g 50 b = (m : Int)) : ∀ (d k fuel : Nat), k + d = m → d < fuel → cp_countAgreeing_l6 g b t x y fuel ((ct (agB g W H D b t x y) k : Nat) : Int) (k : Int) = some ((ct (agB g W H D b t x y) m : Nat) : Int) := by
  obtain ⟨-, -, ⟨m1, m2, m3⟩, mk, -⟩ := VB b hb
  obtain ⟨-, -, -, -, -, ⟨e3, x1, x2⟩, ⟨e4, y1, y2⟩, -, hN, -⟩ := id h
  intro d
  induction d with
  | zero =>
    intro k fuel hd hf
    obtain ⟨f, rfl⟩ : ∃ f, fuel = f + 1 := ⟨fuel - 1, by omega⟩
    have hk : k = m := by omega
    unfold cp_countAgreeing_l6
    rw [m1, hm, jg_pos ⟨rgn (by omega), rgn (by omega)⟩, if_neg (by omega), hk]
  | succ d ih =>
    intro k fuel hd hf
    obtain ⟨f, rfl⟩ : ∃ f, fuel = f + 1 := ⟨fuel - 1, by omega⟩
    have next := ih (k + 1) f (by omega) (by omega)
    obtain ⟨⟨q1, a1, a2⟩, ⟨q2, a3, a4⟩, q3, a5, a6⟩ := mk k (by omega)
    obtain ⟨c, hc⟩ : ∃ c : Nat, gm_I g 53 (5 * b + k) = (c : Int) := ⟨_, (Int.toNat_of_nonneg a5).symm⟩
    have hr := c_20 (t := t) ⟨a1, a2⟩ ⟨a3, a4⟩
    have hag : agB g W H D b t x y k = @decide (sho g W H D (cX t (gm_I g 51 (5 * b + k)) (gm_I g 52 (5 * b + k)) + x) (cY t (gm_I g 51 (5 * b + k)) (gm_I g 52 (5 * b + k)) + y) (gm_I g 53 (5 * b + k)).toNat) (gd _) := rfl
    rw [hc, Int.toNat_natCast] at hag
    obtain ⟨U, hU⟩ : ∃ U, U = cX t (gm_I g 51 (5 * b + k)) (gm_I g 52 (5 * b + k)) := ⟨_, rfl⟩
    obtain ⟨V, hV⟩ : ∃ V, V = cY t (gm_I g 51 (5 * b + k)) (gm_I g 52 (5 * b + k)) := ⟨_, rfl⟩
    rw [← hU, ← hV] at hag hr
    have yes : sho g W H D (U + x) (V + y) c → cp_countAgreeing_l6 g b t x y f (((ct (agB g W H D b t x y) k : Nat) : Int) + 1) ((k : Int) + 1) = some ((ct (agB g W H D b t x y) m : Nat) : Int) := fun z => by
      rw [@decide_eq_true _ (gd _) z] at hag
      rw [ct_s1 hag]
      exact next
    have no : ¬ sho g W H D (U + x) (V + y) c → cp_countAgreeing_l6 g b t x y f ((ct (agB g W H D b t x y) k : Nat) : Int) ((k : Int) + 1) = some ((ct (agB g W H D b t x y) m : Nat) : Int) := fun z => by
      rw [@decide_eq_false _ (gd _) z] at hag
      rw [ct_s0 (by rw [hag]; decide)]
      exact next
    unfold cp_countAgreeing_l6
    rw [m1, hm, jg_pos ⟨rgn (by omega), rgn (by omega)⟩, if_pos (by omega), jg_pos (by omega), Int.toNat_natCast, q1, q2, q3, cc_cellX_eq ht, jb1_some, jl_eq, cc_cellY_eq ht, jb1_some, jl_eq, ← hU, ← hV, e3, e4, hc]
    by_cases cp : 0 ≤ U + x - gm_I g 44 61 + 3 ∧ U + x - gm_I g 44 61 + 3 < 22
    · by_cases cq : 0 ≤ V + y - gm_I g 44 62 + 3 ∧ V + y - gm_I g 44 62 + 3 < 22
      · obtain ⟨p, hp⟩ : ∃ p : Nat, U + x - gm_I g 44 61 + 3 = (p : Int) := ⟨_, (Int.toNat_of_nonneg cp.1).symm⟩
        obtain ⟨q, hq⟩ : ∃ q : Nat, V + y - gm_I g 44 62 + 3 = (q : Int) := ⟨_, (Int.toNat_of_nonneg cq.1).symm⟩
        have hs := near_sho h (c := c) hp hq (by omega) (by omega)
        obtain ⟨n1, n2⟩ := hN (22 * q + p) (by omega)
        rw [hp, hq, jg_pos (rgn (by omega)), if_neg (by omega), if_pos (by omega), jg_pos (rgn (by omega)), if_neg (by omega), if_pos (by omega), jb1_some, jg_pos (rgk rfl), if_neg n10, jg_pos (by omega), show (((q : Int) * 22) + (p : Int)).toNat = 22 * q + p by omega, n1, zbit (Nat.lt_trans n2 (by decide)) (by omega)]
        cases r : (M (22 * q + p)).testBit c with
        | false =>
          simp only [Bool.false_eq_true, if_false, if_true]
          exact no (fun z => by
            rw [hs.mpr z] at r
            cases r)
        | true =>
          simp only [if_true]
          rw [if_neg n10]
          exact yes (hs.mp r)
      · have hn := no (far_sho h (fun z => cq z.2))
        rw [jg_pos ⟨by omega, by omega⟩, if_neg (by omega), if_pos cp.2, jg_pos ⟨by omega, by omega⟩]
        by_cases c0 : V + y - gm_I g 44 62 + 3 < 0
        · rw [if_pos c0, jb1_some, jg_pos (rgk rfl), if_pos rfl]
          exact hn
        · rw [if_neg c0, if_neg (by omega), jb1_some, jg_pos (rgk rfl), if_pos rfl]
          exact hn
    · have hn := no (far_sho h (fun z => cp z.1))
      rw [jg_pos ⟨by omega, by omega⟩]
      by_cases c0 : U + x - gm_I g 44 61 + 3 < 0
      · rw [if_pos c0, jb1_some, jg_pos (rgk rfl), if_pos rfl]
        exact hn
      · rw [if_neg c0, if_neg (by omega), jb1_some, jg_pos (rgk rfl), if_pos rfl]
        exact hn
theorem cp_ag_eq {n : Nat} {g : gm_T} (VB : V_bit n g) {W H D : Nat} {M : Nat → Nat} (h : isPh g W H D M) {b : Nat} (hb : b < n) {t x y : Int} (ht : 0 ≤ t ∧ t ≤ 3) (hx : -1000 ≤ x ∧ x ≤ 1000) (hy : -1000 ≤ y ∧ y ≤ 1000) {m : Nat} (hm : gm_I g 50 b = (m : Int)) : cp_countAgreeing g b t x y = some ((ct (agB g W H D b t x y) m : Nat) : Int) := by
  obtain ⟨-, -, ⟨-, m2, m3⟩, -⟩ := VB b hb
  have h1 := cp_ag_lp VB h hb ht hx hy hm m 0 fz (by omega) (Nat.lt_of_le_of_lt (show m ≤ 300 by omega) (fz_gt rfl))
  unfold cp_countAgreeing
  rw [show cp_countAgreeing_l6 g b t x y fz 0 0 = _ from h1, jb1_some]
theorem op_agree {n : Nat} {g : gm_T} (hn : V_num n g) (VB : V_bit n g) (VP : V_photo g) {a t x y : Int} (ha : rg a) (ht : rg t) (hx : rg x) (hy : rg y) : ∃ r, cw_agree n g a t x y = some r ∧ md_agree g a t x y = some r := by
  have h30 := hn.2.2
  unfold cw_agree md_agree
  rw [cw_isBit_eq hn ha, jb_tst, md_isBit_eq hn ha, jb_tst]
  by_cases h1 : 0 ≤ a ∧ a < (n : Int)
  · rw [if_pos h1, if_pos h1, cw_isPlacing_eq ht hx hy, jb_gd, md_isPlace_eq ht hx hy, jb_gd]
    by_cases h2 : isPl t x y
    · rw [@if_pos _ (gd _) h2, @if_pos _ (gd _) h2]
      obtain ⟨b, rfl⟩ : ∃ b : Nat, a = (b : Int) := ⟨_, (Int.toNat_of_nonneg h1.1).symm⟩
      unfold cp_isThere
      rcases V_photo_cs VP with ⟨z1, z2⟩ | ⟨W, H, D, M, h⟩
      · rw [z1, z2, jg_pos (rgk rfl), if_pos (by decide), jb1_some, jg_pos (rgk rfl), if_pos rfl, jg_pos (rgk rfl), if_pos rfl]
        exact ⟨_, rfl, rfl⟩
      · obtain ⟨-, -, ⟨-, m2, m3⟩, -⟩ := VB b (by omega)
        obtain ⟨m, hm⟩ : ∃ m : Nat, gm_I g 50 b = (m : Int) := ⟨_, (Int.toNat_of_nonneg m2).symm⟩
        have w := h.1
        unfold isPl at h2
        rw [h.2.2.2.1.1, h.2.2.2.1.2, jg_pos (rgn (by omega)), if_neg (by omega), jb1_some, jg_pos (rgk rfl), if_neg n10, jg_pos h1, Int.toNat_natCast, cp_ag_eq VB h (by omega) (by omega) (by omega) (by omega) hm, jb1_some, jg_pos (rgn (by omega)), if_neg (by omega), md_agrees_eq VB h (by omega) h30 (by omega) (by omega) (by omega) hm, jb1_some]
        exact ⟨_, rfl, rfl⟩
    · rw [@if_neg _ (gd _) h2, @if_neg _ (gd _) h2]
      exact ⟨_, rfl, rfl⟩
  · rw [if_neg h1, if_neg h1]
    exact ⟨_, rfl, rfl⟩
