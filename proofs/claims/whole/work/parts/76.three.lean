/-! Arrangements: the class's search with two and with three bits. -/
theorem rn_l14 {n : Nat} {g0 : gm_T} (I : I_fit n g0) {A B C : Nat} (hA : A < n) (hB : B < n) (hC : C < n) {g1 : gm_T} (h3 : isT3 g0 A B C g1) {i m1 : Nat} (hi : i < 64) (hm : m1 ≤ 64) (h30 : gm_I g1 30 1 = (m1 : Int)) {p : plc} (hp : bpl 40 p) (hpi : gm_J g1 28 i = pp p) {pl : Nat → plc} (hJ : ∀ j, j < m1 → gm_J g1 28 (64 * 1 + j) = pp (pl j) ∧ bpl 40 (pl j)) : ∀ (d k fuel : Nat) (g : gm_T) (s : cnd), k + d = m1 → d < fuel → exc W_ar J_ar g1 g → isAr g s → bS s → rn g1 (ca_solveThree_l14 n (i : Int) fuel (k : Int) g) s (fun c => ∃ j, k ≤ j ∧ j < m1 ∧ cd3 g0 A B C p (pl j) c) := by
  intro d
  induction d with
  | zero =>
    intro k fuel g s hd hf x h hs
    obtain ⟨f, rfl⟩ : ∃ f, fuel = f + 1 := ⟨fuel - 1, by omega⟩
    unfold ca_solveThree_l14
    rw [x.1 30 1 rfl, h30, jg_pos ⟨⟨by omega, by omega⟩, by omega, by omega⟩, if_neg (by omega)]
    exact ⟨g, s, rfl, x, h, hs, adds_no s (fun c ⟨j, q1, q2, _⟩ => by omega)⟩
  | succ d ih =>
    intro k fuel g s hd hf x h hs
    obtain ⟨f, rfl⟩ : ∃ f, fuel = f + 1 := ⟨fuel - 1, by omega⟩
    obtain ⟨j1, j2⟩ := hJ k (by omega)
    obtain ⟨g2, s2, r1, r2, r3, r4, r5⟩ := ca_consider_eq I hA hB hC x h3 h hs (bpl_mono hp (by decide)) (bpl_mono j2 (by decide))
    obtain ⟨g4, s4, u1, u2, u3, u4, u5⟩ := ih (k + 1) f g2 s2 (by omega) (by omega) r2 r3 r4
    unfold ca_solveThree_l14
    rw [x.1 30 1 rfl, h30, jg_pos ⟨⟨by omega, by omega⟩, by omega, by omega⟩, if_pos (by omega), jg_pos (by omega), jg_pos (by omega), Int.toNat_natCast, show (64 + (k : Int)).toNat = 64 * 1 + k by omega, x.2 28 i rfl, x.2 28 _ rfl, hpi, j1, r1, jb1_some]
    exact ⟨g4, s4, u1, u2, u3, u4, adds_st (T := fun j => cd3 g0 A B C p (pl j)) (by omega) r5 u5⟩
theorem rn_l2 {n : Nat} {g0 : gm_T} (I : I_fit n g0) {A B C : Nat} (hA : A < n) (hB : B < n) (hC : C < n) {g1 : gm_T} (h3 : isT3 g0 A B C g1) {m0 m1 : Nat} (hm0 : m0 ≤ 64) (hm : m1 ≤ 64) (h300 : gm_I g1 30 0 = (m0 : Int)) (h30 : gm_I g1 30 1 = (m1 : Int)) {pk1 pl : Nat → plc} (hJ0 : ∀ j, j < m0 → gm_J g1 28 j = pp (pk1 j) ∧ bpl 40 (pk1 j)) (hJ : ∀ j, j < m1 → gm_J g1 28 (64 * 1 + j) = pp (pl j) ∧ bpl 40 (pl j)) : ∀ (d i fuel : Nat) (g : gm_T) (s : cnd), i + d = m0 → d < fuel → exc W_ar J_ar g1 g → isAr g s → bS s → rn g1 (ca_solveThree_l2 n fuel (i : Int) g) s (fun c => ∃ i2, i ≤ i2 ∧ i2 < m0 ∧ ∃ j, 0 ≤ j ∧ j < m1 ∧ cd3 g0 A B C (pk1 i2) (pl j) c) := by
  intro d
  induction d with
  | zero =>
    intro k fuel g s hd hf x h hs
    obtain ⟨f, rfl⟩ : ∃ f, fuel = f + 1 := ⟨fuel - 1, by omega⟩
    unfold ca_solveThree_l2
    rw [x.1 30 0 rfl, h300, jg_pos ⟨⟨by omega, by omega⟩, by omega, by omega⟩, if_neg (by omega)]
    exact ⟨g, s, rfl, x, h, hs, adds_no s (fun c ⟨j, q1, q2, _⟩ => by omega)⟩
  | succ d ih =>
    intro k fuel g s hd hf x h hs
    obtain ⟨f, rfl⟩ : ∃ f, fuel = f + 1 := ⟨fuel - 1, by omega⟩
    obtain ⟨j1, j2⟩ := hJ0 k (by omega)
    obtain ⟨g2, s2, r1, r2, r3, r4, r5⟩ := rn_l14 I hA hB hC h3 (i := k) (by omega) hm h30 j2 j1 hJ m1 0 fz g s (by omega) (Nat.lt_of_le_of_lt hm (fz_gt rfl)) x h hs
    obtain ⟨g4, s4, u1, u2, u3, u4, u5⟩ := ih (k + 1) f g2 s2 (by omega) (by omega) r2 r3 r4
    unfold ca_solveThree_l2
    rw [x.1 30 0 rfl, h300, jg_pos ⟨⟨by omega, by omega⟩, by omega, by omega⟩, if_pos (by omega), show ca_solveThree_l14 n (k : Int) fz 0 g = _ from r1, jb1_some]
    exact ⟨g4, s4, u1, u2, u3, u4, adds_st (T := fun i2 c => ∃ j, 0 ≤ j ∧ j < m1 ∧ cd3 g0 A B C (pk1 i2) (pl j) c) (by omega) r5 u5⟩
theorem rn_l87 {n : Nat} {g0 : gm_T} (I : I_fit n g0) {A B C : Nat} (hA : A < n) (hB : B < n) (hC : C < n) {g1 : gm_T} (h3 : isT3 g0 A B C g1) {m0 : Nat} (hm0 : m0 ≤ 64) (h300 : gm_I g1 30 0 = (m0 : Int)) {r : plc} (hr : bpl 40 r) {pk1 : Nat → plc} (hJ0 : ∀ j, j < m0 → gm_J g1 28 j = pp (pk1 j) ∧ bpl 40 (pk1 j)) {c40 : Int} {c42 : Int64} : ∀ (d k fuel : Nat) (g : gm_T) (s : cnd), k + d = m0 → d < fuel → exc W_ar J_ar g1 g → isAr g s → bS s → rn g1 (ca_solveThree_l87 n c40 (pp r) c42 fuel (k : Int) g) s (fun c => ∃ j, k ≤ j ∧ j < m0 ∧ cd3 g0 A B C (pk1 j) (pon (pk1 j) r) c) := by
  intro d
  induction d with
  | zero =>
    intro k fuel g s hd hf x h hs
    obtain ⟨f, rfl⟩ : ∃ f, fuel = f + 1 := ⟨fuel - 1, by omega⟩
    unfold ca_solveThree_l87
    rw [x.1 30 0 rfl, h300, jg_pos ⟨⟨by omega, by omega⟩, by omega, by omega⟩, if_neg (by omega)]
    exact ⟨g, s, rfl, x, h, hs, adds_no s (fun c ⟨j, q1, q2, _⟩ => by omega)⟩
  | succ d ih =>
    intro k fuel g s hd hf x h hs
    obtain ⟨f, rfl⟩ : ∃ f, fuel = f + 1 := ⟨fuel - 1, by omega⟩
    obtain ⟨j1, j2⟩ := hJ0 k (by omega)
    have ho : bpl (40 + 40) (pon (pk1 k) r) := bpl_on j2 hr
    obtain ⟨g2, s2, r1, r2, r3, r4, r5⟩ := ca_consider_eq I hA hB hC x h3 h hs (bpl_mono j2 (by decide)) (bpl_mono ho (by decide))
    obtain ⟨g4, s4, u1, u2, u3, u4, u5⟩ := ih (k + 1) f g2 s2 (by omega) (by omega) r2 r3 r4
    unfold ca_solveThree_l87
    rw [x.1 30 0 rfl, h300, jg_pos ⟨⟨by omega, by omega⟩, by omega, by omega⟩, if_pos (by omega), jg_pos (by omega), Int.toNat_natCast, x.2 28 k rfl, j1, cc_onto_eq j2 hr (by decide) (by decide) (by decide), jb1_some, r1, jb1_some]
    exact ⟨g4, s4, u1, u2, u3, u4, adds_st (T := fun j => cd3 g0 A B C (pk1 j) (pon (pk1 j) r)) (by omega) r5 u5⟩
theorem rn_l129 {n : Nat} {g0 : gm_T} (I : I_fit n g0) {A B C : Nat} (hA : A < n) (hB : B < n) (hC : C < n) {g1 : gm_T} (h3 : isT3 g0 A B C g1) {m1 : Nat} (hm : m1 ≤ 64) (h30 : gm_I g1 30 1 = (m1 : Int)) {r : plc} (hr : bpl 40 r) {pl : Nat → plc} (hJ : ∀ j, j < m1 → gm_J g1 28 (64 * 1 + j) = pp (pl j) ∧ bpl 40 (pl j)) {c56 : Int} : ∀ (d k fuel : Nat) (g : gm_T) (s : cnd), k + d = m1 → d < fuel → exc W_ar J_ar g1 g → isAr g s → bS s → rn g1 (ca_solveThree_l129 n c56 (pp r) fuel (k : Int) g) s (fun c => ∃ j, k ≤ j ∧ j < m1 ∧ cd3 g0 A B C (pon (pl j) r) (pl j) c) := by
  intro d
  induction d with
  | zero =>
    intro k fuel g s hd hf x h hs
    obtain ⟨f, rfl⟩ : ∃ f, fuel = f + 1 := ⟨fuel - 1, by omega⟩
    unfold ca_solveThree_l129
    rw [x.1 30 1 rfl, h30, jg_pos ⟨⟨by omega, by omega⟩, by omega, by omega⟩, if_neg (by omega)]
    exact ⟨g, s, rfl, x, h, hs, adds_no s (fun c ⟨j, q1, q2, _⟩ => by omega)⟩
  | succ d ih =>
    intro k fuel g s hd hf x h hs
    obtain ⟨f, rfl⟩ : ∃ f, fuel = f + 1 := ⟨fuel - 1, by omega⟩
    obtain ⟨j1, j2⟩ := hJ k (by omega)
    have ho : bpl (40 + 40) (pon (pl k) r) := bpl_on j2 hr
    obtain ⟨g2, s2, r1, r2, r3, r4, r5⟩ := ca_consider_eq I hA hB hC x h3 h hs (bpl_mono ho (by decide)) (bpl_mono j2 (by decide))
    obtain ⟨g4, s4, u1, u2, u3, u4, u5⟩ := ih (k + 1) f g2 s2 (by omega) (by omega) r2 r3 r4
    unfold ca_solveThree_l129
    rw [x.1 30 1 rfl, h30, jg_pos ⟨⟨by omega, by omega⟩, by omega, by omega⟩, if_pos (by omega), jg_pos (by omega), jl_eq, show (64 + (k : Int)).toNat = 64 * 1 + k by omega, x.2 28 _ rfl, j1, cc_onto_eq j2 hr (by decide) (by decide) (by decide), jb1_some, r1, jb1_some]
    exact ⟨g4, s4, u1, u2, u3, u4, adds_st (T := fun j => cd3 g0 A B C (pon (pl j) r) (pl j)) (by omega) r5 u5⟩
theorem rn_l57 {n : Nat} {g0 : gm_T} (I : I_fit n g0) {A B C : Nat} (hA : A < n) (hB : B < n) (hC : C < n) {g1 : gm_T} (h3 : isT3 g0 A B C g1) {m0 m1 m2 : Nat} (hm0 : m0 ≤ 64) (hm : m1 ≤ 64) (hm2 : m2 ≤ 64) (h300 : gm_I g1 30 0 = (m0 : Int)) (h30 : gm_I g1 30 1 = (m1 : Int)) (h302 : gm_I g1 30 2 = (m2 : Int)) {pk1 pl pr : Nat → plc} (hJ0 : ∀ j, j < m0 → gm_J g1 28 j = pp (pk1 j) ∧ bpl 40 (pk1 j)) (hJ : ∀ j, j < m1 → gm_J g1 28 (64 * 1 + j) = pp (pl j) ∧ bpl 40 (pl j)) (hJ2 : ∀ j, j < m2 → gm_J g1 28 (64 * 2 + j) = pp (pr j) ∧ bpl 40 (pr j)) : ∀ (d i fuel : Nat) (g : gm_T) (s : cnd), i + d = m2 → d < fuel → exc W_ar J_ar g1 g → isAr g s → bS s → rn g1 (ca_solveThree_l57 n fuel (i : Int) g) s (fun c => ∃ i2, i ≤ i2 ∧ i2 < m2 ∧ ((∃ j, 0 ≤ j ∧ j < m0 ∧ cd3 g0 A B C (pk1 j) (pon (pk1 j) (pr i2)) c) ∨ ∃ j, 0 ≤ j ∧ j < m1 ∧ cd3 g0 A B C (pon (pl j) (pin (pr i2))) (pl j) c)) := by
  intro d
  induction d with
  | zero =>
    intro k fuel g s hd hf x h hs
    obtain ⟨f, rfl⟩ : ∃ f, fuel = f + 1 := ⟨fuel - 1, by omega⟩
    unfold ca_solveThree_l57
    rw [x.1 30 2 rfl, h302, jg_pos ⟨⟨by omega, by omega⟩, by omega, by omega⟩, if_neg (by omega)]
    exact ⟨g, s, rfl, x, h, hs, adds_no s (fun c ⟨j, q1, q2, _⟩ => by omega)⟩
  | succ d ih =>
    intro k fuel g s hd hf x h hs
    obtain ⟨f, rfl⟩ : ∃ f, fuel = f + 1 := ⟨fuel - 1, by omega⟩
    obtain ⟨j1, j2⟩ := hJ2 k (by omega)
    obtain ⟨g2, s2, r1, r2, r3, r4, r5⟩ := rn_l87 I hA hB hC h3 hm0 h300 j2 hJ0 (c40 := (k : Int)) (c42 := pp (pin (pr k))) m0 0 fz g s (by omega) (Nat.lt_of_le_of_lt hm0 (fz_gt rfl)) x h hs
    obtain ⟨g3, s3, v1, v2, v3, v4, v5⟩ := rn_l129 I hA hB hC h3 hm h30 (bpl_in j2) hJ (c56 := (k : Int)) m1 0 fz g2 s2 (by omega) (Nat.lt_of_le_of_lt hm (fz_gt rfl)) r2 r3 r4
    obtain ⟨g4, s4, u1, u2, u3, u4, u5⟩ := ih (k + 1) f g3 s3 (by omega) (by omega) v2 v3 v4
    unfold ca_solveThree_l57
    rw [x.1 30 2 rfl, h302, jg_pos ⟨⟨by omega, by omega⟩, by omega, by omega⟩, if_pos (by omega), jg_pos (by omega), jl_eq, show (128 + (k : Int)).toNat = 64 * 2 + k by omega, x.2 28 _ rfl, j1, cc_inverse_eq j2 (by decide), jb1_some, show ca_solveThree_l87 n (k : Int) (pp (pr k)) (pp (pin (pr k))) fz 0 g = _ from r1, jb1_some, show ca_solveThree_l129 n (k : Int) (pp (pin (pr k))) fz 0 g2 = _ from v1, jb1_some]
    exact ⟨g4, s4, u1, u2, u3, u4, adds_st (T := fun i2 c => (∃ j, 0 ≤ j ∧ j < m0 ∧ cd3 g0 A B C (pk1 j) (pon (pk1 j) (pr i2)) c) ∨ ∃ j, 0 ≤ j ∧ j < m1 ∧ cd3 g0 A B C (pon (pl j) (pin (pr i2))) (pl j) c) (by omega) (adds_tr r5 v5 (fun c => Iff.rfl)) u5⟩
/-- all candidates of three bits -/
def cAll (g : gm_T) (A B C : Nat) (c : cnd) : Prop := (∃ p q, FP g A B p ∧ FP g A C q ∧ cd3 g A B C p q c) ∨ (∃ p r, FP g A B p ∧ FP g B C r ∧ cd3 g A B C p (pon p r) c) ∨ ∃ q r, FP g A C q ∧ FP g C B r ∧ cd3 g A B C (pon q r) q c
theorem ca_three_eq {n : Nat} {g0 : gm_T} (I : I_fit n g0) {A B C : Nat} (hA : A < n) (hB : B < n) (hC : C < n) {g1 : gm_T} (h3 : isT3 g0 A B C g1) {s : cnd} (h : isAr g1 s) (hs : bS s) : rn g1 (ca_solveThree n g1) s (cAll g0 A B C) := by
  obtain ⟨-, -, ⟨m0, p1, a1, a2, a3, a4⟩, ⟨m1, p2, b1, b2, b3, b4⟩, m2, p3, d1, d2, d3, d4⟩ := id h3
  have ha : ∀ j, j < m0 → gm_J g1 28 j = pp (p1 j) ∧ bpl 40 (p1 j) := fun j hj => ⟨by
    have := (a3 j hj).1
    rw [show 64 * 0 + j = j by omega] at this
    exact this, FP_b I.2.1 hA hB (a3 j hj).2.2⟩
  have hb : ∀ j, j < m1 → gm_J g1 28 (64 * 1 + j) = pp (p2 j) ∧ bpl 40 (p2 j) := fun j hj => ⟨(b3 j hj).1, FP_b I.2.1 hA hC (b3 j hj).2.2⟩
  have hd : ∀ j, j < m2 → gm_J g1 28 (64 * 2 + j) = pp (p3 j) ∧ bpl 40 (p3 j) := fun j hj => ⟨(d3 j hj).1, FP_b I.2.1 hB hC (d3 j hj).2.2⟩
  obtain ⟨g2, s2, r1, r2, r3, r4, r5⟩ := rn_l2 I hA hB hC h3 a1 b1 a2 b2 ha hb m0 0 fz g1 s (by omega) (Nat.lt_of_le_of_lt a1 (fz_gt rfl)) exc_rf h hs
  obtain ⟨g3, s3, u1, u2, u3, u4, u5⟩ := rn_l57 I hA hB hC h3 a1 b1 d1 a2 b2 d2 ha hb hd m2 0 fz g2 s2 (by omega) (Nat.lt_of_le_of_lt d1 (fz_gt rfl)) r2 r3 r4
  refine ⟨g3, s3, ?_, u2, u3, u4, adds_tr r5 u5 (fun c => ?_)⟩
  · unfold ca_solveThree
    rw [show ca_solveThree_l2 n fz 0 g1 = _ from r1, jb1_some, show ca_solveThree_l57 n fz 0 g2 = _ from u1, jb1_some]
  · unfold cAll
    constructor
    · rintro (⟨p, q, h1, h2, h3⟩ | ⟨p, r, h1, h2, h3⟩ | ⟨q, r, h1, h2, h3⟩)
      · obtain ⟨i, i1, i2⟩ := a4 p h1
        obtain ⟨j, j1, j2⟩ := b4 q h2
        exact Or.inl ⟨i, Nat.zero_le i, i1, j, Nat.zero_le j, j1, by rw [i2, j2]; exact h3⟩
      · obtain ⟨i, i1, i2⟩ := a4 p h1
        obtain ⟨j, j1, j2⟩ := d4 r h2
        exact Or.inr ⟨j, Nat.zero_le j, j1, Or.inl ⟨i, Nat.zero_le i, i1, by rw [i2, j2]; exact h3⟩⟩
      · obtain ⟨i, i1, i2⟩ := b4 q h1
        obtain ⟨r2, k1, k2⟩ := FP_sym2.mp h2
        obtain ⟨j, j1, j2⟩ := d4 r2 k1
        exact Or.inr ⟨j, Nat.zero_le j, j1, Or.inr ⟨i, Nat.zero_le i, i1, by rw [i2, j2, ← k2]; exact h3⟩⟩
    · rintro (⟨i, -, i1, j, -, j1, h3⟩ | ⟨j, -, j1, ⟨i, -, i1, h3⟩ | ⟨i, -, i1, h3⟩⟩)
      · exact Or.inl ⟨_, _, (a3 i i1).2.2, (b3 j j1).2.2, h3⟩
      · exact Or.inr (Or.inl ⟨_, _, (a3 i i1).2.2, (d3 j j1).2.2, h3⟩)
      · exact Or.inr (Or.inr ⟨_, _, (b3 i i1).2.2, FP_sym (d3 j j1).2.2, h3⟩)
/-- a candidate of two bits -/
def cd2 (g : gm_T) (A B : Nat) (p : plc) (c : cnd) : Prop := c = (wt g A B p, p, p0)
theorem rn_two {n : Nat} {g0 : gm_T} (I : I_fit n g0) {A B : Nat} (hA : A < n) (hB : B < n) {g1 : gm_T} {m : Nat} {pl : Nat → plc} (hm : m ≤ 64) (h30 : gm_I g1 30 0 = (m : Int)) (hJ : ∀ j, j < m → gm_J g1 28 j = pp (pl j) ∧ gm_I g1 29 j = wt g0 A B (pl j) ∧ bpl 40 (pl j)) : ∀ (d k fuel : Nat) (g : gm_T) (s : cnd), k + d = m → d < fuel → exc W_ar J_ar g1 g → isAr g s → bS s → rn g1 (ca_solveTwo_l2 fuel (k : Int) g) s (fun c => ∃ j, k ≤ j ∧ j < m ∧ cd2 g0 A B (pl j) c) := by
  intro d
  induction d with
  | zero =>
    intro k fuel g s hd hf x h hs
    obtain ⟨f, rfl⟩ : ∃ f, fuel = f + 1 := ⟨fuel - 1, by omega⟩
    unfold ca_solveTwo_l2
    rw [x.1 30 0 rfl, h30, jg_pos ⟨⟨by omega, by omega⟩, by omega, by omega⟩, if_neg (by omega)]
    exact ⟨g, s, rfl, x, h, hs, adds_no s (fun c ⟨j, q1, q2, _⟩ => by omega)⟩
  | succ d ih =>
    intro k fuel g s hd hf x h hs
    obtain ⟨f, rfl⟩ : ∃ f, fuel = f + 1 := ⟨fuel - 1, by omega⟩
    obtain ⟨j1, j2, j3⟩ := hJ k (by omega)
    have w1 := wt_b I hA hB (pl k)
    have hb2 : bpl 200 (pl k) := bpl_mono j3 (by decide)
    obtain ⟨g2, r1, r2, r3⟩ := ca_offer_eq h hs (v := wt g0 A B (pl k)) (by omega) hb2 b_0
    have hbs : bS (wt g0 A B (pl k), pl k, p0) := ⟨⟨by dsimp only; omega, by dsimp only; omega⟩, hb2, b_0⟩
    obtain ⟨g4, s4, u1, u2, u3, u4, u5⟩ := ih (k + 1) f g2 _ (by omega) (by omega) (exc_tr x r2) r3 (bS_u hbs hs)
    unfold ca_solveTwo_l2
    rw [x.1 30 0 rfl, h30, jg_pos ⟨⟨by omega, by omega⟩, by omega, by omega⟩, if_pos (by omega), jg_pos (by omega), Int.toNat_natCast, x.2 28 k rfl, x.1 29 k rfl, j1, j2, ← p0_here, r1, jb1_some]
    exact ⟨g4, s4, u1, u2, u3, u4, adds_st (T := fun j => cd2 g0 A B (pl j)) (by omega) (adds_1 s w1.1) u5⟩
def cTwo (g : gm_T) (A B : Nat) (c : cnd) : Prop := ∃ p, FP g A B p ∧ cd2 g A B p c
theorem ca_two_eq {n : Nat} {g0 : gm_T} (I : I_fit n g0) {A B : Nat} (hA : A < n) (hB : B < n) {g1 : gm_T} (hL : isL g0 0 A B g1) {s : cnd} (h : isAr g1 s) (hs : bS s) : rn g1 (ca_solveTwo g1) s (cTwo g0 A B) := by
  obtain ⟨m0, p1, a1, a2, a3, a4⟩ := hL
  have ha : ∀ j, j < m0 → gm_J g1 28 j = pp (p1 j) ∧ gm_I g1 29 j = wt g0 A B (p1 j) ∧ bpl 40 (p1 j) := fun j hj => by
    obtain ⟨q1, q2, q3⟩ := a3 j hj
    rw [show 64 * 0 + j = j by omega] at q1 q2
    exact ⟨q1, q2, FP_b I.2.1 hA hB q3⟩
  obtain ⟨g2, s2, r1, r2, r3, r4, r5⟩ := rn_two I hA hB a1 a2 ha m0 0 fz g1 s (by omega) (Nat.lt_of_le_of_lt a1 (fz_gt rfl)) exc_rf h hs
  refine ⟨g2, s2, ?_, r2, r3, r4, adds_c (fun c => ?_) r5⟩
  · unfold ca_solveTwo
    rw [show ca_solveTwo_l2 fz 0 g1 = _ from r1, jb1_some]
  · constructor
    · rintro ⟨j, -, j1, h1⟩
      exact ⟨_, (a3 j j1).2.2, h1⟩
    · rintro ⟨p, h1, h2⟩
      obtain ⟨j, j1, j2⟩ := a4 p h1
      exact ⟨j, Nat.zero_le j, j1, by rw [j2]; exact h2⟩
