/-! Clashes told: the class's tell, the reference's; frames for moves. -/
def kl (a k : Nat) : Bool := (a == 22 && (k == 5 || k == 6 || k == 7 || k == 8)) || a == 24 || a == 75 || (a == 44 && (k == 35 || k == 36 || k == 37 || k == 38))
def wk (a k : Nat) : Bool := wd a k || kl a k
def jk (a k : Nat) : Bool := scrJ a k || a == 23
def keepE (g : gm_T) : gm_T := (fun a k => if wk a k = true then 0 else g.1 a k, fun a k => if jk a k = true then 0 else g.2 a k)
theorem wk_k {g g2 : gm_T} (h : exc wk jk g g2) : keepE g2 = keepE g := by
  unfold keepE
  refine Prod.ext ?_ ?_
  · funext a k
    dsimp only
    split
    · rfl
    · rename_i q
      exact h.1 a k (by
        cases hq : wk a k with
        | false => rfl
        | true => exact absurd hq q)
  · funext a k
    dsimp only
    split
    · rfl
    · rename_i q
      exact h.2 a k (by
        cases hq : jk a k with
        | false => rfl
        | true => exact absurd hq q)
theorem wk_wd {g g2 : gm_T} (h : exc wd scrJ g g2) : exc wk jk g g2 := exc_mono h (fun a k q => by unfold wk; rw [q]; rfl) (fun a k q => by unfold jk; rw [q]; rfl)
theorem wk_scr {g g2 : gm_T} (h : exc scr scrJ g g2) : exc wk jk g g2 := wk_wd (wd_scr h)
theorem keepF_keepE (g : gm_T) : keepF (keepE g) = keepF g := by
  rw [← keepF_keepB (keepE g), ← keepF_keepB g]
  have hc : ∀ a k, R_fit a k = true → kl a k = false := by
    intro a k q
    cases h : kl a k with
    | false => rfl
    | true =>
      exfalso
      simp only [R_fit, kl, Bool.or_eq_true, Bool.and_eq_true, beq_iff_eq, Nat.ble_eq] at q h
      omega
  unfold keepF keepB keepE
  refine Prod.ext ?_ ?_
  · funext a k
    dsimp only
    cases q : R_fit a k with
    | false => rfl
    | true =>
      unfold wk
      rw [hc a k q, Bool.or_false]
      cases wd a k <;> rfl
  · funext a k
    dsimp only
    cases q : Nat.ble 111 a with
    | false => rfl
    | true =>
      have hz : (a == 23) = false := by
        cases h : a == 23 with
        | false => rfl
        | true =>
          exfalso
          simp only [beq_iff_eq, Nat.ble_eq] at q h
          omega
      unfold jk
      rw [hz, Bool.or_false]
      cases scrJ a k <;> rfl
theorem keepF_E {g g2 : gm_T} (e : keepE g2 = keepE g) : keepF g2 = keepF g := by
  rw [← keepF_keepE g2, e, keepF_keepE]
theorem V_jn_E {n : Nat} {g g2 : gm_T} (e : keepE g2 = keepE g) (h : V_jn n g) : V_jn n g2 := by
  have h1 : V_jn n (keepE g) := h
  rw [← e] at h1
  exact h1
theorem V_grp_E {n : Nat} {g g2 : gm_T} (e : keepE g2 = keepE g) (h : V_grp n g) : V_grp n g2 := by
  have h1 : V_grp n (keepE g) := h
  rw [← e] at h1
  exact h1
theorem IW_E {n : Nat} {g g2 : gm_T} {P P2 : Nat → plc} (e : keepE g2 = keepE g) (h : IW n g P) (hJ : ∀ b, b < 30 → gm_J g2 23 b = pp (P2 b)) (h0 : ∀ b, n ≤ b → P2 b = p0) (hb : ∀ b, bpl (Kb g) (P2 b)) (hj : ∀ j, j < jm g → jE g j = true → P2 (jB g j) = pon (P2 (jA g j)) (jpl g j)) (hv : isV n g2 P2) : IW n g2 P2 := by
  have k : (∀ b, bpl (Kb (keepE g)) (P2 b)) ∧ (∀ j, j < jm (keepE g) → jE (keepE g) j = true → P2 (jB (keepE g) j) = pon (P2 (jA (keepE g) j)) (jpl (keepE g) j)) := ⟨hb, hj⟩
  rw [← e] at k
  exact ⟨I_fit_tr (keepF_E e) h.1, V_jn_E e h.2.1, V_grp_E e h.2.2.1, hJ, h0, k.1, k.2, hv.1, hv.2⟩
/-- what changes when a clash is told -/
def kw (a k : Nat) : Bool := scr a k || kl a k
theorem kw_wk {g g2 : gm_T} (h : exc kw scrJ g g2) : exc wk jk g g2 := exc_mono h (fun a k q => by
  unfold kw at q
  unfold wk wd
  cases h1 : scr a k with
  | true => rfl
  | false =>
    rw [h1, Bool.false_or] at q
    rw [q, Bool.or_true]) (fun a k q => by unfold jk; rw [q]; rfl)
theorem kw_scr {g g2 : gm_T} (h : exc scr scrJ g g2) : exc kw scrJ g g2 := exc_mono h (fun a k q => by unfold kw; rw [q]; rfl) (fun _ _ q => q)
theorem IW_kw {n : Nat} {g g2 : gm_T} {P : Nat → plc} (h : IW n g P) (x : exc kw scrJ g g2) : IW n g2 P := by
  have e := wk_k (kw_wk x)
  have y : ∀ a k, (a = 70 ∨ a = 71 ∨ a = 72 ∨ a = 73 ∨ a = 74) → gm_I g2 a k = gm_I g a k := by
    rintro a k (rfl | rfl | rfl | rfl | rfl)
    · exact x.1 70 k rfl
    · exact x.1 71 k rfl
    · exact x.1 72 k rfl
    · exact x.1 73 k rfl
    · exact x.1 74 k rfl
  obtain ⟨w1, w2, w3, w4, w5, w6⟩ := id h.2.2.2
  refine IW_E e h (fun b hb => by rw [x.2 23 b rfl]; exact w1 b hb) w2 w3 w4 ⟨?_, fun b hb => ?_⟩
  · rw [x.1 22 3 rfl, x.1 22 4 rfl]
    obtain ⟨w, u, k1, k2, k3, k4, k5⟩ := w5
    refine ⟨w, u, k1, k2, k3, k4, fun b => ?_⟩
    unfold hw hp
    rw [y 70 b (Or.inl rfl), y 71 b (Or.inr (Or.inl rfl))]
    exact k5 b
  · unfold hw hp
    rw [y 70 b (Or.inl rfl), y 71 b (Or.inr (Or.inl rfl)), y 72 b (Or.inr (Or.inr (Or.inl rfl))), y 73 b (Or.inr (Or.inr (Or.inr (Or.inl rfl)))), y 74 b (Or.inr (Or.inr (Or.inr (Or.inr rfl))))]
    exact w6 b hb
def km (a k : Nat) : Bool := scr a k || W_cl a k
theorem km_scr {g g2 : gm_T} (h : exc scr scrJ g g2) : exc km scrJ g g2 := exc_mono h (fun a k q => by unfold km; rw [q]; rfl) (fun _ _ q => q)
theorem km_kw {g g2 : gm_T} (h : exc km scrJ g g2) : exc kw scrJ g g2 := exc_mono h (fun a k q => by
  unfold km at q
  cases h1 : scr a k with
  | true => unfold kw; rw [h1]; rfl
  | false =>
    rw [h1, Bool.false_or] at q
    simp only [W_cl, Bool.or_eq_true, Bool.and_eq_true, beq_iff_eq] at q
    rcases q with rfl | ⟨rfl, ((rfl | rfl) | rfl) | rfl⟩ <;> rfl) (fun _ _ q => q)
-- the class tells
def W_22 (a k : Nat) : Bool := a == 22 && (k == 5 || k == 6 || k == 7 || k == 8)
theorem cv_tell_eq (g : gm_T) (k x y : Int) : ∃ g2, cv_tell g k x y = some (k, g2) ∧ gm_I g2 22 5 = k ∧ gm_I g2 22 6 = x ∧ gm_I g2 22 7 = y ∧ gm_I g2 22 8 = 0 ∧ exc W_22 nob g g2 := ⟨_, rfl, by rw [gI_ne (by decide), gI_ne (by decide), gI_ne (by decide), gI_eq], by rw [gI_ne (by decide), gI_ne (by decide), gI_eq], by rw [gI_ne (by decide), gI_eq], gI_eq, exc_wI (exc_wI (exc_wI (exc_wI exc_rf rfl) rfl) rfl) rfl⟩
def W_tw (a k : Nat) : Bool := a == 20 || a == 21 || a == 24 || (a == 22 && k == 8)
theorem tw_kw {g g2 : gm_T} (h : exc W_tw nob g g2) : exc kw scrJ g g2 := exc_mono h (fun a k q => by
  simp only [W_tw, Bool.or_eq_true, Bool.and_eq_true, beq_iff_eq] at q
  rcases q with ((rfl | rfl) | rfl) | ⟨rfl, rfl⟩ <;> rfl) (fun _ _ q => by cases q)
theorem w22_kw {g g2 : gm_T} (h : exc W_22 nob g g2) : exc kw scrJ g g2 := exc_mono h (fun a k q => by
  simp only [W_22, Bool.or_eq_true, Bool.and_eq_true, beq_iff_eq] at q
  rcases q with ⟨rfl, ((rfl | rfl) | rfl) | rfl⟩ <;> rfl) (fun _ _ q => by cases q)
theorem cv_way_lp {g : gm_T} {d u : Nat} (hd : d ≤ 30) (hu : u + d ≤ 60) (h8 : gm_I g 22 8 = (u : Int)) : ∀ (e i fuel : Nat) (g1 : gm_T), i + e = d → e < fuel → exc (fun a k => a == 24 || (a == 22 && k == 8)) nob g g1 → gm_I g1 22 8 = ((u + i : Nat) : Int) → (∀ j, j < u → gm_I g1 24 j = gm_I g 24 j) → (∀ j, j < i → gm_I g1 24 (u + j) = gm_I g 21 j) → ∃ g2, cv_tellWay_l34 (d : Int) fuel (i : Int) g1 = some g2 ∧ exc (fun a k => a == 24 || (a == 22 && k == 8)) nob g g2 ∧ gm_I g2 22 8 = ((u + d : Nat) : Int) ∧ (∀ j, j < u → gm_I g2 24 j = gm_I g 24 j) ∧ ∀ j, j < d → gm_I g2 24 (u + j) = gm_I g 21 j := by
  intro e
  induction e with
  | zero =>
    intro i fuel g1 he hf hx h1 h2 h3
    obtain ⟨f, rfl⟩ : ∃ f, fuel = f + 1 := ⟨fuel - 1, by omega⟩
    have hk : i = d := by omega
    subst hk
    unfold cv_tellWay_l34
    rw [jg_pos ⟨rgn (by omega), rgn (by omega)⟩, if_neg (by omega)]
    exact ⟨g1, rfl, hx, h1, h2, h3⟩
  | succ e ih =>
    intro i fuel g1 he hf hx h1 h2 h3
    obtain ⟨f, rfl⟩ : ∃ f, fuel = f + 1 := ⟨fuel - 1, by omega⟩
    unfold cv_tellWay_l34
    rw [jg_pos ⟨rgn (by omega), rgn (by omega)⟩, if_pos (by omega), jg_pos (by omega), h1, jg_pos (by omega)]
    simp only [jl_eq, Int.toNat_natCast, gI_oth (show (22 : Nat) ≠ 24 by decide), h1]
    refine ih (i + 1) f _ (by omega) (by omega) (exc_wI (exc_wI hx rfl) rfl) (by rw [gI_eq]; omega) (fun j hj => ?_) (fun j hj => ?_)
    · rw [gI_oth (by decide), gI_ne (by omega)]
      exact h2 j hj
    · rw [gI_oth (by decide)]
      by_cases z : j = i
      · rw [z, gI_eq, hx.1 21 i rfl]
      · rw [gI_ne (by omega)]
        exact h3 j (by omega)
/-- how far two bits of a group are, and the way -/
theorem cn_far {n : Nat} {g : gm_T} (V : V_jm n g) {a b : Nat} (ha : a < n) (h : cn g a b) : ∃ d, d < n ∧ gbf (jA g) (jB g) (jE g) (jm g) a n b = (d : Int) := by
  rcases gbf_end (E := jE g) (jendm V).1 ha (r := n) (by omega) b with ⟨d, h1, h2, -⟩ | ⟨-, h2⟩
  · exact ⟨d, h1, h2⟩
  · exact absurd h h2
theorem cv_tellWay_eq {n : Nat} {g : gm_T} (h30 : n ≤ 30) (V : V_jn n g) {a b d u : Nat} (ha : a < n) (hb : b < n) (hd : gbf (jA g) (jB g) (jE g) (jm g) b n a = (d : Int)) (hdn : d < n) (hu : u + d ≤ 60) (h8 : gm_I g 22 8 = (u : Int)) : ∃ g2, cv_tellWay g (a : Int) (b : Int) = some g2 ∧ exc W_tw nob g g2 ∧ gm_I g2 22 8 = ((u + d : Nat) : Int) ∧ (∀ j, j < u → gm_I g2 24 j = gm_I g 24 j) ∧ ∀ j, j < d → gm_I g2 24 (u + j) = ((gj (jA g) (jB g) (jE g) (jm g) (gbf (jA g) (jB g) (jE g) (jm g) b n) a j : Nat) : Int) := by
  obtain ⟨T, t1, t2⟩ := isM_jE V
  obtain ⟨g1, e1, e2, e3⟩ := cj_measure_eq h30 V t2 hb
  have k1 := keepA_scr (scr_20 e2)
  have V1 := V_jn_tr k1 V
  have t2' : isM g1 T (jE g) := ⟨t2.1, fun j hj => t2.2 j (by rw [← a_jm k1]; exact hj)⟩
  obtain ⟨g2, f1, f2, f3⟩ := cj_walk_eq h30 V1 (E := jE g) t2' (a := b) (b := a) (d := d) hb ha (by
    intro c hc
    rw [a_jA k1, a_jB k1, a_jm k1]
    exact e3 c (by omega)) (by rw [a_jA k1, a_jB k1, a_jm k1]; exact hd)
  rw [a_jA k1, a_jB k1, a_jm k1] at f3
  have h82 : gm_I g2 22 8 = (u : Int) := by rw [f2.1 22 8 rfl, e2.1 22 8 rfl]; exact h8
  obtain ⟨g3, l1, l2, l3, l4, l5⟩ := cv_way_lp (g := g2) (d := d) (u := u) (by omega) hu h82 d 0 fz g2 (by omega) (Nat.lt_of_le_of_lt (show d ≤ 30 by omega) (fz_gt rfl)) exc_rf (by rw [h82]; rfl) (fun _ _ => rfl) (fun j hj => by omega)
  unfold cv_tellWay
  rw [t1, e1, jb1_some, e2.2 14 5 rfl, t1, f1, jb2_some, show cv_tellWay_l34 (d : Int) fz 0 g2 = some g3 from l1, jb1_some]
  refine ⟨g3, rfl, ?_, l3, fun j hj => ?_, fun j hj => ?_⟩
  · refine exc_tr (exc_mono e2 (fun a k q => ?_) (fun _ _ q => q)) (exc_tr (exc_mono f2 (fun a k q => ?_) (fun _ _ q => q)) (exc_mono l2 (fun a k q => ?_) (fun _ _ q => q)))
    · simp only [W_20, beq_iff_eq] at q
      subst q
      rfl
    · simp only [W_21, beq_iff_eq] at q
      subst q
      rfl
    · simp only [Bool.or_eq_true, Bool.and_eq_true, beq_iff_eq] at q
      rcases q with rfl | ⟨rfl, rfl⟩ <;> rfl
  · rw [l4 j hj, f2.1 24 j rfl, e2.1 24 j rfl]
  · rw [l5 j hj, f3 j hj]
/-- all standing bits, as a mask -/
theorem cv_standing_lp {n : Nat} {g : gm_T} {P : Nat → plc} (h : IW n g P) : ∀ (d k fuel S : Nat), k + d = n → d < fuel → S < 2 ^ k → (∀ c, S.testBit c = true ↔ c < k ∧ onW n g c) → ∃ S2 : Nat, cv_standing_l4 g fuel (S : Int) (k : Int) = some (S2 : Int) ∧ S2 < 2 ^ n ∧ ∀ c, S2.testBit c = true ↔ c < n ∧ onW n g c := by
  have h30 := h.1.1.2.2
  intro d
  induction d with
  | zero =>
    intro k fuel S hd hf hS hb
    obtain ⟨f, rfl⟩ : ∃ f, fuel = f + 1 := ⟨fuel - 1, by omega⟩
    have hk : k = n := by omega
    subst hk
    unfold cv_standing_l4
    rw [h.1.1.1, jg_pos ⟨rgn (by omega), rgn (by omega)⟩, if_neg (by omega)]
    exact ⟨S, rfl, hS, hb⟩
  | succ d ih =>
    intro k fuel S hd hf hS hb
    obtain ⟨f, rfl⟩ : ∃ f, fuel = f + 1 := ⟨fuel - 1, by omega⟩
    have hS30 : S < 2147483648 := Nat.lt_trans (Nat.lt_of_lt_of_le hS (Nat.pow_le_pow_right (n := 2) (by decide) (show k ≤ 30 by omega))) (by decide)
    have hS1 : S < 2 ^ (k + 1) := Nat.lt_of_lt_of_le hS (Nat.pow_le_pow_right (by decide) (by omega))
    unfold cv_standing_l4
    rw [h.1.1.1, jg_pos ⟨rgn (by omega), rgn (by omega)⟩, if_pos (by omega), cv_stands_eq h (by omega), jb_gd]
    by_cases c1 : onW n g k
    · rw [@if_pos _ (gd _) c1, zSl_1 (by omega), zO_n hS30 (p30 (by omega)), jl_eq]
      refine ih (k + 1) f (S ||| 2 ^ k) (by omega) (by omega) (Nat.or_lt_two_pow hS1 (Nat.pow_lt_pow_right (by decide) (by omega))) (fun c => ?_)
      rw [Nat.testBit_or, Nat.testBit_two_pow, Bool.or_eq_true, decide_eq_true_eq, hb c]
      constructor
      · rintro (z | rfl)
        · exact ⟨by omega, z.2⟩
        · exact ⟨by omega, c1⟩
      · rintro ⟨z1, z2⟩
        by_cases z : c = k
        · exact Or.inr z.symm
        · exact Or.inl ⟨by omega, z2⟩
    · rw [@if_neg _ (gd _) c1]
      refine ih (k + 1) f S (by omega) (by omega) hS1 (fun c => ?_)
      rw [hb c]
      constructor
      · rintro z
        exact ⟨by omega, z.2⟩
      · rintro ⟨z1, z2⟩
        by_cases z : c = k
        · rw [z] at z2
          exact absurd z2 c1
        · exact ⟨by omega, z2⟩
theorem cv_standing_eq {n : Nat} {g : gm_T} {P : Nat → plc} (h : IW n g P) : ∃ S : Nat, cv_standing g = some (S : Int) ∧ S < 2 ^ 30 ∧ ∀ c, S.testBit c = true ↔ c < n ∧ onW n g c := by
  have h30 := h.1.1.2.2
  obtain ⟨S, s1, s2, s3⟩ := cv_standing_lp h n 0 fz 0 (by omega) (Nat.lt_of_le_of_lt h30 (fz_gt rfl)) (by decide) (fun c => by
    rw [Nat.zero_testBit]
    exact ⟨fun z => (by cases z), fun z => (by omega)⟩)
  unfold cv_standing
  rw [show cv_standing_l4 g fz 0 0 = some (S : Int) from s1, jb1_some]
  exact ⟨S, rfl, Nat.lt_of_lt_of_le s2 (Nat.pow_le_pow_right (by decide) h30), s3⟩
/-- attachTo: the clash 5, or the group is carried -/
theorem cv_attachTo_eq {n : Nat} {g : gm_T} {P : Nat → plc} (h : IW n g P) {F O : Nat} (hF : F < 2 ^ 30) (hO : O < 2 ^ 30) {v : plc} (hv : bpl 300000 v) : (∃ i k, LF (hitp g P F O v) n i k ∧ ∃ g2, cv_attachTo n g (F : Int) (pp v) (O : Int) = some (5, g2) ∧ gm_I g2 22 5 = 5 ∧ gm_I g2 22 6 = (i : Int) ∧ gm_I g2 22 7 = (k : Int) ∧ gm_I g2 22 8 = 0 ∧ exc W_22 nob g g2) ∨ ((∀ i k, i < n → k < n → ¬ hitp g P F O v i k) ∧ ∃ g2, cv_attachTo n g (F : Int) (pp v) (O : Int) = some (0, g2) ∧ exc nob (fun a _ => a == 23) g g2 ∧ ∀ b, b < 30 → gm_J g2 23 b = pp (if b < n ∧ F.testBit b = true then pon v (P b) else P b)) := by
  have h30 := h.1.1.2.2
  have hK : Kb g ≤ 147000 := by
    have := (jm_60 h.2.1).1
    unfold Kb
    omega
  have hK0 : 0 ≤ Kb g := by unfold Kb; omega
  unfold cv_attachTo
  rcases cv_firstHit_eq h.1 h.2.2.2.1 h.2.2.2.2.2.1 (by omega) hK0 hF hO hv with ⟨i, k, q1, q2⟩ | ⟨q1, q2⟩
  · left
    refine ⟨i, k, q1, ?_⟩
    have hi := q1.1
    have hk := q1.2.1
    obtain ⟨g2, e1, e2⟩ := cv_tell_eq g 5 (i : Int) (k : Int)
    rw [q2, jb1_some, jg_pos ⟨by omega, by omega⟩, if_neg (by omega), jg_pos (by omega), jg_pos (by omega), show (30 * (i : Int) + (k : Int)) / 30 = (i : Int) by omega, show (30 * (i : Int) + (k : Int)) % 30 = (k : Int) by omega, e1, jb2_some]
    exact ⟨g2, rfl, e2⟩
  · right
    refine ⟨q1, ?_⟩
    obtain ⟨g2, e1, e2, e3⟩ := cv_carry_lp h.1 h.2.2.2.1 h.2.2.2.2.2.1 (by omega) hK0 hF hv n 0 fz g (by omega) (Nat.lt_of_le_of_lt h30 (fz_gt rfl)) exc_rf (fun b hb => by rw [if_neg (by omega)]; exact h.2.2.2.1 b hb)
    unfold cv_carry
    rw [q2, jb1_some, jg_pos (rgk rfl), if_pos (by decide), show cv_carry_l3 (F : Int) (pp v) fz 0 g = some g2 from e1, jb1_some, jb1_some]
    exact ⟨g2, rfl, e2, e3⟩
/-- the placings when a bit is brought to q with its group -/
noncomputable def brg (g : gm_T) (P : Nat → plc) (b : Nat) (q : plc) (c : Nat) : plc := @ite _ (cn g b c) (gd _) (pon q (rel (P b) (P c))) (P c)
/-- pairs that overlap then -/
def hitb (n : Nat) (g : gm_T) (P : Nat → plc) (b : Nat) (q : plc) (i k : Nat) : Prop := cn g b i ∧ ¬ cn g b k ∧ onW n g k ∧ bad g i k (pon q (rel (P b) (P i))) (P k)
theorem cv_bring_eq {n : Nat} {g : gm_T} {P : Nat → plc} (h : IW n g P) {b : Nat} (hb : b < n) {q : plc} (hq : bpl 500 q) : (∃ i k, LF (hitb n g P b q) n i k ∧ ∃ g2, cv_bring n g (b : Int) (pp q) = some (5, g2) ∧ gm_I g2 22 5 = 5 ∧ gm_I g2 22 6 = (i : Int) ∧ gm_I g2 22 7 = (k : Int) ∧ gm_I g2 22 8 = 0 ∧ exc W_22 nob g g2) ∨ ((∀ i k, i < n → k < n → ¬ hitb n g P b q i k) ∧ ∃ g2, cv_bring n g (b : Int) (pp q) = some (0, g2) ∧ exc nob (fun a _ => a == 23) g g2 ∧ ∀ c, c < 30 → gm_J g2 23 c = pp (@ite _ (c < n ∧ cn g b c) (gd _) (pon q (rel (P b) (P c))) (P c))) := by
  have h30 := h.1.1.2.2
  have ok := IW_ok h
  obtain ⟨M, m1, m2⟩ := h.2.2.1 b hb
  obtain ⟨S, s1, s2, s3⟩ := cv_standing_eq h
  have hK : Kb g ≤ 147000 := by
    have := (jm_60 h.2.1).1
    unfold Kb
    omega
  have hK0 : 0 ≤ Kb g := by unfold Kb; omega
  have hPb := h.2.2.2.2.2.1 b
  have hv : bpl 300000 (pon q (pin (P b))) := bpl_mono (bpl_on hq (bpl_in hPb)) (by omega)
  have hmv : ∀ c, pon (pon q (pin (P b))) (P c) = pon q (rel (P b) (P c)) := fun c => by
    rw [pon_assoc hq.1 (pin_okt (ok b))]
    rfl
  have hpair : ∀ i k, i < n → k < n → (hitp g P M (ndf S M) (pon q (pin (P b))) i k ↔ hitb n g P b q i k) := by
    intro i k hi hk
    unfold hitp hitb
    rw [hmv i, m2.2 i, ndf_bit, Bool.and_eq_true, s3 k, Bool.not_eq_true', ← Bool.not_eq_true, m2.2 k]
    constructor
    · rintro ⟨z1, ⟨⟨-, z2⟩, z3⟩, z4⟩
      exact ⟨z1, z3, z2, z4⟩
    · rintro ⟨z1, z3, z2, z4⟩
      exact ⟨z1, ⟨⟨hk, z2⟩, z3⟩, z4⟩
  unfold cv_bring
  rw [jg_pos (by omega), Int.toNat_natCast, m1, jl_eq, h.2.2.2.1 b (by omega), cc_move_eq hPb hq (by omega) hK0 (by decide), jb1_some, s1, jb1_some, zA_not (Nat.lt_trans s2 (by decide))]
  rcases cv_attachTo_eq h m2.1 (Nat.lt_of_le_of_lt (ndf_le S M) s2) hv with ⟨i, k, z1, g2, z2, z3⟩ | ⟨z1, g2, z2, z3, z4⟩
  · rw [z2, jb2_some]
    exact Or.inl ⟨i, k, LF_cong z1 hpair, g2, rfl, z3⟩
  · rw [z2, jb2_some]
    refine Or.inr ⟨fun i k hi hk y => z1 i k hi hk ((hpair i k hi hk).mpr y), g2, rfl, z3, fun c hc => ?_⟩
    rw [z4 c hc]
    by_cases y : c < n ∧ cn g b c
    · rw [if_pos ⟨y.1, (m2.2 c).mpr y.2⟩, @if_pos _ (gd _) y, hmv c]
    · rw [if_neg (fun y2 => y ⟨y2.1, (m2.2 c).mp y2.2⟩), @if_neg _ (gd _) y]
/-- the reference: walls, places, hits -/
theorem md_ap_eq {n : Nat} {g : gm_T} {P : Nat → plc} (h : IWm n g P) {g0 : gm_T} (e0 : keepC g0 = keepC g) (H0 : isGr n g P g0) {b : Nat} (hb : b < n) {q : plc} (hq : bpl 500 q) : ((∀ i k, i < n → k < n → ¬ hitb n g P b q i k) ∧ ∃ g2, (jb1 (md_walls g0) fun (g29 : gm_T) => jb1 (md_places g29 (b : Int) q.1 q.2.1 q.2.2) fun (g30 : gm_T) => jg (0 ≤ (b : Int) ∧ (b : Int) < 30) (jb2 (md_hits g30 (gm_I g30 78 (b : Int).toNat) (-1)) fun (v32 : Int) (g33 : gm_T) => some (v32, g33))) = some (0, g2) ∧ exc scr scrJ g0 g2 ∧ isGr n g P g2) ∨ ∃ i k, LF (hitb n g P b q) n i k ∧ ∃ g2, (jb1 (md_walls g0) fun (g29 : gm_T) => jb1 (md_places g29 (b : Int) q.1 q.2.1 q.2.2) fun (g30 : gm_T) => jg (0 ≤ (b : Int) ∧ (b : Int) < 30) (jb2 (md_hits g30 (gm_I g30 78 (b : Int).toNat) (-1)) fun (v32 : Int) (g33 : gm_T) => some (v32, g33))) = some (-15, g2) ∧ gm_I g2 44 35 = 5 ∧ gm_I g2 44 36 = 0 ∧ gm_I g2 44 37 = (i : Int) ∧ gm_I g2 44 38 = (k : Int) ∧ exc km scrJ g0 g2 := by
  have h30 := h.1.1.2.2
  have ok := IWm_ok h
  have hK : Kb g ≤ 147000 := by
    have := (jm_60m h.2.1).1
    unfold Kb
    omega
  obtain ⟨g1, e1, e2, e3⟩ := md_walls_eq h e0 H0
  have k1 := (keepC_scr (scr_o e2)).trans e0
  have H1 := isGr_o H0 e2
  obtain ⟨g2, f1, f2, f3⟩ := md_places_eq h k1 H1 hb (q := q) hq (by decide) (by decide)
  have k2 := (keepC_scr (scr_o f2)).trans k1
  have H2 := isGr_o H1 f2
  have hrb : rt g b < n := Nat.lt_of_le_of_lt (rt_le g b) hb
  have gOg : ∀ c, c < n → rt g c = rt g b → gO g2 c = pon q (rel (P b) (P c)) := fun c hc z => by rw [f3 c, if_pos ⟨hc, z⟩]
  have gOo : ∀ c, rt g c ≠ rt g b → gO g2 c = gO g1 c := fun c z => by rw [f3 c, if_neg (fun y => z y.2)]
  have g85 : ∀ c, rt g c ≠ rt g b → gm_I g2 85 c = gm_I g1 85 c := fun c z => congrArg (fun p : plc => p.1) (gOo c z)
  have hmov : ∀ c, c < n → rt g c = rt g b → bpl 400000 (pon q (rel (P b) (P c))) := fun c hc z => bpl_mono (bpl_on hq (rel_b h.1 h.2.1 h.2.2.2 hb (rt_iff.mp z.symm))) (by decide)
  have hO : ∀ c, c < n → (rt g c = rt g b → bpl 400000 (gO g2 c)) ∧ (gm_I g2 85 c = -1 ∨ bpl 400000 (gO g2 c)) := by
    intro c hc
    refine ⟨fun z => by rw [gOg c hc z]; exact hmov c hc z, ?_⟩
    by_cases z : rt g c = rt g b
    · right
      rw [gOg c hc z]
      exact hmov c hc z
    · rw [g85 c z, gOo c z]
      by_cases y : onW n g c
      · right
        rw [(e3 c hc).1 y]
        exact bpl_mono (h.2.2.2.2.2.1 c) (by omega)
      · exact Or.inl ((e3 c hc).2 y)
  have h5 := md_hits_eq h k2 H2 (M := 400000) (by decide) (by decide) hrb (but := -1) (rgk rfl) hO
  have hpair : ∀ i k, i < n → k < n → (hitm g (rt g b) (-1) g2 i k ↔ hitb n g P b q i k) := by
    intro i k hi hk
    unfold hitm hitb
    constructor
    · rintro ⟨z1, z2, -, z4, z5⟩
      have hon : onW n g k := by
        apply Classical.byContradiction
        intro y
        exact z4 (by rw [g85 k z2]; exact (e3 k hk).2 y)
      rw [gOg i hi z1, gOo k z2, (e3 k hk).1 hon] at z5
      exact ⟨rt_iff.mp z1.symm, fun y => z2 (rt_iff.mpr y).symm, hon, z5⟩
    · rintro ⟨z1, z2, z3, z4⟩
      have r1 : rt g i = rt g b := (rt_iff.mpr z1).symm
      have r2 : rt g k ≠ rt g b := fun y => z2 (rt_iff.mp y.symm)
      have g85k : gm_I g2 85 k = (P k).1 := by
        rw [g85 k r2]
        exact congrArg (fun p : plc => p.1) ((e3 k hk).1 z3)
      refine ⟨r1, r2, by omega, ?_, ?_⟩
      · rw [g85k]
        have := (ok k).1
        omega
      · rw [gOg i hi r1, gOo k r2, (e3 k hk).1 z3]
        exact z4
  have x2 : exc scr scrJ g0 (gm_wI g2 44 55 0) := exc_wI (exc_tr (scr_o e2) (scr_o f2)) rfl
  rw [e1, jb1_some, f1, jb1_some, jg_pos (by omega), Int.toNat_natCast, (H2 b hb).1]
  rcases h5 with ⟨z1, g3, z2, z3⟩ | ⟨i, k, z1, g3, z2, z3, z4, z5, z6, z7⟩
  · left
    rw [z2, jb2_some]
    exact ⟨fun i k hi hk y => z1 i k hi hk ((hpair i k hi hk).mpr y), g3, rfl, exc_tr x2 (scr_p z3), isGr_p (isGr_w H2 rfl) z3⟩
  · right
    rw [z2, jb2_some]
    refine ⟨i, k, LF_cong z1 hpair, g3, rfl, z3, z4, z5, z6, exc_tr (km_scr x2) (exc_mono z7 (fun a k q => ?_) (fun _ _ q => by cases q))⟩
    simp only [W_p, W_cl, Bool.or_eq_true, Bool.and_eq_true, beq_iff_eq] at q
    rcases q with ⟨rfl, (rfl | rfl) | rfl⟩ | rfl | ⟨rfl, ((rfl | rfl) | rfl) | rfl⟩ <;> rfl
