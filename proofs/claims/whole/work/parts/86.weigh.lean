/-! Shares: what a box is worth to a hand. -/
/-- the box of a bit, all entries being known -/
def bxv (g : gm_T) (b : Nat) : Int := (bx_at g (b : Int) 999 (gm_I g 44 87).toNat).1
/-- what the bits ahead of b make a box worth to a hand -/
def wf (g : gm_T) (b h x : Nat) : Int := si (fun c => if bxv g c = (x : Int) then gm_I g 107 (10 * h + (gm_I g 56 c).toNat) else 0) b
theorem wf_s (g : gm_T) (b h x : Nat) : wf g (b + 1) h x = wf g b h x + if bxv g b = (x : Int) then gm_I g 107 (10 * h + (gm_I g 56 b).toNat) else 0 := rfl
theorem wf_b {n : Nat} {g : gm_T} (hv : V_bit n g) (hs : V_skill g) {h : Nat} (hh : h < 6) (x : Nat) : ∀ b : Nat, b ≤ n → 0 ≤ wf g b h x ∧ wf g b h x ≤ 9 * (b : Int)
  | 0, _ => by
    show (0 : Int) ≤ 0 ∧ (0 : Int) ≤ 9 * 0
    omega
  | b + 1, hb => by
    have h1 := wf_b hv hs hh x b (by omega)
    obtain ⟨-, -, -, -, -, -, ⟨-, p2, p3⟩, -⟩ := hv b (by omega)
    obtain ⟨-, s2, s3⟩ := hs (10 * h + (gm_I g 56 b).toNat) (by omega)
    rw [wf_s]
    split <;> omega
def isWt (g0 : gm_T) (ar b h0 : Nat) (g : gm_T) : Prop := ∀ h x : Nat, h < 6 → x < 10 → gm_I g ar (10 * h + x) = if h < h0 then wf g0 (b + 1) h x else wf g0 b h x
theorem isWt_no {g0 : gm_T} {ar b : Nat} (h : bxv g0 b < 0) {g : gm_T} (H : isWt g0 ar b 0 g) : isWt g0 ar b 6 g := fun h x hh hx => by
  have e : wf g0 (b + 1) h x = wf g0 b h x := by
    rw [wf_s, if_neg (by omega), Int.add_zero]
  rw [H h x hh hx, if_neg (by omega), if_pos hh, e]
theorem isWt_nx {g0 : gm_T} {ar b : Nat} {g : gm_T} (H : isWt g0 ar b 6 g) : isWt g0 ar (b + 1) 0 g := fun h x hh hx => by
  rw [H h x hh hx, if_pos hh, if_neg (by omega)]
theorem isWt_st {g0 : gm_T} {ar b h x0 : Nat} (hh : h < 6) (hx : x0 < 10) (hb : bxv g0 b = (x0 : Int)) {g : gm_T} (H : isWt g0 ar b h g) : isWt g0 ar b (h + 1) (gm_wI g ar (10 * h + x0) (gm_I g ar (10 * h + x0) + gm_I g0 107 (10 * h + (gm_I g0 56 b).toNat))) := fun h2 x q1 q2 => by
  by_cases z : 10 * h2 + x = 10 * h + x0
  · have e1 : h2 = h := by omega
    have e2 : x = x0 := by omega
    rw [e1, e2, gI_eq, H h x0 hh hx, if_neg (Nat.lt_irrefl h), if_pos (Nat.lt_succ_self h), wf_s, if_pos hb]
  · rw [gI_ne z, H h2 x q1 q2]
    by_cases c : h2 < h
    · rw [if_pos c, if_pos (by omega)]
    · rw [if_neg c]
      by_cases c2 : h2 = h
      · rw [if_pos (by omega), wf_s, if_neg (by
          rw [hb]
          omega), Int.add_zero]
      · rw [if_neg (by omega)]
def W_37 (a k : Nat) : Bool := a == 37
def W_108 (a k : Nat) : Bool := a == 108
theorem cx_l40_lp {n : Nat} {g0 : gm_T} (h30 : n ≤ 30) (hv : V_bit n g0) (hs : V_skill g0) {b x0 : Nat} (hb : b < n) (hx : x0 < 10) (hbx : bxv g0 b = (x0 : Int)) : ∀ (d h fuel : Nat) (g : gm_T), h + d = 6 → d < fuel → exc W_37 nob g0 g → isWt g0 37 b h g → ∃ g2, cx_weigh_l40 n (b : Int) (x0 : Int) fuel (h : Int) g = some g2 ∧ exc W_37 nob g0 g2 ∧ isWt g0 37 b 6 g2 := by
  obtain ⟨-, -, -, -, -, -, ⟨p1, p2, p3⟩, -⟩ := hv b hb
  intro d
  induction d with
  | zero =>
    intro h fuel g hd hf x H
    obtain ⟨f, rfl⟩ : ∃ f, fuel = f + 1 := ⟨fuel - 1, by omega⟩
    unfold cx_weigh_l40
    rw [jg_pos (rgn (by omega)), if_neg (by omega), jg_pos (rgn (by omega)), if_neg (by omega)]
    have e : h = 6 := by omega
    rw [e] at H
    exact ⟨g, rfl, x, H⟩
  | succ d ih =>
    intro h fuel g hd hf x H
    obtain ⟨f, rfl⟩ : ∃ f, fuel = f + 1 := ⟨fuel - 1, by omega⟩
    obtain ⟨s1, -⟩ := hs (10 * h + (gm_I g0 56 b).toNat) (by omega)
    have H2 := isWt_st (h := h) (by omega) hx hbx H
    obtain ⟨g2, r1, r2, r3⟩ := ih (h + 1) f _ (by omega) (by omega) (exc_wI x rfl) H2
    unfold cx_weigh_l40
    rw [jg_pos (rgn (by omega)), if_neg (by omega), jg_pos (rgn (by omega)), if_pos (by omega), jg_pos (by omega), jg_pos (by omega), Int.toNat_natCast, x.1 (bA b) 2 (by
      unfold W_37 bA
      exact beq_false_of_ne (by omega)), p1, jg_pos (by omega), jl_eq, show ((h : Int) * 10 + (x0 : Int)).toNat = 10 * h + x0 by omega, show (10 * (h : Int) + gm_I g0 56 b).toNat = 10 * h + (gm_I g0 56 b).toNat by omega, x.1 36 _ rfl, s1]
    exact ⟨g2, r1, r2, r3⟩
theorem V_box_37 {n : Nat} {g g2 : gm_T} {W : Nat → Nat → Bool} (x : exc W nob g g2) (hW : ∀ a k, ((a == 32 && k == 0) || (a == 44 && k == 87) || a == 33 || a == 34 || a == 35 || a == 104 || a == 105 || a == 106) = true → W a k = false) (h : V_box n g) : V_box n g2 := by
  unfold V_box at h ⊢
  have e : ∀ a k, ((a == 32 && k == 0) || (a == 44 && k == 87) || a == 33 || a == 34 || a == 35 || a == 104 || a == 105 || a == 106) = true → gm_I g2 a k = gm_I g a k := fun a k q => x.1 a k (hW a k q)
  rw [e 32 0 rfl, e 44 87 rfl]
  simp only [fun k => e 33 k rfl, fun k => e 34 k rfl, fun k => e 35 k rfl, fun k => e 104 k rfl, fun k => e 105 k rfl, fun k => e 106 k rfl]
  exact h
theorem bx_at_tr {g g2 : gm_T} {W : Nat → Nat → Bool} (x : exc W nob g g2) (hW : ∀ a k, (a == 104 || a == 105 || a == 106) = true → W a k = false) (bit day : Int) : ∀ e, bx_at g2 bit day e = bx_at g bit day e
  | 0 => rfl
  | e + 1 => by
    unfold bx_at
    rw [bx_at_tr x hW bit day e, x.1 104 e (hW _ _ rfl), x.1 105 e (hW _ _ rfl), x.1 106 e (hW _ _ rfl)]
theorem W37_box (a k : Nat) (q : ((a == 32 && k == 0) || (a == 44 && k == 87) || a == 33 || a == 34 || a == 35 || a == 104 || a == 105 || a == 106) = true) : W_37 a k = false := by
  simp only [Bool.or_eq_true, Bool.and_eq_true, beq_iff_eq] at q
  unfold W_37
  exact beq_false_of_ne (by omega)
theorem W108_box (a k : Nat) (q : ((a == 32 && k == 0) || (a == 44 && k == 87) || a == 33 || a == 34 || a == 35 || a == 104 || a == 105 || a == 106) = true) : W_108 a k = false := by
  simp only [Bool.or_eq_true, Bool.and_eq_true, beq_iff_eq] at q
  unfold W_108
  exact beq_false_of_ne (by omega)
theorem bxv_37 {g g2 : gm_T} (x : exc W_37 nob g g2) (b : Nat) : bxv g2 b = bxv g b := by
  unfold bxv
  rw [x.1 44 87 rfl, bx_at_tr x (fun a k q => by
    simp only [Bool.or_eq_true, beq_iff_eq] at q
    unfold W_37
    exact beq_false_of_ne (by omega))]
theorem bxv_108 {g g2 : gm_T} (x : exc W_108 nob g g2) (b : Nat) : bxv g2 b = bxv g b := by
  unfold bxv
  rw [x.1 44 87 rfl, bx_at_tr x (fun a k q => by
    simp only [Bool.or_eq_true, beq_iff_eq] at q
    unfold W_108
    exact beq_false_of_ne (by omega))]
theorem bxv_in {n : Nat} {g : gm_T} (h : V_box n g) (b : Nat) : -1 ≤ bxv g b ∧ bxv g b ≤ 9 := by
  obtain ⟨⟨-, q2, q3⟩, -⟩ := id h
  have := bx_in h (b : Int) 999 (gm_I g 44 87).toNat (by omega)
  exact ⟨this.2.1, this.2.2⟩
theorem cx_l23_lp {n : Nat} {g0 : gm_T} (hn : V_num n g0) (hv : V_bit n g0) (hs : V_skill g0) (hx : V_box n g0) : ∀ (d b fuel : Nat) (g : gm_T), b + d = n → d < fuel → exc W_37 nob g0 g → isWt g0 37 b 0 g → ∃ g2, cx_weigh_l23 n fuel (b : Int) g = some g2 ∧ exc W_37 nob g0 g2 ∧ isWt g0 37 n 0 g2 := by
  have h30 := hn.2.2
  intro d
  induction d with
  | zero =>
    intro b fuel g hd hf x H
    obtain ⟨f, rfl⟩ : ∃ f, fuel = f + 1 := ⟨fuel - 1, by omega⟩
    unfold cx_weigh_l23
    rw [x.1 10 1 rfl, hn.1, jg_pos ⟨rgn (by omega), rgn (by omega)⟩, if_neg (by omega)]
    have e : b = n := by omega
    rw [e] at H
    exact ⟨g, rfl, x, H⟩
  | succ d ih =>
    intro b fuel g hd hf x H
    obtain ⟨f, rfl⟩ : ∃ f, fuel = f + 1 := ⟨fuel - 1, by omega⟩
    have hxg := V_box_37 x W37_box hx
    obtain ⟨⟨w1, w2, w3⟩, -⟩ := id hxg
    have hbn : cx_boxNow g (b : Int) = some (bxv g0 b) := by
      unfold cx_boxNow
      rw [w1, cx_boxOf_eq h30 hxg (rgn (by omega)) (rgk rfl) ⟨w2, Int.le_refl _⟩, jb1_some, ← bxv_37 x b]
      rfl
    have hin := bxv_in hx b
    unfold cx_weigh_l23
    rw [x.1 10 1 rfl, hn.1, jg_pos ⟨rgn (by omega), rgn (by omega)⟩, if_pos (by omega), hbn, jb1_some]
    by_cases c : bxv g0 b < 0
    · obtain ⟨g2, r1, r2, r3⟩ := ih (b + 1) f g (by omega) (by omega) x (isWt_nx (isWt_no c H))
      have h40 : cx_weigh_l40 n (b : Int) (bxv g0 b) fz 0 g = some g := by
        rw [show fz = 99999 + 1 from rfl]
        unfold cx_weigh_l40
        rw [jg_pos ⟨by omega, by omega⟩, if_pos c]
      rw [h40, jb1_some]
      exact ⟨g2, r1, r2, r3⟩
    · obtain ⟨x0, hx0⟩ : ∃ x0 : Nat, bxv g0 b = (x0 : Int) := ⟨_, (Int.toNat_of_nonneg (by omega)).symm⟩
      obtain ⟨g1, u1, u2, u3⟩ := cx_l40_lp h30 hv hs (b := b) (x0 := x0) (by omega) (by omega) hx0 6 0 fz g (by omega) (fz_gt rfl) x H
      obtain ⟨g2, r1, r2, r3⟩ := ih (b + 1) f g1 (by omega) (by omega) u2 (isWt_nx u3)
      rw [hx0, show cx_weigh_l40 n (b : Int) (x0 : Int) fz 0 g = _ from u1, jb1_some]
      exact ⟨g2, r1, r2, r3⟩
theorem cx_l2_lp {n : Nat} {g0 : gm_T} : ∀ (d k fuel : Nat) (g : gm_T), k + d = 60 → d < fuel → exc W_37 nob g0 g → (∀ j, j < k → gm_I g 37 j = 0) → ∃ g2, cx_weigh_l2 n fuel (k : Int) g = some g2 ∧ exc W_37 nob g0 g2 ∧ ∀ j, j < 60 → gm_I g2 37 j = 0 := by
  intro d
  induction d with
  | zero =>
    intro k fuel g hd hf x H
    obtain ⟨f, rfl⟩ : ∃ f, fuel = f + 1 := ⟨fuel - 1, by omega⟩
    unfold cx_weigh_l2
    rw [jg_pos (rgn (by omega)), if_neg (by omega)]
    exact ⟨g, rfl, x, fun j hj => H j (by omega)⟩
  | succ d ih =>
    intro k fuel g hd hf x H
    obtain ⟨f, rfl⟩ : ∃ f, fuel = f + 1 := ⟨fuel - 1, by omega⟩
    obtain ⟨g2, r1, r2, r3⟩ := ih (k + 1) f (gm_wI g 37 k 0) (by omega) (by omega) (exc_wI x rfl) (fun j hj => by
      by_cases z : j = k
      · rw [z, gI_eq]
      · rw [gI_ne z]
        exact H j (by omega))
    unfold cx_weigh_l2
    rw [jg_pos (rgn (by omega)), if_pos (by omega), jg_pos (by omega), jl_eq, Int.toNat_natCast]
    exact ⟨g2, r1, r2, r3⟩
theorem cx_weigh_eq {n : Nat} {g0 : gm_T} (hn : V_num n g0) (hv : V_bit n g0) (hs : V_skill g0) (hx : V_box n g0) : ∃ g2, cx_weigh n g0 = some g2 ∧ exc W_37 nob g0 g2 ∧ ∀ h x : Nat, h < 6 → x < 10 → gm_I g2 37 (10 * h + x) = wf g0 n h x := by
  obtain ⟨g1, a1, a2, a3⟩ := cx_l2_lp (n := n) (g0 := g0) 60 0 fz g0 (by omega) (fz_gt rfl) exc_rf (fun j hj => by omega)
  obtain ⟨g2, b1, b2, b3⟩ := cx_l23_lp hn hv hs hx n 0 fz g1 (by omega) (Nat.lt_of_le_of_lt (show n ≤ 300 by have := hn.2.2; omega) (fz_gt rfl)) a2 (fun h x hh hx => by
    rw [a3 _ (by omega), if_neg (by omega)]
    rfl)
  refine ⟨g2, ?_, b2, fun h x hh hx => by rw [b3 h x hh hx, if_neg (by omega)]⟩
  unfold cx_weigh
  rw [show cx_weigh_l2 n fz 0 g0 = _ from a1, jb1_some, show cx_weigh_l23 n fz 0 g1 = _ from b1, jb1_some]
-- the reference
theorem md_l46_lp {n : Nat} {g0 : gm_T} (h30 : n ≤ 30) (hv : V_bit n g0) (hs : V_skill g0) {b x0 : Nat} (hb : b < n) (hx : x0 < 10) (hbx : bxv g0 b = (x0 : Int)) : ∀ (d h fuel : Nat) (g : gm_T), h + d = 6 → d < fuel → exc W_108 nob g0 g → isWt g0 108 b h g → ∃ g2, md_shares_l46 (b : Int) (x0 : Int) fuel (h : Int) g = some g2 ∧ exc W_108 nob g0 g2 ∧ isWt g0 108 b 6 g2 := by
  obtain ⟨-, -, -, -, -, -, ⟨p1, p2, p3⟩, -⟩ := hv b hb
  intro d
  induction d with
  | zero =>
    intro h fuel g hd hf x H
    obtain ⟨f, rfl⟩ : ∃ f, fuel = f + 1 := ⟨fuel - 1, by omega⟩
    unfold md_shares_l46
    rw [jg_pos (rgn (by omega)), if_neg (by omega)]
    have e : h = 6 := by omega
    rw [e] at H
    exact ⟨g, rfl, x, H⟩
  | succ d ih =>
    intro h fuel g hd hf x H
    obtain ⟨f, rfl⟩ : ∃ f, fuel = f + 1 := ⟨fuel - 1, by omega⟩
    have H2 := isWt_st (h := h) (by omega) hx hbx H
    obtain ⟨g2, r1, r2, r3⟩ := ih (h + 1) f _ (by omega) (by omega) (exc_wI x rfl) H2
    unfold md_shares_l46
    rw [jg_pos (rgn (by omega)), if_pos (by omega), jg_pos (rgn (by omega)), if_neg (by omega), jg_pos (by omega), jg_pos (by omega), Int.toNat_natCast, x.1 56 b rfl, jg_pos (by omega), jl_eq, show (10 * (h : Int) + (x0 : Int)).toNat = 10 * h + x0 by omega, show (10 * (h : Int) + gm_I g0 56 b).toNat = 10 * h + (gm_I g0 56 b).toNat by omega, x.1 107 _ rfl]
    exact ⟨g2, r1, r2, r3⟩
theorem md_l23_lp {n : Nat} {g0 : gm_T} (hn : V_num n g0) (hv : V_bit n g0) (hs : V_skill g0) (hx : V_box n g0) : ∀ (d b fuel : Nat) (g : gm_T), b + d = n → d < fuel → exc W_108 nob g0 g → isWt g0 108 b 0 g → ∃ g2, md_shares_l23 fuel (b : Int) g = some g2 ∧ exc W_108 nob g0 g2 ∧ isWt g0 108 n 0 g2 := by
  have h30 := hn.2.2
  intro d
  induction d with
  | zero =>
    intro b fuel g hd hf x H
    obtain ⟨f, rfl⟩ : ∃ f, fuel = f + 1 := ⟨fuel - 1, by omega⟩
    unfold md_shares_l23
    rw [x.1 44 3 rfl, hn.2.1, jg_pos ⟨rgn (by omega), rgn (by omega)⟩, if_neg (by omega)]
    have e : b = n := by omega
    rw [e] at H
    exact ⟨g, rfl, x, H⟩
  | succ d ih =>
    intro b fuel g hd hf x H
    obtain ⟨f, rfl⟩ : ∃ f, fuel = f + 1 := ⟨fuel - 1, by omega⟩
    have hxg := V_box_37 x W108_box hx
    obtain ⟨⟨w1, w2, w3⟩, -⟩ := id hxg
    have hbn : md_boxOf g (b : Int) 999 (gm_I g 44 87) = some (bxv g0 b) := by
      rw [md_boxOf_eq h30 hxg (rgn (by omega)) (rgk rfl) ⟨w2, Int.le_refl _⟩, ← bxv_108 x b]
      rfl
    have hin := bxv_in hx b
    unfold md_shares_l23
    rw [x.1 44 3 rfl, hn.2.1, jg_pos ⟨rgn (by omega), rgn (by omega)⟩, if_pos (by omega), hbn, jb1_some]
    by_cases c : bxv g0 b < 0
    · obtain ⟨g2, r1, r2, r3⟩ := ih (b + 1) f g (by omega) (by omega) x (isWt_nx (isWt_no c H))
      have h40 : md_shares_l46 (b : Int) (bxv g0 b) fz 0 g = some g := by
        rw [show fz = 99999 + 1 from rfl]
        unfold md_shares_l46
        rw [jg_pos (rgk rfl), if_pos (by decide), jg_pos ⟨by omega, by omega⟩, if_pos (by omega)]
      rw [h40, jb1_some]
      exact ⟨g2, r1, r2, r3⟩
    · obtain ⟨x0, hx0⟩ : ∃ x0 : Nat, bxv g0 b = (x0 : Int) := ⟨_, (Int.toNat_of_nonneg (by omega)).symm⟩
      obtain ⟨g1, u1, u2, u3⟩ := md_l46_lp h30 hv hs (b := b) (x0 := x0) (by omega) (by omega) hx0 6 0 fz g (by omega) (fz_gt rfl) x H
      obtain ⟨g2, r1, r2, r3⟩ := ih (b + 1) f g1 (by omega) (by omega) u2 (isWt_nx u3)
      rw [hx0, show md_shares_l46 (b : Int) (x0 : Int) fz 0 g = _ from u1, jb1_some]
      exact ⟨g2, r1, r2, r3⟩
theorem md_l2_lp {g0 : gm_T} : ∀ (d k fuel : Nat) (g : gm_T), k + d = 60 → d < fuel → exc W_108 nob g0 g → (∀ j, j < k → gm_I g 108 j = 0) → ∃ g2, md_shares_l2 fuel (k : Int) g = some g2 ∧ exc W_108 nob g0 g2 ∧ ∀ j, j < 60 → gm_I g2 108 j = 0 := by
  intro d
  induction d with
  | zero =>
    intro k fuel g hd hf x H
    obtain ⟨f, rfl⟩ : ∃ f, fuel = f + 1 := ⟨fuel - 1, by omega⟩
    unfold md_shares_l2
    rw [jg_pos (rgn (by omega)), if_neg (by omega)]
    exact ⟨g, rfl, x, fun j hj => H j (by omega)⟩
  | succ d ih =>
    intro k fuel g hd hf x H
    obtain ⟨f, rfl⟩ : ∃ f, fuel = f + 1 := ⟨fuel - 1, by omega⟩
    obtain ⟨g2, r1, r2, r3⟩ := ih (k + 1) f (gm_wI g 108 k 0) (by omega) (by omega) (exc_wI x rfl) (fun j hj => by
      by_cases z : j = k
      · rw [z, gI_eq]
      · rw [gI_ne z]
        exact H j (by omega))
    unfold md_shares_l2
    rw [jg_pos (rgn (by omega)), if_pos (by omega), jg_pos (by omega), jl_eq, Int.toNat_natCast]
    exact ⟨g2, r1, r2, r3⟩
theorem md_weigh_eq {n : Nat} {g0 : gm_T} (hn : V_num n g0) (hv : V_bit n g0) (hs : V_skill g0) (hx : V_box n g0) : ∃ g1 g2, md_shares_l2 fz 0 g0 = some g1 ∧ md_shares_l23 fz 0 g1 = some g2 ∧ exc W_108 nob g0 g2 ∧ ∀ h x : Nat, h < 6 → x < 10 → gm_I g2 108 (10 * h + x) = wf g0 n h x := by
  obtain ⟨g1, a1, a2, a3⟩ := md_l2_lp (g0 := g0) 60 0 fz g0 (by omega) (fz_gt rfl) exc_rf (fun j hj => by omega)
  obtain ⟨g2, b1, b2, b3⟩ := md_l23_lp hn hv hs hx n 0 fz g1 (by omega) (Nat.lt_of_le_of_lt (show n ≤ 300 by have := hn.2.2; omega) (fz_gt rfl)) a2 (fun h x hh hx => by
    rw [a3 _ (by omega), if_neg (by omega)]
    rfl)
  exact ⟨g1, g2, a1, b1, b2, fun h x hh hx => by rw [b3 h x hh hx, if_neg (by omega)]⟩
