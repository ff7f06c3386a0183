/-! Bits that overlap where they are placed: collide, firstHit; walls, places, hits. -/
/-- two bits as they are placed: the cells in common -/
theorem ov_rel (g : gm_T) (a b : Nat) {p q : plc} (hp : okt p) (hq : okt q) : s2 (fun x y => if (Kt g a p.1 x y && Kt g b q.1 (x - (q.2.1 - p.2.1)) (y - (q.2.2 - p.2.2))) = true then 1 else 0) = ov g a b (rel p q).1 (rel p q).2.1 (rel p q).2.2 := by
  have hr := rel_okt hp hq
  rw [← ov_common g a b hr, ← s2_turn _ hp]
  refine s2_cong (fun x y _ _ _ _ => ?_)
  rw [Kt_c g a hp, Kt_0]
  have h1 : Kt g b q.1 (cX p.1 x y - (q.2.1 - p.2.1)) (cY p.1 x y - (q.2.2 - p.2.2)) = Kt g b (rel p q).1 (x - (rel p q).2.1) (y - (rel p q).2.2) := by
    obtain ⟨s, px, py⟩ := p
    obtain ⟨t, qx, qy⟩ := q
    unfold okt at hp hq
    dsimp only at hp hq ⊢
    unfold Kt
    have key : cX (ti t) (cX s x y - (qx - px)) (cY s x y - (qy - py)) = cX (ti (rel (s, px, py) (t, qx, qy)).1) (x - (rel (s, px, py) (t, qx, qy)).2.1) (y - (rel (s, px, py) (t, qx, qy)).2.2) ∧ cY (ti t) (cX s x y - (qx - px)) (cY s x y - (qy - py)) = cY (ti (rel (s, px, py) (t, qx, qy)).1) (x - (rel (s, px, py) (t, qx, qy)).2.1) (y - (rel (s, px, py) (t, qx, qy)).2.2) := by
      unfold rel pon pin
      dsimp only
      rcases t4 hp with rfl | rfl | rfl | rfl <;> rcases t4 hq with rfl | rfl | rfl | rfl <;> simp [cX, cY, ti, tX, tY] <;> omega
    rw [key.1, key.2]
  rw [h1]
theorem cf_collide_eq {n : Nat} {g : gm_T} (I : I_fit n g) {a b : Nat} (ha : a < n) (hb : b < n) {p q : plc} {M N : Int} (hp : bpl M p) (hq : bpl N q) (hM : M ≤ 524287) (hN : N ≤ 524287) : cf_collide n g (a : Int) (pp p) (b : Int) (pp q) = some (if ((ov g a b (rel p q).1 (rel p q).2.1 (rel p q).2.2 : Nat) : Int) ≤ gm_I g 44 20 then 0 else 1) := by
  have op := bpl_ok hp hM
  have oq := bpl_ok hq hN
  have hov := ov_le g a b (rel p q).1 (rel p q).2.1 (rel p q).2.2
  obtain ⟨w1, w2, w3⟩ := I.2.2.2.1
  unfold cf_collide pp
  rw [cc_x_eq oq, cc_x_eq op, cc_y_eq oq, cc_y_eq op, cc_turn_eq op, cc_turn_eq oq]
  simp only [jb1_some, jl_eq]
  rw [jg_pos (by omega), jg_pos (by omega), Int.toNat_natCast, Int.toNat_natCast, cb_common_eq I.2.2.1 ha hb hp.1 hq.1 ⟨by have := hp.2.1; have := hq.2.1; omega, by have := hp.2.1; have := hq.2.1; omega⟩ ⟨by have := hp.2.2; have := hq.2.2; omega, by have := hp.2.2; have := hq.2.2; omega⟩, ov_rel g a b hp.1 hq.1, jb1_some, w1, jg_pos ⟨⟨by omega, by omega⟩, by omega, by omega⟩, ite_some2]
/-- overlap by more than is allowed -/
def bad (g : gm_T) (a b : Nat) (p q : plc) : Prop := gm_I g 44 20 < ((ov g a b (rel p q).1 (rel p q).2.1 (rel p q).2.2 : Nat) : Int)
theorem c_bad {g g2 : gm_T} (e : keepF g2 = keepF g) : bad g2 = bad g := by
  show bad (keepF g2) = bad (keepF g)
  rw [e]
theorem cf_collide_eq2 {n : Nat} {g : gm_T} (I : I_fit n g) {a b : Nat} (ha : a < n) (hb : b < n) {p q : plc} {M N : Int} (hp : bpl M p) (hq : bpl N q) (hM : M ≤ 524287) (hN : N ≤ 524287) : cf_collide n g (a : Int) (pp p) (b : Int) (pp q) = some (@ite _ (bad g a b p q) (gd _) 1 0) := by
  rw [cf_collide_eq I ha hb hp hq hM hN]
  unfold bad
  by_cases c : ((ov g a b (rel p q).1 (rel p q).2.1 (rel p q).2.2 : Nat) : Int) ≤ gm_I g 44 20
  · rw [if_pos c, @if_neg _ (gd _) (by omega)]
  · rw [if_neg c, @if_pos _ (gd _) (by omega)]
/-- the first pair of a kind, in order -/
def LF (p : Nat → Nat → Prop) (n i k : Nat) : Prop := i < n ∧ k < n ∧ p i k ∧ (∀ k2, k2 < k → ¬ p i k2) ∧ ∀ i2 k2, i2 < i → k2 < n → ¬ p i2 k2
theorem LF_uniq {p : Nat → Nat → Prop} {n i k i2 k2 : Nat} (h : LF p n i k) (h2 : LF p n i2 k2) : i = i2 ∧ k = k2 := by
  obtain ⟨a1, a2, a3, a4, a5⟩ := h
  obtain ⟨b1, b2, b3, b4, b5⟩ := h2
  rcases Nat.lt_trichotomy i i2 with q | q | q
  · exact absurd a3 (b5 i k q a2)
  · subst q
    rcases Nat.lt_trichotomy k k2 with q | q | q
    · exact absurd a3 (b4 k q)
    · exact ⟨rfl, q⟩
    · exact absurd b3 (a4 k2 q)
  · exact absurd b3 (a5 i2 k2 q b2)
theorem LF_cong {p q : Nat → Nat → Prop} {n i k : Nat} (h : LF p n i k) (he : ∀ i k, i < n → k < n → (p i k ↔ q i k)) : LF q n i k := by
  obtain ⟨a1, a2, a3, a4, a5⟩ := h
  exact ⟨a1, a2, (he i k a1 a2).mp a3, fun k2 hk z => a4 k2 hk ((he i k2 a1 (by omega)).mpr z), fun i2 k2 hi hk z => a5 i2 k2 hi hk ((he i2 k2 (by omega) hk).mpr z)⟩
/-- the class's pairs: i moved by v, k as it is -/
def hitp (g : gm_T) (P : Nat → plc) (F O : Nat) (v : plc) (i k : Nat) : Prop := F.testBit i = true ∧ O.testBit k = true ∧ bad g i k (pon v (P i)) (P k)
theorem cv_hit_row {n : Nat} {g : gm_T} {P : Nat → plc} (I : I_fit n g) (hJ : ∀ b, b < 30 → gm_J g 23 b = pp (P b)) {K : Int} (hP : ∀ b, bpl K (P b)) (hK : K ≤ 200000) (hK0 : 0 ≤ K) {F O : Nat} (hO : O < 2 ^ 30) {v : plc} (hv : bpl 300000 v) {i : Nat} (hi : i < n) (hF : F.testBit i = true) {c11 : Int} {c12 : Int64} : ∀ (d k fuel : Nat), k + d = n → d < fuel → (∀ k2, k2 < k → ¬ hitp g P F O v i k2) → (∃ k2, k ≤ k2 ∧ k2 < n ∧ hitp g P F O v i k2 ∧ (∀ k3, k3 < k2 → ¬ hitp g P F O v i k3) ∧ cv_firstHit_l40 n g c11 c12 (O : Int) (i : Int) (pp (pon v (P i))) fuel (k : Int) = some (.inr (30 * (i : Int) + (k2 : Int)))) ∨ ((∀ k2, k2 < n → ¬ hitp g P F O v i k2) ∧ cv_firstHit_l40 n g c11 c12 (O : Int) (i : Int) (pp (pon v (P i))) fuel (k : Int) = some (.inl ())) := by
  have h30 := I.1.2.2
  have hmv := bpl_on hv (hP i)
  intro d
  induction d with
  | zero =>
    intro k fuel hd hf hno
    obtain ⟨f, rfl⟩ : ∃ f, fuel = f + 1 := ⟨fuel - 1, by omega⟩
    right
    have hk : k = n := by omega
    subst hk
    unfold cv_firstHit_l40
    rw [I.1.1, jg_pos ⟨rgn (by omega), rgn (by omega)⟩, if_neg (by omega)]
    exact ⟨hno, rfl⟩
  | succ d ih =>
    intro k fuel hd hf hno
    obtain ⟨f, rfl⟩ : ∃ f, fuel = f + 1 := ⟨fuel - 1, by omega⟩
    have hk : k < n := by omega
    have skip : ¬ hitp g P F O v i k → (∃ k2, k ≤ k2 ∧ k2 < n ∧ hitp g P F O v i k2 ∧ (∀ k3, k3 < k2 → ¬ hitp g P F O v i k3) ∧ cv_firstHit_l40 n g c11 c12 (O : Int) (i : Int) (pp (pon v (P i))) f ((k : Int) + 1) = some (.inr (30 * (i : Int) + (k2 : Int)))) ∨ ((∀ k2, k2 < n → ¬ hitp g P F O v i k2) ∧ cv_firstHit_l40 n g c11 c12 (O : Int) (i : Int) (pp (pon v (P i))) f ((k : Int) + 1) = some (.inl ())) := by
      intro hq
      rcases ih (k + 1) f (by omega) (by omega) (fun k2 hk2 => by
        by_cases z : k2 = k
        · rw [z]; exact hq
        · exact hno k2 (by omega)) with ⟨k2, z1, z2⟩ | z
      · exact Or.inl ⟨k2, by omega, z2⟩
      · exact Or.inr z
    unfold cv_firstHit_l40
    rw [I.1.1, jg_pos ⟨rgn (by omega), rgn (by omega)⟩, if_pos (by omega), zbit (Nat.lt_trans hO (by decide)) (by omega)]
    by_cases c1 : O.testBit k = true
    · rw [if_pos c1, if_neg n10, jg_pos (by omega), Int.toNat_natCast, hJ k (by omega), cf_collide_eq2 I hi hk hmv (hP k) (by omega) (by omega), jb_gd]
      by_cases c2 : bad g i k (pon v (P i)) (P k)
      · left
        rw [@if_pos _ (gd _) c2]
        exact ⟨k, Nat.le_refl _, hk, ⟨hF, c1, c2⟩, hno, rfl⟩
      · rw [@if_neg _ (gd _) c2]
        exact skip (fun z => c2 z.2.2)
    · rw [if_neg c1, if_pos rfl]
      exact skip (fun z => c1 z.2.1)
theorem cv_hit_lp {n : Nat} {g : gm_T} {P : Nat → plc} (I : I_fit n g) (hJ : ∀ b, b < 30 → gm_J g 23 b = pp (P b)) {K : Int} (hP : ∀ b, bpl K (P b)) (hK : K ≤ 200000) (hK0 : 0 ≤ K) {F O : Nat} (hF : F < 2 ^ 30) (hO : O < 2 ^ 30) {v : plc} (hv : bpl 300000 v) : ∀ (d i fuel : Nat), i + d = n → d < fuel → (∀ i2 k2, i2 < i → k2 < n → ¬ hitp g P F O v i2 k2) → (∃ i2 k2, LF (hitp g P F O v) n i2 k2 ∧ cv_firstHit_l3 n g (F : Int) (pp v) (O : Int) fuel (i : Int) = some (30 * (i2 : Int) + (k2 : Int))) ∨ ((∀ i2 k2, i2 < n → k2 < n → ¬ hitp g P F O v i2 k2) ∧ cv_firstHit_l3 n g (F : Int) (pp v) (O : Int) fuel (i : Int) = some (-1)) := by
  have h30 := I.1.2.2
  intro d
  induction d with
  | zero =>
    intro i fuel hd hf hno
    obtain ⟨f, rfl⟩ : ∃ f, fuel = f + 1 := ⟨fuel - 1, by omega⟩
    right
    have hk : i = n := by omega
    subst hk
    unfold cv_firstHit_l3
    rw [I.1.1, jg_pos ⟨rgn (by omega), rgn (by omega)⟩, if_neg (by omega)]
    exact ⟨hno, rfl⟩
  | succ d ih =>
    intro i fuel hd hf hno
    obtain ⟨f, rfl⟩ : ∃ f, fuel = f + 1 := ⟨fuel - 1, by omega⟩
    have hi : i < n := by omega
    have skip : (∀ k2, k2 < n → ¬ hitp g P F O v i k2) → (∃ i2 k2, LF (hitp g P F O v) n i2 k2 ∧ cv_firstHit_l3 n g (F : Int) (pp v) (O : Int) f ((i : Int) + 1) = some (30 * (i2 : Int) + (k2 : Int))) ∨ ((∀ i2 k2, i2 < n → k2 < n → ¬ hitp g P F O v i2 k2) ∧ cv_firstHit_l3 n g (F : Int) (pp v) (O : Int) f ((i : Int) + 1) = some (-1)) := by
      intro hq
      exact ih (i + 1) f (by omega) (by omega) (fun i2 k2 h1 h2 => by
        by_cases z : i2 = i
        · rw [z]; exact hq k2 h2
        · exact hno i2 k2 (by omega) h2)
    unfold cv_firstHit_l3
    rw [I.1.1, jg_pos ⟨rgn (by omega), rgn (by omega)⟩, if_pos (by omega), zbit (Nat.lt_trans hF (by decide)) (by omega)]
    by_cases c1 : F.testBit i = true
    · rw [if_pos c1, if_neg n10, jg_pos (by omega), Int.toNat_natCast, hJ i (by omega), cc_onto_eq hv (hP i) (by omega) (by decide) hK0, jb1_some]
      rcases cv_hit_row I hJ hP hK hK0 hO hv hi c1 (c11 := (F : Int)) (c12 := pp v) n 0 fz (by omega) (Nat.lt_of_le_of_lt h30 (fz_gt rfl)) (fun k2 hk2 => by omega) with ⟨k2, z1, z2, z3, z4, z5⟩ | ⟨z1, z2⟩
      · rw [show ((0 : Nat) : Int) = 0 from rfl] at z5
        rw [z5, jc1_inr]
        exact Or.inl ⟨i, k2, ⟨hi, z2, z3, z4, hno⟩, rfl⟩
      · rw [show ((0 : Nat) : Int) = 0 from rfl] at z2
        rw [z2, jc1_inl]
        exact skip z1
    · rw [if_neg c1, if_pos rfl]
      exact skip (fun k2 _ z => c1 z.1)
theorem cv_firstHit_eq {n : Nat} {g : gm_T} {P : Nat → plc} (I : I_fit n g) (hJ : ∀ b, b < 30 → gm_J g 23 b = pp (P b)) {K : Int} (hP : ∀ b, bpl K (P b)) (hK : K ≤ 200000) (hK0 : 0 ≤ K) {F O : Nat} (hF : F < 2 ^ 30) (hO : O < 2 ^ 30) {v : plc} (hv : bpl 300000 v) : (∃ i2 k2, LF (hitp g P F O v) n i2 k2 ∧ cv_firstHit n g (F : Int) (pp v) (O : Int) = some (30 * (i2 : Int) + (k2 : Int))) ∨ ((∀ i2 k2, i2 < n → k2 < n → ¬ hitp g P F O v i2 k2) ∧ cv_firstHit n g (F : Int) (pp v) (O : Int) = some (-1)) := by
  have h30 := I.1.2.2
  exact cv_hit_lp I hJ hP hK hK0 hF hO hv n 0 fz (by omega) (Nat.lt_of_le_of_lt h30 (fz_gt rfl)) (fun i2 k2 h1 => by omega)
theorem cv_carry_lp {n : Nat} {g : gm_T} {P : Nat → plc} (I : I_fit n g) (hJ : ∀ b, b < 30 → gm_J g 23 b = pp (P b)) {K : Int} (hP : ∀ b, bpl K (P b)) (hK : K ≤ 200000) (hK0 : 0 ≤ K) {F : Nat} (hF : F < 2 ^ 30) {v : plc} (hv : bpl 300000 v) : ∀ (d i fuel : Nat) (g1 : gm_T), i + d = n → d < fuel → exc nob (fun a _ => a == 23) g g1 → (∀ b, b < 30 → gm_J g1 23 b = pp (if b < i ∧ F.testBit b = true then pon v (P b) else P b)) → ∃ g2, cv_carry_l3 (F : Int) (pp v) fuel (i : Int) g1 = some g2 ∧ exc nob (fun a _ => a == 23) g g2 ∧ ∀ b, b < 30 → gm_J g2 23 b = pp (if b < n ∧ F.testBit b = true then pon v (P b) else P b) := by
  have h30 := I.1.2.2
  intro d
  induction d with
  | zero =>
    intro i fuel g1 hd hf hx hi
    obtain ⟨f, rfl⟩ : ∃ f, fuel = f + 1 := ⟨fuel - 1, by omega⟩
    have hk : i = n := by omega
    subst hk
    unfold cv_carry_l3
    rw [hx.1 10 1 rfl, I.1.1, jg_pos ⟨rgn (by omega), rgn (by omega)⟩, if_neg (by omega)]
    exact ⟨g1, rfl, hx, hi⟩
  | succ d ih =>
    intro i fuel g1 hd hf hx hi
    obtain ⟨f, rfl⟩ : ∃ f, fuel = f + 1 := ⟨fuel - 1, by omega⟩
    have hj := hi i (by omega)
    rw [if_neg (by omega)] at hj
    unfold cv_carry_l3
    rw [hx.1 10 1 rfl, I.1.1, jg_pos ⟨rgn (by omega), rgn (by omega)⟩, if_pos (by omega), zbit (Nat.lt_trans hF (by decide)) (by omega)]
    by_cases c1 : F.testBit i = true
    · rw [if_pos c1, if_neg n10, jg_pos (by omega), Int.toNat_natCast, hj, cc_onto_eq hv (hP i) (by omega) (by decide) hK0, jb1_some, jl_eq]
      refine ih (i + 1) f (gm_wJ g1 23 i (pp (pon v (P i)))) (by omega) (by omega) (exc_wJ hx rfl) (fun b hb => ?_)
      rw [gJ_wJ, if_pos rfl]
      by_cases z : b = i
      · rw [if_pos z, z, if_pos ⟨by omega, c1⟩]
      · rw [if_neg z, hi b hb]
        by_cases z2 : b < i ∧ F.testBit b = true
        · rw [if_pos z2, if_pos ⟨by omega, z2.2⟩]
        · rw [if_neg z2, if_neg (fun y => z2 ⟨by omega, y.2⟩)]
    · rw [if_neg c1, if_pos rfl]
      refine ih (i + 1) f g1 (by omega) (by omega) hx (fun b hb => ?_)
      rw [hi b hb]
      by_cases z2 : b < i ∧ F.testBit b = true
      · rw [if_pos z2, if_pos ⟨by omega, z2.2⟩]
      · rw [if_neg z2, if_neg (fun y => z2 ⟨by
          by_cases z : b = i
          · rw [z] at y
            exact absurd y.2 c1
          · omega, y.2⟩)]
-- the reference: where all are on the wall, where a group would be
def gO (g : gm_T) (b : Nat) : plc := (gm_I g 85 b, gm_I g 86 b, gm_I g 87 b)
def W_o (a k : Nat) : Bool := a == 85 || a == 86 || a == 87 || (a == 44 && (k == 49 || k == 50 || k == 51))
theorem scr_o {g g2 : gm_T} (h : exc W_o nob g g2) : exc scr scrJ g g2 := exc_mono h (fun a k q => by
  simp only [W_o, Bool.or_eq_true, Bool.and_eq_true, beq_iff_eq] at q
  rcases q with ((rfl | rfl) | rfl) | ⟨rfl, (rfl | rfl) | rfl⟩ <;> rfl) (fun _ _ q => by cases q)
theorem o_p {g g2 : gm_T} (h : exc W_p nob g g2) : exc W_o nob g g2 := exc_mono h (fun a k q => by
  simp only [W_p, Bool.or_eq_true, Bool.and_eq_true, beq_iff_eq] at q
  rcases q with ⟨rfl, (rfl | rfl) | rfl⟩ <;> rfl) (fun _ _ q => q)
theorem isGr_o {n : Nat} {g : gm_T} {P : Nat → plc} {h h2 : gm_T} (H : isGr n g P h) (e : exc W_o nob h h2) : isGr n g P h2 := isGr_exc H e (fun a k q => by
  simp only [Bool.or_eq_true, beq_iff_eq] at q
  rcases q with ((rfl | rfl) | rfl) | rfl <;> rfl)
/-- all that stands has its placing Q, all else none -/
def isO (n : Nat) (S : Nat → Prop) (Q : Nat → plc) (h : gm_T) : Prop := ∀ b, b < n → (S b → gO h b = Q b) ∧ (¬ S b → gm_I h 85 b = -1)
theorem gO_w {h : gm_T} {b : Nat} {p : plc} : ∀ c, gO (gm_wI (gm_wI (gm_wI h 85 b p.1) 86 b p.2.1) 87 b p.2.2) c = if c = b then p else gO h c := by
  intro c
  unfold gO
  by_cases q : c = b
  · rw [if_pos q, q]
    refine pl_ext ?_ ?_ ?_
    · dsimp only
      rw [gI_oth (by decide), gI_oth (by decide), gI_eq]
    · dsimp only
      rw [gI_oth (by decide), gI_eq]
    · dsimp only
      rw [gI_eq]
  · rw [if_neg q]
    refine pl_ext ?_ ?_ ?_
    · dsimp only
      rw [gI_oth (by decide), gI_oth (by decide), gI_ne q]
    · dsimp only
      rw [gI_oth (by decide), gI_ne q, gI_oth (by decide)]
    · dsimp only
      rw [gI_ne q, gI_oth (by decide), gI_oth (by decide)]
theorem md_walls_lp {n : Nat} {g : gm_T} {P : Nat → plc} (h : IWm n g P) {g0 : gm_T} (e0 : keepC g0 = keepC g) (H0 : isGr n g P g0) : ∀ (d b fuel : Nat) (g1 : gm_T), b + d = n → d < fuel → exc W_o nob g0 g1 → (∀ c, c < b → (onW n g c → gO g1 c = P c) ∧ (¬ onW n g c → gm_I g1 85 c = -1)) → ∃ g2, md_walls_l2 fuel (b : Int) g1 = some g2 ∧ exc W_o nob g0 g2 ∧ isO n (onW n g) P g2 := by
  have h30 := h.1.1.2.2
  intro d
  induction d with
  | zero =>
    intro b fuel g1 hd hf hx hi
    obtain ⟨f, rfl⟩ : ∃ f, fuel = f + 1 := ⟨fuel - 1, by omega⟩
    have hk : b = n := by omega
    subst hk
    have e1 := (keepC_scr (scr_o hx)).trans e0
    unfold md_walls_l2
    rw [(num_C e1 h.1.1).2.1, jg_pos ⟨rgn (by omega), rgn (by omega)⟩, if_neg (by omega)]
    exact ⟨g1, rfl, hx, hi⟩
  | succ d ih =>
    intro b fuel g1 hd hf hx hi
    obtain ⟨f, rfl⟩ : ∃ f, fuel = f + 1 := ⟨fuel - 1, by omega⟩
    have hb : b < n := by omega
    have e1 := (keepC_scr (scr_o hx)).trans e0
    have H1 := isGr_o H0 hx
    unfold md_walls_l2
    rw [(num_C e1 h.1.1).2.1, jg_pos ⟨rgn (by omega), rgn (by omega)⟩, if_pos (by omega)]
    rcases md_onWall_eq h e1 H1 hb with ⟨q1, q2⟩ | ⟨q1, g2, q2, q3, q4⟩
    · rw [q2, jb2_some, jg_pos (rgk rfl), if_pos rfl, jb1_some, jg_pos (by omega)]
      simp only [jl_eq, Int.toNat_natCast, gI_oth (show (44 : Nat) ≠ 85 by decide), gI_oth (show (44 : Nat) ≠ 86 by decide)]
      refine ih (b + 1) f _ (by omega) (by omega) (exc_wI (exc_wI (exc_wI hx rfl) rfl) rfl) (fun c hc => ?_)
      have hgo := gO_w (h := g1) (b := b) (p := (-1, gm_I g1 44 50, gm_I g1 44 51)) c
      dsimp only at hgo
      by_cases z : c = b
      · subst z
        refine ⟨fun y => absurd y q1, fun _ => ?_⟩
        rw [gI_oth (by decide), gI_oth (by decide), gI_eq]
      · rw [hgo, if_neg z, gI_oth (by decide), gI_oth (by decide), gI_ne z]
        exact hi c (by omega)
    · rw [q2, jb2_some, jg_pos (rgk rfl), if_neg n10, jb1_some, jg_pos (by omega)]
      simp only [jl_eq, Int.toNat_natCast, gI_oth (show (44 : Nat) ≠ 85 by decide), gI_oth (show (44 : Nat) ≠ 86 by decide)]
      refine ih (b + 1) f _ (by omega) (by omega) (exc_wI (exc_wI (exc_wI (exc_tr hx (o_p q4)) rfl) rfl) rfl) (fun c hc => ?_)
      have hgo := gO_w (h := g2) (b := b) (p := pH g2) c
      unfold pH at hgo
      dsimp only at hgo
      by_cases z : c = b
      · subst z
        refine ⟨fun _ => ?_, fun y => absurd q1 y⟩
        rw [hgo, if_pos rfl]
        exact q3
      · rw [hgo, if_neg z, gI_oth (by decide), gI_oth (by decide), gI_ne z, q4.1 85 c rfl]
        have hgg : gO g2 c = gO g1 c := by
          unfold gO
          rw [q4.1 85 c rfl, q4.1 86 c rfl, q4.1 87 c rfl]
        rw [hgg]
        exact hi c (by omega)
theorem md_walls_eq {n : Nat} {g : gm_T} {P : Nat → plc} (h : IWm n g P) {g0 : gm_T} (e0 : keepC g0 = keepC g) (H0 : isGr n g P g0) : ∃ g2, md_walls g0 = some g2 ∧ exc W_o nob g0 g2 ∧ isO n (onW n g) P g2 := by
  have h30 := h.1.1.2.2
  obtain ⟨g2, e1, e2⟩ := md_walls_lp h e0 H0 n 0 fz g0 (by omega) (Nat.lt_of_le_of_lt h30 (fz_gt rfl)) exc_rf (fun c hc => by omega)
  unfold md_walls
  rw [show md_walls_l2 fz 0 g0 = some g2 from e1, jb1_some]
  exact ⟨g2, rfl, e2⟩
/-- a group's bits are placed with one of them -/
theorem md_places_lp {n : Nat} {g : gm_T} {P : Nat → plc} (h : IWm n g P) {g0 : gm_T} (e0 : keepC g0 = keepC g) (H0 : isGr n g P g0) {a : Nat} (ha : a < n) {q : plc} {M : Int} (hq : bpl M q) (hM : M ≤ 800000) (hM0 : 0 ≤ M) : ∀ (d b fuel : Nat) (g1 : gm_T), b + d = n → d < fuel → exc W_o nob g0 g1 → (∀ c, gO g1 c = if c < b ∧ rt g c = rt g a then pon q (rel (P a) (P c)) else gO g0 c) → ∃ g2, md_places_l3 (a : Int) q.1 q.2.1 q.2.2 fuel (b : Int) g1 = some g2 ∧ exc W_o nob g0 g2 ∧ ∀ c, gO g2 c = if c < n ∧ rt g c = rt g a then pon q (rel (P a) (P c)) else gO g0 c := by
  have h30 := h.1.1.2.2
  have hra := rt_le g a
  intro d
  induction d with
  | zero =>
    intro b fuel g1 hd hf hx hi
    obtain ⟨f, rfl⟩ : ∃ f, fuel = f + 1 := ⟨fuel - 1, by omega⟩
    have hk : b = n := by omega
    subst hk
    have e1 := (keepC_scr (scr_o hx)).trans e0
    unfold md_places_l3
    rw [(num_C e1 h.1.1).2.1, jg_pos ⟨rgn (by omega), rgn (by omega)⟩, if_neg (by omega)]
    exact ⟨g1, rfl, hx, hi⟩
  | succ d ih =>
    intro b fuel g1 hd hf hx hi
    obtain ⟨f, rfl⟩ : ∃ f, fuel = f + 1 := ⟨fuel - 1, by omega⟩
    have hb : b < n := by omega
    have hrb := rt_le g b
    have e1 := (keepC_scr (scr_o hx)).trans e0
    have H1 := isGr_o H0 hx
    unfold md_places_l3
    rw [(num_C e1 h.1.1).2.1, jg_pos ⟨rgn (by omega), rgn (by omega)⟩, if_pos (by omega), jg_pos (by omega), jg_pos (by omega), Int.toNat_natCast, Int.toNat_natCast, (H1 b hb).1, (H1 a ha).1, jg_pos ⟨rgn (by omega), rgn (by omega)⟩]
    by_cases c1 : rt g b = rt g a
    · obtain ⟨g2, k1, k2, k3⟩ := md_holds_eq g1 q.1 q.2.1 q.2.2
      obtain ⟨g3, l1, l2, l3⟩ := md_thenWithin_eq (I_fit_tr (keepF_C e0) h.1) (V_jm_tr e0 h.2.1) (isWm_tr e0 h.2.2.2) (P := P) (h := g2) (by
        have := isGr_p H1 k3
        intro x hx2
        rw [c_rt e0]
        exact this x hx2) ha hb (by rw [c_cn e0]; exact rt_iff.mp c1.symm) (M := M) (by rw [k2]; exact hq) (by omega) hM0
      have hx3 : exc W_p nob g1 g3 := exc_tr k3 l3
      rw [if_pos (by omega), k1, jb1_some, l1, jb1_some]
      simp only [jl_eq, gI_oth (show (44 : Nat) ≠ 85 by decide), gI_oth (show (44 : Nat) ≠ 86 by decide)]
      refine ih (b + 1) f _ (by omega) (by omega) (exc_wI (exc_wI (exc_wI (exc_tr hx (o_p hx3)) rfl) rfl) rfl) (fun c => ?_)
      have hgo := gO_w (h := g3) (b := b) (p := pH g3) c
      unfold pH at hgo
      dsimp only at hgo
      rw [hgo]
      by_cases z : c = b
      · subst z
        rw [if_pos rfl, if_pos ⟨by omega, c1⟩]
        have : pH g3 = pon q (rel (P a) (P c)) := by rw [l2, k2]
        exact this
      · have hgg : gO g3 c = gO g1 c := by
          unfold gO
          rw [hx3.1 85 c rfl, hx3.1 86 c rfl, hx3.1 87 c rfl]
        rw [if_neg z, hgg, hi c]
        by_cases z2 : c < b ∧ rt g c = rt g a
        · rw [if_pos z2, if_pos ⟨by omega, z2.2⟩]
        · rw [if_neg z2, if_neg (fun y => z2 ⟨by omega, y.2⟩)]
    · rw [if_neg (by omega)]
      refine ih (b + 1) f g1 (by omega) (by omega) hx (fun c => ?_)
      rw [hi c]
      by_cases z2 : c < b ∧ rt g c = rt g a
      · rw [if_pos z2, if_pos ⟨by omega, z2.2⟩]
      · rw [if_neg z2, if_neg (fun y => z2 ⟨by
          by_cases z : c = b
          · rw [z] at y
            exact absurd y.2 c1
          · omega, y.2⟩)]
theorem md_places_eq {n : Nat} {g : gm_T} {P : Nat → plc} (h : IWm n g P) {g0 : gm_T} (e0 : keepC g0 = keepC g) (H0 : isGr n g P g0) {a : Nat} (ha : a < n) {q : plc} {M : Int} (hq : bpl M q) (hM : M ≤ 800000) (hM0 : 0 ≤ M) : ∃ g2, md_places g0 (a : Int) q.1 q.2.1 q.2.2 = some g2 ∧ exc W_o nob g0 g2 ∧ ∀ c, gO g2 c = if c < n ∧ rt g c = rt g a then pon q (rel (P a) (P c)) else gO g0 c := by
  have h30 := h.1.1.2.2
  obtain ⟨g2, e1, e2⟩ := md_places_lp h e0 H0 ha hq hM hM0 n 0 fz g0 (by omega) (Nat.lt_of_le_of_lt h30 (fz_gt rfl)) exc_rf (fun c => by rw [if_neg (by omega)])
  unfold md_places
  rw [show md_places_l3 (a : Int) q.1 q.2.1 q.2.2 fz 0 g0 = some g2 from e1, jb1_some]
  exact ⟨g2, rfl, e2⟩
theorem md_overlapThere_eq {n : Nat} {g : gm_T} (I : I_fit n g) {g1 : gm_T} (e1 : keepC g1 = keepC g) {a b : Nat} (ha : a < n) (hb : b < n) {M : Int} (hA : bpl M (gO g1 a)) (hB : bpl M (gO g1 b)) (hM : M ≤ 400000) (hM0 : 0 ≤ M) : ∃ g2, md_overlapThere g1 (a : Int) (b : Int) = some (((ov g a b (rel (gO g1 a) (gO g1 b)).1 (rel (gO g1 a) (gO g1 b)).2.1 (rel (gO g1 a) (gO g1 b)).2.2 : Nat) : Int), g2) ∧ exc W_p nob g1 g2 := by
  have h30 := I.1.2.2
  obtain ⟨g2, k1, k2, k3⟩ := md_holds_eq g1 0 0 0
  have gO2 : gO g2 = gO g1 := funext fun c => by
    unfold gO
    rw [k3.1 85 c rfl, k3.1 86 c rfl, k3.1 87 c rfl]
  have z0 : bpl 0 (pH g2) := by rw [k2]; exact ⟨⟨by decide, by decide⟩, ⟨by decide, by decide⟩, by decide, by decide⟩
  obtain ⟨g3, l1, l2, l3⟩ := md_thenBack_eq (g := g2) z0 (x := gm_I g2 85 a) (y := gm_I g2 86 a) (z := gm_I g2 87 a) (N := M) (by
    have : bpl M (gO g2 a) := by rw [gO2]; exact hA
    exact this) (by omega) (by decide)
  have hr : pH g3 = pin (gO g1 a) := by
    rw [l2, k2]
    have : (gm_I g2 85 a, gm_I g2 86 a, gm_I g2 87 a) = gO g1 a := by rw [← gO2]; rfl
    rw [this]
    exact p0_on (pin_okt hA.1)
  have gO3 : gO g3 = gO g1 := by
    rw [← gO2]
    funext c
    unfold gO
    rw [l3.1 85 c rfl, l3.1 86 c rfl, l3.1 87 c rfl]
  obtain ⟨g4, m1, m2, m3⟩ := md_then_eq (g := g3) (M := M) (by rw [hr]; exact bpl_in hA) (x := gm_I g3 85 b) (y := gm_I g3 86 b) (z := gm_I g3 87 b) (N := M) (by
    have : bpl M (gO g3 b) := by rw [gO3]; exact hB
    exact this) (by omega)
  have hr4 : pH g4 = rel (gO g1 a) (gO g1 b) := by
    rw [m2, hr]
    have : (gm_I g3 85 b, gm_I g3 86 b, gm_I g3 87 b) = gO g1 b := by rw [← gO3]; rfl
    rw [this]
    rfl
  have hx : exc W_p nob g1 g4 := exc_tr k3 (exc_tr l3 m3)
  have e4 := (keepC_scr (scr_p hx)).trans e1
  have I4 := I_fit_tr (keepF_C e4) I
  have hb4 := bpl_on (bpl_in hA) hB
  have p1 : gm_I g4 44 49 = (rel (gO g1 a) (gO g1 b)).1 := congrArg (fun p : plc => p.1) hr4
  have p2 : gm_I g4 44 50 = (rel (gO g1 a) (gO g1 b)).2.1 := congrArg (fun p : plc => p.2.1) hr4
  have p3 : gm_I g4 44 51 = (rel (gO g1 a) (gO g1 b)).2.2 := congrArg (fun p : plc => p.2.2) hr4
  have hbr : bpl (M + M) (rel (gO g1 a) (gO g1 b)) := hb4
  unfold md_overlapThere
  rw [k1, jb1_some, jg_pos (by omega), Int.toNat_natCast, l1, jb1_some, jg_pos (by omega), Int.toNat_natCast, m1, jb1_some, p1, p2, p3, md_overlaps_eq I4.2.2.1 h30 ha hb ((I4.2.1 b hb).2.2.2.2.2.2.2.1.2) hbr.1 (by have := hbr.2.1; omega) (by have := hbr.2.2; omega), jb1_some, k_ov (keepF_C e4)]
  exact ⟨g4, rfl, hx⟩
def W_cl (a k : Nat) : Bool := a == 75 || (a == 44 && (k == 35 || k == 36 || k == 37 || k == 38))
theorem md_clby_lp {g : gm_T} {c5 : Int} {u : Nat} (hu : u ≤ 60) (h55 : gm_I g 44 55 = (u : Int)) : ∀ (d i fuel : Nat) (g1 : gm_T), i + d = u → d < fuel → exc (fun a _ => a == 75) nob g g1 → (∀ j, j < i → gm_I g1 75 j = gm_I g 84 j) → ∃ g2, md_clashesBy_l26 c5 fuel (i : Int) g1 = some g2 ∧ exc (fun a _ => a == 75) nob g g2 ∧ ∀ j, j < u → gm_I g2 75 j = gm_I g 84 j := by
  intro d
  induction d with
  | zero =>
    intro i fuel g1 hd hf hx hi
    obtain ⟨f, rfl⟩ : ∃ f, fuel = f + 1 := ⟨fuel - 1, by omega⟩
    have hk : i = u := by omega
    subst hk
    unfold md_clashesBy_l26
    rw [hx.1 44 55 rfl, h55, jg_pos ⟨rgn (by omega), rgn (by omega)⟩, if_neg (by omega)]
    exact ⟨g1, rfl, hx, hi⟩
  | succ d ih =>
    intro i fuel g1 hd hf hx hi
    obtain ⟨f, rfl⟩ : ∃ f, fuel = f + 1 := ⟨fuel - 1, by omega⟩
    unfold md_clashesBy_l26
    rw [hx.1 44 55 rfl, h55, jg_pos ⟨rgn (by omega), rgn (by omega)⟩, if_pos (by omega), jg_pos (by omega), jl_eq, Int.toNat_natCast]
    refine ih (i + 1) f (gm_wI g1 75 i (gm_I g1 84 i)) (by omega) (by omega) (exc_wI hx rfl) (fun j hj => ?_)
    by_cases z : j = i
    · rw [z, gI_eq, hx.1 84 i rfl]
    · rw [gI_ne z]
      exact hi j (by omega)
theorem md_clby_eq {g : gm_T} {k one two : Int} {u : Nat} (hu : u ≤ 60) (h55 : gm_I g 44 55 = (u : Int)) : ∃ g2, md_clashesBy g k one two = some (-10 - k, g2) ∧ gm_I g2 44 35 = k ∧ gm_I g2 44 36 = (u : Int) ∧ gm_I g2 44 37 = one ∧ gm_I g2 44 38 = two ∧ (∀ j, j < u → gm_I g2 75 j = gm_I g 84 j) ∧ exc W_cl nob g g2 := by
  obtain ⟨g2, e1, e2, e3⟩ := md_clby_lp (g := gm_wI (gm_wI (gm_wI (gm_wI g 44 35 k) 44 37 one) 44 38 two) 44 36 (u : Int)) (c5 := k) hu (by rw [gI_ne (by decide), gI_ne (by decide), gI_ne (by decide), gI_ne (by decide)]; exact h55) u 0 fz _ (by omega) (Nat.lt_of_le_of_lt hu (fz_gt rfl)) exc_rf (fun j hj => by omega)
  unfold md_clashesBy
  simp only [jl_eq, gI_ne (show (55 : Nat) ≠ 35 by decide), gI_ne (show (55 : Nat) ≠ 37 by decide), gI_ne (show (55 : Nat) ≠ 38 by decide), h55]
  rw [show md_clashesBy_l26 k fz 0 _ = some g2 from e1, jb1_some]
  refine ⟨g2, rfl, ?_, ?_, ?_, ?_, fun j hj => ?_, ?_⟩
  · rw [e2.1 44 35 rfl, gI_ne (by decide), gI_ne (by decide), gI_ne (by decide), gI_eq]
  · rw [e2.1 44 36 rfl, gI_eq]
  · rw [e2.1 44 37 rfl, gI_ne (by decide), gI_ne (by decide), gI_eq]
  · rw [e2.1 44 38 rfl, gI_ne (by decide), gI_eq]
  · rw [e3 j hj, gI_oth (by decide), gI_oth (by decide), gI_oth (by decide), gI_oth (by decide)]
  · refine exc_tr (exc_wI (exc_wI (exc_wI (exc_wI exc_rf rfl) rfl) rfl) rfl) (exc_mono e2 (fun a k q => ?_) (fun _ _ q => q))
    rw [beq_iff_eq] at q
    subst q
    rfl
/-- the reference's pairs -/
def hitm (g : gm_T) (r : Nat) (but : Int) (g0 : gm_T) (a b : Nat) : Prop := rt g a = r ∧ rt g b ≠ r ∧ (rt g b : Int) ≠ but ∧ gm_I g0 85 b ≠ -1 ∧ bad g a b (gO g0 a) (gO g0 b)
/-- the outcome of hits: nothing, or the clash 5 of the first pair -/
def hitR (n : Nat) (p : Nat → Nat → Prop) (g0 : gm_T) (o : Option (Int × gm_T)) : Prop := ((∀ a b, a < n → b < n → ¬ p a b) ∧ ∃ g2, o = some (0, g2) ∧ exc W_p nob g0 g2) ∨ ∃ a b, LF p n a b ∧ ∃ g2, o = some (-15, g2) ∧ gm_I g2 44 35 = 5 ∧ gm_I g2 44 36 = 0 ∧ gm_I g2 44 37 = (a : Int) ∧ gm_I g2 44 38 = (b : Int) ∧ exc (fun a k => W_p a k || W_cl a k) nob g0 g2
theorem md_hits_row {n : Nat} {g : gm_T} {P : Nat → plc} (h : IWm n g P) {g0 : gm_T} (e0 : keepC g0 = keepC g) (H0 : isGr n g P g0) (h55 : gm_I g0 44 55 = 0) {M : Int} (hM : M ≤ 400000) (hM0 : 0 ≤ M) {r : Nat} (hr : r < n) {but : Int} (hbt : rg but) (hO : ∀ b, b < n → (rt g b = r → bpl M (gO g0 b)) ∧ (gm_I g0 85 b = -1 ∨ bpl M (gO g0 b))) {a : Nat} (ha : a < n) : ∀ (d b fuel : Nat) (g1 : gm_T), b + d = n → d < fuel → exc W_p nob g0 g1 → (∀ b2, b2 < b → ¬ hitm g r but g0 a b2) → ((∀ b2, b2 < n → ¬ hitm g r but g0 a b2) ∧ ∃ g2, md_hits_l18 (r : Int) but (a : Int) fuel (b : Int) g1 = some (.inl g2) ∧ exc W_p nob g0 g2) ∨ ∃ b2, b2 < n ∧ hitm g r but g0 a b2 ∧ (∀ b3, b3 < b2 → ¬ hitm g r but g0 a b3) ∧ ∃ g2, md_hits_l18 (r : Int) but (a : Int) fuel (b : Int) g1 = some (.inr (-15, g2)) ∧ gm_I g2 44 35 = 5 ∧ gm_I g2 44 36 = 0 ∧ gm_I g2 44 37 = (a : Int) ∧ gm_I g2 44 38 = (b2 : Int) ∧ exc (fun a k => W_p a k || W_cl a k) nob g0 g2 := by
  have h30 := h.1.1.2.2
  intro d
  induction d with
  | zero =>
    intro b fuel g1 hd hf hx hno
    obtain ⟨f, rfl⟩ : ∃ f, fuel = f + 1 := ⟨fuel - 1, by omega⟩
    have hk : b = n := by omega
    subst hk
    have e1 := (keepC_scr (scr_p hx)).trans e0
    left
    unfold md_hits_l18
    rw [(num_C e1 h.1.1).2.1, jg_pos ⟨rgn (by omega), rgn (by omega)⟩, if_neg (by omega)]
    exact ⟨hno, g1, rfl, hx⟩
  | succ d ih =>
    intro b fuel g1 hd hf hx hno
    obtain ⟨f, rfl⟩ : ∃ f, fuel = f + 1 := ⟨fuel - 1, by omega⟩
    have hb : b < n := by omega
    have hra := rt_le g a
    have hrb := rt_le g b
    have e1 := (keepC_scr (scr_p hx)).trans e0
    have H1 := isGr_p H0 hx
    have gO1 : gO g1 = gO g0 := funext fun c => by
      unfold gO
      rw [hx.1 85 c rfl, hx.1 86 c rfl, hx.1 87 c rfl]
    have skip : ∀ g1', exc W_p nob g0 g1' → ¬ hitm g r but g0 a b → ((∀ b2, b2 < n → ¬ hitm g r but g0 a b2) ∧ ∃ g2, md_hits_l18 (r : Int) but (a : Int) f ((b : Int) + 1) g1' = some (.inl g2) ∧ exc W_p nob g0 g2) ∨ ∃ b2, b2 < n ∧ hitm g r but g0 a b2 ∧ (∀ b3, b3 < b2 → ¬ hitm g r but g0 a b3) ∧ ∃ g2, md_hits_l18 (r : Int) but (a : Int) f ((b : Int) + 1) g1' = some (.inr (-15, g2)) ∧ gm_I g2 44 35 = 5 ∧ gm_I g2 44 36 = 0 ∧ gm_I g2 44 37 = (a : Int) ∧ gm_I g2 44 38 = (b2 : Int) ∧ exc (fun a k => W_p a k || W_cl a k) nob g0 g2 := by
      intro g1' hx' hq
      exact ih (b + 1) f g1' (by omega) (by omega) hx' (fun b2 hb2 => by
        by_cases z : b2 = b
        · rw [z]; exact hq
        · exact hno b2 (by omega))
    unfold md_hits_l18
    rw [(num_C e1 h.1.1).2.1, jg_pos ⟨rgn (by omega), rgn (by omega)⟩, if_pos (by omega), jg_pos (by omega), Int.toNat_natCast, (H1 a ha).1, jg_pos ⟨rgn (by omega), rgn (by omega)⟩]
    by_cases c1 : rt g a = r
    · rw [if_pos (by omega), jg_pos (by omega), Int.toNat_natCast, (H1 b hb).1, jg_pos (rgn (by omega))]
      by_cases c2 : rt g b = r
      · rw [if_pos (by omega)]
        exact skip g1 hx (fun z => z.2.1 c2)
      · rw [if_neg (by omega), jg_pos hbt]
        by_cases c3 : (rt g b : Int) = but
        · rw [if_pos c3]
          exact skip g1 hx (fun z => z.2.2.1 c3)
        · rw [if_neg c3, hx.1 85 b rfl]
          have hO85 : rg (gm_I g0 85 b) := by
            rcases (hO b hb).2 with z | z
            · rw [z]; exact rgk rfl
            · exact ⟨by have := z.1.1; unfold gO at this; dsimp only at this; omega, by have := z.1.2; unfold gO at this; dsimp only at this; omega⟩
          rw [jg_pos hO85]
          by_cases c4 : gm_I g0 85 b = -1
          · rw [if_pos c4]
            exact skip g1 hx (fun z => z.2.2.2.1 c4)
          · rw [if_neg c4]
            have hB : bpl M (gO g0 b) := by
              rcases (hO b hb).2 with z | z
              · exact absurd z c4
              · exact z
            obtain ⟨g2, k1, k2⟩ := md_overlapThere_eq h.1 e1 ha hb (M := M) (by rw [gO1]; exact (hO a ha).1 c1) (by rw [gO1]; exact hB) hM hM0
            rw [gO1] at k1
            have hx2 := exc_tr hx k2
            have e2 := (keepC_scr (scr_p hx2)).trans e0
            have htol : gm_I g2 44 20 = gm_I g 44 20 := by
              have : gm_I (keepC g2) 44 20 = gm_I (keepC g) 44 20 := by rw [e2]
              exact this
            have hov := ov_le g a b (rel (gO g0 a) (gO g0 b)).1 (rel (gO g0 a) (gO g0 b)).2.1 (rel (gO g0 a) (gO g0 b)).2.2
            have ht := h.1.2.2.2.1
            rw [k1, jb2_some, htol, jg_pos ⟨rgn (by omega), by have := ht.2; exact ⟨by omega, by omega⟩⟩]
            by_cases c5 : ((ov g a b (rel (gO g0 a) (gO g0 b)).1 (rel (gO g0 a) (gO g0 b)).2.1 (rel (gO g0 a) (gO g0 b)).2.2 : Nat) : Int) ≤ gm_I g 44 20
            · rw [if_pos c5]
              refine skip g2 hx2 (fun z => ?_)
              have := z.2.2.2.2
              unfold bad at this
              omega
            · rw [if_neg c5]
              right
              obtain ⟨g3, l1, l2, l3, l4, l5, l6, l7⟩ := md_clby_eq (g := g2) (k := 5) (one := (a : Int)) (two := (b : Int)) (u := 0) (by decide) (by rw [hx2.1 44 55 rfl]; exact h55)
              rw [l1, jb2_some]
              refine ⟨b, hb, ⟨c1, c2, c3, c4, by unfold bad; omega⟩, hno, g3, rfl, l2, l3, l4, l5, exc_tr (exc_mono hx2 (fun a k q => by rw [q]; rfl) (fun _ _ q => q)) (exc_mono l7 (fun a k q => by rw [q, Bool.or_true]) (fun _ _ q => q))⟩
    · rw [if_neg (by omega)]
      left
      exact ⟨fun b2 _ z => c1 z.1, g1, rfl, hx⟩
theorem md_hits_lp {n : Nat} {g : gm_T} {P : Nat → plc} (h : IWm n g P) {g0 : gm_T} (e0 : keepC g0 = keepC g) (H0 : isGr n g P g0) (h55 : gm_I g0 44 55 = 0) {M : Int} (hM : M ≤ 400000) (hM0 : 0 ≤ M) {r : Nat} (hr : r < n) {but : Int} (hbt : rg but) (hO : ∀ b, b < n → (rt g b = r → bpl M (gO g0 b)) ∧ (gm_I g0 85 b = -1 ∨ bpl M (gO g0 b))) : ∀ (d a fuel : Nat) (g1 : gm_T), a + d = n → d < fuel → exc W_p nob g0 g1 → (∀ a2 b2, a2 < a → b2 < n → ¬ hitm g r but g0 a2 b2) → hitR n (hitm g r but g0) g0 (md_hits_l7 (r : Int) but fuel (a : Int) g1) := by
  have h30 := h.1.1.2.2
  intro d
  induction d with
  | zero =>
    intro a fuel g1 hd hf hx hno
    obtain ⟨f, rfl⟩ : ∃ f, fuel = f + 1 := ⟨fuel - 1, by omega⟩
    have hk : a = n := by omega
    subst hk
    have e1 := (keepC_scr (scr_p hx)).trans e0
    left
    unfold md_hits_l7
    rw [(num_C e1 h.1.1).2.1, jg_pos ⟨rgn (by omega), rgn (by omega)⟩, if_neg (by omega)]
    exact ⟨hno, g1, rfl, hx⟩
  | succ d ih =>
    intro a fuel g1 hd hf hx hno
    obtain ⟨f, rfl⟩ : ∃ f, fuel = f + 1 := ⟨fuel - 1, by omega⟩
    have ha : a < n := by omega
    have e1 := (keepC_scr (scr_p hx)).trans e0
    unfold md_hits_l7
    rw [(num_C e1 h.1.1).2.1, jg_pos ⟨rgn (by omega), rgn (by omega)⟩, if_pos (by omega)]
    rcases md_hits_row h e0 H0 h55 hM hM0 hr hbt hO ha n 0 fz g1 (by omega) (Nat.lt_of_le_of_lt h30 (fz_gt rfl)) hx (fun b2 hb2 => by omega) with ⟨z1, g2, z2, z3⟩ | ⟨b2, z1, z2, z3, g2, z4, z5⟩
    · rw [show ((0 : Nat) : Int) = 0 from rfl] at z2
      rw [z2, jc1_inl]
      exact ih (a + 1) f g2 (by omega) (by omega) z3 (fun a2 b2 h1 h2 => by
        by_cases y : a2 = a
        · rw [y]; exact z1 b2 h2
        · exact hno a2 b2 (by omega) h2)
    · rw [show ((0 : Nat) : Int) = 0 from rfl] at z4
      rw [z4, jc1_inr]
      exact Or.inr ⟨a, b2, ⟨ha, z1, z2, z3, hno⟩, g2, rfl, z5⟩
theorem md_hits_eq {n : Nat} {g : gm_T} {P : Nat → plc} (h : IWm n g P) {g0 : gm_T} (e0 : keepC g0 = keepC g) (H0 : isGr n g P g0) {M : Int} (hM : M ≤ 400000) (hM0 : 0 ≤ M) {r : Nat} (hr : r < n) {but : Int} (hbt : rg but) (hO : ∀ b, b < n → (rt g b = r → bpl M (gO g0 b)) ∧ (gm_I g0 85 b = -1 ∨ bpl M (gO g0 b))) : hitR n (hitm g r but g0) (gm_wI g0 44 55 0) (md_hits g0 (r : Int) but) := by
  have h30 := h.1.1.2.2
  have e1 : keepC (gm_wI g0 44 55 0) = keepC g0 := keepC_scr (exc_wI exc_rf rfl)
  have h2 := md_hits_lp h (e1.trans e0) (isGr_w H0 rfl) gI_eq hM hM0 hr hbt (by
    intro b hb
    exact hO b hb) n 0 fz (gm_wI g0 44 55 0) (by omega) (Nat.lt_of_le_of_lt h30 (fz_gt rfl)) exc_rf (fun a2 b2 h1 => by omega)
  unfold md_hits
  rw [jl_eq]
  exact h2
