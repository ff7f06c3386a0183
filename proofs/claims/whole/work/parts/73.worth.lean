/-! Arrangements: fits both ways, what they are worth. -/
theorem rel_0 {p : plc} (hp : okt p) : rel p0 p = p := by
  unfold rel
  rw [show pin p0 = p0 from by decide, p0_on hp]
theorem ov_sym (g : gm_T) (a b : Nat) {p q : plc} (hp : okt p) (hq : okt q) : ov g a b (rel p q).1 (rel p q).2.1 (rel p q).2.2 = ov g b a (rel q p).1 (rel q p).2.1 (rel q p).2.2 := by
  rw [← ov_rel g a b hp hq, ← ov_rel g b a hq hp]
  have h := ovl_eq (Kt_in g a hp) (Kt_in g b hq) (p.2.1 - q.2.1) (p.2.2 - q.2.2)
  unfold ovl at h
  have e1 : ∀ x y : Int, Kt g b q.1 (x - (q.2.1 - p.2.1)) (y - (q.2.2 - p.2.2)) = Kt g b q.1 (x + (p.2.1 - q.2.1)) (y + (p.2.2 - q.2.2)) := fun x y => by
    rw [show x - (q.2.1 - p.2.1) = x + (p.2.1 - q.2.1) by omega, show y - (q.2.2 - p.2.2) = y + (p.2.2 - q.2.2) by omega]
  simp only [e1]
  rw [h]
  refine s2_cong (fun x y _ _ _ _ => ?_)
  rw [Bool.and_comm]
theorem bad_sym {g : gm_T} {a b : Nat} {p q : plc} (hp : okt p) (hq : okt q) : bad g a b p q ↔ bad g b a q p := by
  unfold bad
  rw [ov_sym g a b hp hq]
theorem tn_sp {g : gm_T} {a k b l : Nat} (h : tn g a k b l ≠ -1) : tX (tn g a k b l) (wX g b l) (wY g b l) = -wX g a k ∧ tY (tn g a k b l) (wX g b l) (wY g b l) = -wY g a k := by
  have e := tf_tn h
  rw [← e] at h ⊢
  unfold tf at *
  by_cases h0 : wX g b l = -wX g a k ∧ wY g b l = -wY g a k
  · rw [if_pos h0]
    exact h0
  · rw [if_neg h0] at h ⊢
    by_cases h1 : -wY g b l = -wX g a k ∧ wX g b l = -wY g a k
    · rw [if_pos h1]
      exact h1
    · rw [if_neg h1] at h ⊢
      by_cases h2 : -wX g b l = -wX g a k ∧ -wY g b l = -wY g a k
      · rw [if_pos h2]
        exact h2
      · rw [if_neg h2] at h ⊢
        by_cases h3 : wY g b l = -wX g a k ∧ -wX g b l = -wY g a k
        · rw [if_pos h3]
          exact h3
        · rw [if_neg h3] at h
          exact absurd rfl h
theorem fpl_sym {g : gm_T} {a k b l : Nat} (h : tn g a k b l ≠ -1) : fpl g b l a k = pin (fpl g a k b l) := by
  have e1 := tn_inv g a k b l
  rw [if_neg h] at e1
  have hi := tn_in g a k b l
  have hs := tn_sp h
  unfold fpl pin fX fY
  rw [e1]
  unfold wX wY at hs
  dsimp only
  have ht : 0 ≤ tn g a k b l ∧ tn g a k b l ≤ 3 := by omega
  generalize tn g a k b l = t at hs ht ⊢
  generalize mX g a (nx g a k) = x1 at hs ⊢
  generalize mY g a (nx g a k) = y1 at hs ⊢
  generalize mX g a k = x2 at hs ⊢
  generalize mY g a k = y2 at hs ⊢
  generalize mX g b (nx g b l) = x3 at hs ⊢
  generalize mY g b (nx g b l) = y3 at hs ⊢
  generalize mX g b l = x4 at hs ⊢
  generalize mY g b l = y4 at hs ⊢
  refine pl_ext rfl ?_ ?_
  · rcases t4 ht with rfl | rfl | rfl | rfl <;> simp [tX, tY] at hs ⊢ <;> omega
  · rcases t4 ht with rfl | rfl | rfl | rfl <;> simp [tX, tY] at hs ⊢ <;> omega
theorem fpl_okt {g : gm_T} {a k b l : Nat} (h : tn g a k b l ≠ -1) : okt (fpl g a k b l) := by
  have hi := tn_in g a k b l
  exact ⟨by show 0 ≤ tn g a k b l; omega, hi.2⟩
theorem isF_bad {g : gm_T} {a k b l : Nat} : isF g a k b l ↔ a ≠ b ∧ tn g a k b l ≠ -1 ∧ ¬ bad g a b p0 (fpl g a k b l) := by
  have key : tn g a k b l ≠ -1 → (((ov g a b (tn g a k b l) (fX g a k b l) (fY g a k b l) : Nat) : Int) ≤ gm_I g 44 20 ↔ ¬ bad g a b p0 (fpl g a k b l)) := fun h => by
    unfold bad
    rw [rel_0 (fpl_okt h)]
    show ((ov g a b (tn g a k b l) (fX g a k b l) (fY g a k b l) : Nat) : Int) ≤ gm_I g 44 20 ↔ ¬ gm_I g 44 20 < ((ov g a b (tn g a k b l) (fX g a k b l) (fY g a k b l) : Nat) : Int)
    omega
  unfold isF
  constructor
  · rintro ⟨h1, h2, h3⟩
    exact ⟨h1, h2, (key h2).mp h3⟩
  · rintro ⟨h1, h2, h3⟩
    exact ⟨h1, h2, (key h2).mpr h3⟩
theorem bad_mv {g : gm_T} {a b : Nat} {p q r : plc} (hp : okt p) (hq : okt q) (hr : okt r) : bad g a b (pon p q) (pon p r) ↔ bad g a b q r := by
  have e : rel (pon p q) (pon p r) = rel q r := by
    unfold rel
    rw [pin_pon hp hq, pon_assoc (pin_okt hq) (pin_okt hp), ← pon_assoc (pin_okt hp) hp, pin_on hp, p0_on hr]
  unfold bad
  rw [e]
theorem okt_0 : okt p0 := ⟨by decide, by decide⟩
theorem isF_sym {g : gm_T} {a k b l : Nat} (h : isF g a k b l) : isF g b l a k := by
  obtain ⟨h1, h2, h3⟩ := isF_bad.mp h
  have ho := fpl_okt h2
  have e1 := tn_inv g a k b l
  rw [if_neg h2] at e1
  have hi := tn_in g a k b l
  refine isF_bad.mpr ⟨fun q => h1 q.symm, by omega, fun z => h3 ?_⟩
  rw [fpl_sym h2] at z
  have z2 := (bad_mv (p := fpl g a k b l) ho okt_0 (pin_okt ho)).mpr z
  rw [pon_0 ho, pon_in ho] at z2
  exact (bad_sym ho okt_0).mp z2
/-- a placing by a fit -/
def FP (g : gm_T) (a b : Nat) (p : plc) : Prop := ∃ k l : Nat, ((k : Int) < mE g a ∧ (l : Int) < mE g b) ∧ isF g a k b l ∧ fpl g a k b l = p
theorem FP_okt {g : gm_T} {a b : Nat} {p : plc} (h : FP g a b p) : okt p := by
  obtain ⟨k, l, -, h1, rfl⟩ := h
  exact fpl_okt h1.2.1
theorem FP_b {n : Nat} {g : gm_T} (h : V_bit n g) {a b : Nat} (ha : a < n) (hb : b < n) {p : plc} (hp : FP g a b p) : bpl 40 p := by
  obtain ⟨k, l, ⟨h1, h2⟩, h3, rfl⟩ := hp
  exact fpl_b h ha hb h1 h2 h3.2.1
theorem FP_bad {g : gm_T} {a b : Nat} {p : plc} (h : FP g a b p) : ¬ bad g a b p0 p := by
  obtain ⟨k, l, -, h1, rfl⟩ := h
  exact (isF_bad.mp h1).2.2
theorem FP_sym {g : gm_T} {a b : Nat} {p : plc} (h : FP g a b p) : FP g b a (pin p) := by
  obtain ⟨k, l, ⟨h1, h2⟩, h3, rfl⟩ := h
  exact ⟨l, k, ⟨h2, h1⟩, isF_sym h3, fpl_sym h3.2.1⟩
theorem FP_sym2 {g : gm_T} {a b : Nat} {p : plc} : FP g b a p ↔ ∃ r, FP g a b r ∧ p = pin r := by
  constructor
  · intro h
    exact ⟨pin p, FP_sym h, (pin_pin (FP_okt h)).symm⟩
  · rintro ⟨r, h, rfl⟩
    exact FP_sym h
-- sums
def si (f : Nat → Int) : Nat → Int
  | 0 => 0
  | n + 1 => si f n + f n
theorem si_0 {f : Nat → Int} : ∀ {n : Nat}, (∀ i, i < n → f i = 0) → si f n = 0
  | 0, _ => rfl
  | n + 1, h => by
    show si f n + f n = 0
    rw [si_0 (fun i hi => h i (by omega)), h n (by omega)]
    rfl
theorem si_b {f : Nat → Int} {c : Int} (h : ∀ i, 0 ≤ f i ∧ f i ≤ c) : ∀ n : Nat, 0 ≤ si f n ∧ si f n ≤ c * (n : Int)
  | 0 => by
    show (0 : Int) ≤ 0 ∧ (0 : Int) ≤ c * 0
    omega
  | n + 1 => by
    have h1 := si_b h n
    have h2 := h n
    have e : c * ((n + 1 : Nat) : Int) = c * (n : Int) + c := by
      rw [Int.natCast_add, Int.mul_add]
      omega
    show 0 ≤ si f n + f n ∧ si f n + f n ≤ c * ((n + 1 : Nat) : Int)
    omega
theorem si_cong {f h : Nat → Int} : ∀ {n : Nat}, (∀ i, i < n → f i = h i) → si f n = si h n
  | 0, _ => rfl
  | n + 1, q => by
    show si f n + f n = si h n + h n
    rw [si_cong (fun i hi => q i (by omega)), q n (by omega)]
noncomputable def wv (g : gm_T) (a b : Nat) (p : plc) (k l : Nat) : Int := @ite _ ((((k : Int) < mE g a ∧ (l : Int) < mE g b) ∧ isF g a k b l) ∧ fpl g a k b l = p) (gd _) (scv g a k b l (tn g a k b l)) 0
/-- the worth of the pairs ahead of (k, l) -/
noncomputable def wpp (g : gm_T) (a b : Nat) (p : plc) (k l : Nat) : Int := si (fun k => si (wv g a b p k) (mE g b).toNat) k + si (wv g a b p k) l
noncomputable def wt (g : gm_T) (a b : Nat) (p : plc) : Int := wpp g a b p (mE g a).toNat 0
theorem wpp_s {g : gm_T} {a b : Nat} {p : plc} {k l : Nat} : wpp g a b p k (l + 1) = wpp g a b p k l + wv g a b p k l := by
  unfold wpp
  show _ + (si (wv g a b p k) l + wv g a b p k l) = _
  rw [Int.add_assoc]
theorem wpp_n {g : gm_T} {a b : Nat} {p : plc} {k : Nat} : wpp g a b p k (mE g b).toNat = wpp g a b p (k + 1) 0 := by
  unfold wpp
  show si _ k + si (wv g a b p k) (mE g b).toNat = (si _ k + si (wv g a b p k) (mE g b).toNat) + 0
  rw [Int.add_zero]
theorem wv_b {n : Nat} {g : gm_T} (I : I_fit n g) {a b : Nat} (ha : a < n) (hb : b < n) (p : plc) (k l : Nat) : 0 ≤ wv g a b p k l ∧ wv g a b p k l ≤ 32 := by
  unfold wv
  by_cases h : (((k : Int) < mE g a ∧ (l : Int) < mE g b) ∧ isF g a k b l) ∧ fpl g a k b l = p
  · rw [@if_pos _ (gd _) h]
    exact scv_in I.2.1 I.2.2.2.2.1 ha hb h.1.1.1 h.1.1.2 _
  · rw [@if_neg _ (gd _) h]
    omega
theorem wpp_b {n : Nat} {g : gm_T} (I : I_fit n g) {a b : Nat} (ha : a < n) (hb : b < n) (p : plc) {k l : Nat} (hk : k ≤ 8) (hl : l ≤ 8) : 0 ≤ wpp g a b p k l ∧ wpp g a b p k l ≤ 5000 := by
  have h8 : (mE g b).toNat ≤ 8 := by
    have := (I.2.1 b hb).1.2.2
    unfold mE
    omega
  have h1 := si_b (f := fun k => si (wv g a b p k) (mE g b).toNat) (c := 256) (fun i => by
    have := si_b (f := wv g a b p i) (c := 32) (wv_b I ha hb p i) (mE g b).toNat
    omega) k
  have h2 := si_b (f := wv g a b p k) (c := 32) (wv_b I ha hb p k) l
  unfold wpp
  omega
theorem wt_b {n : Nat} {g : gm_T} (I : I_fit n g) {a b : Nat} (ha : a < n) (hb : b < n) (p : plc) : 0 ≤ wt g a b p ∧ wt g a b p ≤ 5000 := by
  refine wpp_b I ha hb p ?_ (by omega)
  have := (I.2.1 a ha).1.2.2
  unfold mE
  omega
theorem wpp_0 {g : gm_T} {a b : Nat} {p : plc} {k l : Nat} (h : ∀ k2 l2, (k2 < k ∨ (k2 = k ∧ l2 < l)) → ((k2 : Int) < mE g a ∧ (l2 : Int) < mE g b) → isF g a k2 b l2 → fpl g a k2 b l2 ≠ p) : wpp g a b p k l = 0 := by
  have z : ∀ k2 l2, (k2 < k ∨ (k2 = k ∧ l2 < l)) → wv g a b p k2 l2 = 0 := fun k2 l2 hp => by
    unfold wv
    rw [@if_neg _ (gd _) (fun q => h k2 l2 hp q.1.1 q.1.2 q.2)]
  unfold wpp
  rw [si_0 (f := fun k => si (wv g a b p k) (mE g b).toNat) (fun i hi => si_0 (fun j hj => z i j (Or.inl hi))), si_0 (fun j hj => z k j (Or.inr ⟨rfl, hj⟩))]
  rfl
theorem wt_0 {g : gm_T} {a b : Nat} {p : plc} (h : ¬ FP g a b p) : wt g a b p = 0 := wpp_0 (fun k2 l2 _ h1 h2 h3 => h ⟨k2, l2, h1, h2, h3⟩)
theorem k_wt {g g2 : gm_T} (e : keepF g2 = keepF g) (a b : Nat) (p : plc) : wt g2 a b p = wt g a b p := by
  have h : wv g2 a b p = wv g a b p := by
    funext k l
    unfold wv
    rw [k_isF e, k_fpl e, k_scv e, k_tn e, k_mE e, k_mE e]
  unfold wt wpp
  rw [h, k_mE e, k_mE e]
theorem k_FP {g g2 : gm_T} (e : keepF g2 = keepF g) (a b : Nat) (p : plc) : FP g2 a b p ↔ FP g a b p := by
  unfold FP
  simp only [k_isF e, k_fpl e, k_mE e]
