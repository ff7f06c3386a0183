/-! A bit's text: the reference reads it all. -/
def W_kc8 (n a j : Nat) : Bool := (a == 44 && (j == 40 || j == 41)) || (a == 46 && j == n) || ((a == 47 || a == 48 || a == 49) && decide (8 * n ≤ j ∧ j < 8 * n + 8))
def W_ks5 (n a j : Nat) : Bool := (a == 44 && (j == 40 || j == 41)) || (a == 50 && j == n) || ((a == 51 || a == 52 || a == 53) && decide (5 * n ≤ j ∧ j < 5 * n + 5))
theorem W_kc_8 {n m : Nat} (hm : m < 8) {g g2 : gm_T} (x : exc (W_kcn n (8 * n + m)) nob g g2) : exc (W_kc8 n) nob g g2 := exc_mono x (fun a j q => by
  unfold W_kcn W_kc at q
  unfold W_kc8
  simp only [Bool.or_eq_true, Bool.and_eq_true] at q ⊢
  rcases q with (q | ⟨q1, q2⟩) | q
  · exact Or.inl (Or.inl q)
  · exact Or.inr ⟨q1, decide_eq_true (by have := eq_of_beq q2; omega)⟩
  · exact Or.inl (Or.inr q)) (fun a j q => by cases q)
theorem W_ks_5 {n m : Nat} (hm : m < 5) {g g2 : gm_T} (x : exc (W_ksn n (5 * n + m)) nob g g2) : exc (W_ks5 n) nob g g2 := exc_mono x (fun a j q => by
  unfold W_ksn W_ks at q
  unfold W_ks5
  simp only [Bool.or_eq_true, Bool.and_eq_true] at q ⊢
  rcases q with (q | ⟨q1, q2⟩) | q
  · exact Or.inl (Or.inl q)
  · exact Or.inr ⟨q1, decide_eq_true (by have := eq_of_beq q2; omega)⟩
  · exact Or.inl (Or.inr q)) (fun a j q => by cases q)
theorem W_ps_8 {n : Nat} {g g2 : gm_T} (x : exc W_ps nob g g2) : exc (W_kc8 n) nob g g2 := exc_mono x (fun a j q => by
  unfold W_ps at q
  unfold W_kc8
  rw [q]; rfl) (fun a j q => by cases q)
theorem md_l34_end {g : gm_T} {L : Nat} {t : Nat → Int} {a : Int} {p fuel : Nat} (h : isP g L t a p true) : md_readsBit_l34 (fuel + 1) g = some g := by
  unfold md_readsBit_l34
  rw [h.2.1.2, wI1_t, jg_pos (rgk rfl), if_neg n10]
theorem md_l97_end {g : gm_T} {L : Nat} {t : Nat → Int} {a : Int} {p fuel : Nat} (h : isP g L t a p true) : md_readsBit_l97 (fuel + 1) g = some g := by
  unfold md_readsBit_l97
  rw [h.2.1.2, wI1_t, jg_pos (rgk rfl), if_neg n10]
def rRes (W : Nat → Nat → Nat → Bool) (A B C F k0 n k L : Nat) (t : Nat → Int) (a : Int) (g g2 : gm_T) (u : ptl × Nat × Bool) : Prop := exc (W n) nob g g2 ∧ isPs g2 L t a u.2 ∧ cP g2 A B C (k0 + k) u.1 ∧ (∀ j, j < k0 + k → gm_I g2 A j = gm_I g A j ∧ gm_I g2 B j = gm_I g B j ∧ gm_I g2 C j = gm_I g C j) ∧ (u.2.2 = false → gm_I g2 F n = ((k + u.1.length : Nat) : Int))
theorem md_l34_rd {t : Nat → Int} {L n : Nat} {a : Int} (hn : n < 30) : ∀ (f fuel k p : Nat) (g : gm_T), f + 1 < fuel → k + f + 1 = 8 → isP g L t a p false → p ≤ L → gm_I g 44 3 = (n : Int) → gm_I g 46 n = (k : Int) → ∃ g2, (jb1 (md_readsCorner g) fun (g15 : gm_T) => md_readsBit_l34 fuel g15) = some g2 ∧ rRes W_kc8 47 48 49 46 (8 * n) n k L t a g g2 (cpr t (f + 1) p) := by
  intro f
  induction f with
  | zero =>
    intro fuel k p g hfu hkf h hp h3 h46
    obtain ⟨fuel, rfl⟩ : ∃ z, fuel = z + 1 := ⟨fuel - 1, by omega⟩
    obtain ⟨g8, e8, x8, h8, y8, z8⟩ := md_readsCorner_eq h hp hn (m := k) (by omega) h3 h46
    have fr : ∀ j, j < 8 * n + k → gm_I g8 47 j = gm_I g 47 j ∧ gm_I g8 48 j = gm_I g 48 j ∧ gm_I g8 49 j = gm_I g 49 j := fun j hj => by
      have q : (j == 8 * n + k) = false := beq_eq_false_iff_ne.mpr (by omega)
      exact ⟨x8.1 47 j (by unfold W_kcn W_kc; rw [q]; rfl), x8.1 48 j (by unfold W_kcn W_kc; rw [q]; rfl), x8.1 49 j (by unfold W_kcn W_kc; rw [q]; rfl)⟩
    have X8 : exc (W_kc8 n) nob g g8 := W_kc_8 (by omega) x8
    have s8 : gm_I g8 44 3 = (n : Int) := by rw [X8.1 44 3 rfl]; exact h3
    rw [e8, jb1_some]
    rcases hr : pnt 58 t p with ⟨_ | q, e⟩
    · rw [hr] at h8
      have h8 : isPs g8 L t a (e, true) := h8
      rw [md_l34_end h8.1, cpr_n hr]
      exact ⟨g8, rfl, X8, h8, cP_nil, fr, (fun k => by cases k)⟩
    rw [hr] at h8 z8
    replace h8 : isPs g8 L t a (e, false) := h8
    have z8 := z8 q.1 q.2.1 q.2.2 rfl
    have p8 : gm_I g8 44 40 = (e : Int) := h8.1.2.1.1
    have f8 : gm_I g8 44 41 = 0 := h8.1.2.1.2
    have b8 := isT_b1 h8.1.1 e
    unfold md_readsBit_l34
    rw [f8, jg_pos (rgk rfl), if_pos rfl, s8, jg_pos ⟨by omega, by omega⟩, Int.toNat_natCast, y8, jg_pos (rgn (by omega))]
    rw [if_neg (by omega), cpr_e hr (fun z => absurd z.1 (Nat.lt_irrefl 0))]
    exact ⟨g8, rfl, X8, h8, cP_cons z8 cP_nil, fr, fun _ => y8⟩
  | succ f ih =>
    intro fuel k p g hfu hkf h hp h3 h46
    obtain ⟨fuel, rfl⟩ : ∃ z, fuel = z + 1 := ⟨fuel - 1, by omega⟩
    obtain ⟨g8, e8, x8, h8, y8, z8⟩ := md_readsCorner_eq h hp hn (m := k) (by omega) h3 h46
    have fr : ∀ j, j < 8 * n + k → gm_I g8 47 j = gm_I g 47 j ∧ gm_I g8 48 j = gm_I g 48 j ∧ gm_I g8 49 j = gm_I g 49 j := fun j hj => by
      have q : (j == 8 * n + k) = false := beq_eq_false_iff_ne.mpr (by omega)
      exact ⟨x8.1 47 j (by unfold W_kcn W_kc; rw [q]; rfl), x8.1 48 j (by unfold W_kcn W_kc; rw [q]; rfl), x8.1 49 j (by unfold W_kcn W_kc; rw [q]; rfl)⟩
    have X8 : exc (W_kc8 n) nob g g8 := W_kc_8 (by omega) x8
    have s8 : gm_I g8 44 3 = (n : Int) := by rw [X8.1 44 3 rfl]; exact h3
    rw [e8, jb1_some]
    rcases hr : pnt 58 t p with ⟨_ | q, e⟩
    · rw [hr] at h8
      have h8 : isPs g8 L t a (e, true) := h8
      rw [md_l34_end h8.1, cpr_n hr]
      exact ⟨g8, rfl, X8, h8, cP_nil, fr, (fun k => by cases k)⟩
    rw [hr] at h8 z8
    replace h8 : isPs g8 L t a (e, false) := h8
    have z8 := z8 q.1 q.2.1 q.2.2 rfl
    have p8 : gm_I g8 44 40 = (e : Int) := h8.1.2.1.1
    have f8 : gm_I g8 44 41 = 0 := h8.1.2.1.2
    have b8 := isT_b1 h8.1.1 e
    unfold md_readsBit_l34
    rw [f8, jg_pos (rgk rfl), if_pos rfl, s8, jg_pos ⟨by omega, by omega⟩, Int.toNat_natCast, y8, jg_pos (rgn (by omega))]
    rw [if_pos (by omega)]
    by_cases c : t e = 59
    · rw [cpr_m hr ⟨Nat.succ_pos f, c⟩]
      have e1 : e + 1 ≤ L := qlt_L h8.1.1.2.2.2 (p := e) (by omega)
      obtain ⟨g13, e13, x13, h13⟩ := md_must_st (c := 59) h8 (rgk rfl) (by decide)
      rw [mst_p c] at h13
      have f13 : gm_I g13 44 41 = 0 := h13.1.2.1.2
      have X13 := exc_tr X8 (W_ps_8 (n := n) x13)
      obtain ⟨g2, er, xr, hr2, zr, fr2, wr⟩ := ih fuel (k + 1) (e + 1) g13 (by omega) (by omega) h13.1 e1 (by rw [X13.1 44 3 rfl]; exact h3) (by rw [x13.1 46 n rfl]; exact y8)
      have RR : rRes W_kc8 47 48 49 46 (8 * n) n k L t a g g2 (q :: (cpr t (f + 1) (e + 1)).1, (cpr t (f + 1) (e + 1)).2) := by
        refine ⟨exc_tr X13 xr, hr2, cP_cons ?_ zr, fun j hj => ?_, fun k2 => ?_⟩
        · have w := fr2 (8 * n + k) (by omega)
          rw [w.1, w.2.1, w.2.2, x13.1 47 _ rfl, x13.1 48 _ rfl, x13.1 49 _ rfl]
          exact z8
        · have w := fr2 j (by omega)
          rw [w.1, w.2.1, w.2.2, x13.1 47 _ rfl, x13.1 48 _ rfl, x13.1 49 _ rfl]
          exact fr j hj
        · have hl : k + 1 + (cpr t (f + 1) (e + 1)).1.length = k + (q :: (cpr t (f + 1) (e + 1)).1).length := by rw [List.length_cons]; omega
          rw [← hl]
          exact wr k2
      by_cases c3 : k + 1 < 3
      · rw [if_pos (by omega), e13, jb1_some, f13, jg_pos (rgk rfl), if_pos rfl]
        exact ⟨g2, er, RR⟩
      · rw [if_neg (by omega), md_byteAt_eq h8.1.1 p8 h8.2, jb1_some, jg_pos ⟨by omega, by omega⟩, if_pos c, e13, jb1_some, f13, jg_pos (rgk rfl), if_pos rfl]
        exact ⟨g2, er, RR⟩
    · rw [cpr_e hr (fun z => c z.2)]
      by_cases c3 : k + 1 < 3
      · obtain ⟨g13, e13, x13, h13⟩ := md_must_st (c := 59) h8 (rgk rfl) (by decide)
        rw [mst_n c] at h13
        have f13 : gm_I g13 44 41 = 1 := h13.1.2.1.2
        have X13 := exc_tr X8 (W_ps_8 (n := n) x13)
        obtain ⟨fuel, rfl⟩ : ∃ z, fuel = z + 1 := ⟨fuel - 1, by omega⟩
        rw [if_pos (by omega), e13, jb1_some, f13, jg_pos (rgk rfl), if_neg n10, md_l34_end h13.1, show decide (5 < f + 1) = true from decide_eq_true (by omega)]
        refine ⟨g13, rfl, X13, h13, cP_cons ?_ cP_nil, fun j hj => ?_, (fun k => by cases k)⟩
        · rw [x13.1 47 _ rfl, x13.1 48 _ rfl, x13.1 49 _ rfl]; exact z8
        · rw [x13.1 47 _ rfl, x13.1 48 _ rfl, x13.1 49 _ rfl]; exact fr j hj
      · rw [if_neg (by omega), md_byteAt_eq h8.1.1 p8 h8.2, jb1_some, jg_pos ⟨by omega, by omega⟩, if_neg c, show decide (5 < f + 1) = false from decide_eq_false (by omega)]
        exact ⟨g8, rfl, X8, h8, cP_cons z8 cP_nil, fr, fun _ => y8⟩
theorem md_l97_eq {t : Nat → Int} {L n : Nat} {a : Int} (hn : n < 30) : ∀ (f fuel k p : Nat) (g : gm_T), f + 1 < fuel → k + f = 5 → isP g L t a p false → p ≤ L → gm_I g 44 3 = (n : Int) → gm_I g 50 n = (k : Int) → ∃ g2, md_readsBit_l97 fuel g = some g2 ∧ rRes W_ks5 51 52 53 50 (5 * n) n k L t a g g2 (spr t f p) := by
  intro f
  induction f with
  | zero =>
    intro fuel k p g hfu hkf h hp h3 h50
    obtain ⟨fuel, rfl⟩ : ∃ z, fuel = z + 1 := ⟨fuel - 1, by omega⟩
    have f8 : gm_I g 44 41 = 0 := h.2.1.2
    unfold md_readsBit_l97
    rw [f8, jg_pos (rgk rfl), if_pos rfl, h3, jg_pos ⟨by omega, by omega⟩, Int.toNat_natCast, h50, jg_pos (rgn (by omega)), if_neg (by omega)]
    exact ⟨g, rfl, exc_rf, ⟨h, hp⟩, cP_nil, (fun j hj => ⟨rfl, rfl, rfl⟩), fun _ => h50⟩
  | succ f ih =>
    intro fuel k p g hfu hkf h hp h3 h50
    obtain ⟨fuel, rfl⟩ : ∃ z, fuel = z + 1 := ⟨fuel - 1, by omega⟩
    have f8 : gm_I g 44 41 = 0 := h.2.1.2
    have b8 := isT_b1 h.1 p
    unfold md_readsBit_l97
    rw [f8, jg_pos (rgk rfl), if_pos rfl, h3, jg_pos ⟨by omega, by omega⟩, Int.toNat_natCast, h50, jg_pos (rgn (by omega)), if_pos (by omega), md_byteAt_eq h.1 h.2.1.1 hp, jb1_some, jg_pos ⟨by omega, by omega⟩]
    by_cases c : t p = 124
    rotate_left
    · rw [if_neg c, spr_z c]
      exact ⟨g, rfl, exc_rf, ⟨h, hp⟩, cP_nil, (fun j hj => ⟨rfl, rfl, rfl⟩), fun _ => h50⟩
    rw [if_pos c]
    obtain ⟨g8, e8, x8, h8, y8, z8⟩ := md_readsSpot_eq h hp c hn (m := k) (by omega) h3 h50
    have fr : ∀ j, j < 5 * n + k → gm_I g8 51 j = gm_I g 51 j ∧ gm_I g8 52 j = gm_I g 52 j ∧ gm_I g8 53 j = gm_I g 53 j := fun j hj => by
      have q : (j == 5 * n + k) = false := beq_eq_false_iff_ne.mpr (by omega)
      exact ⟨x8.1 51 j (by unfold W_ksn W_ks; rw [q]; rfl), x8.1 52 j (by unfold W_ksn W_ks; rw [q]; rfl), x8.1 53 j (by unfold W_ksn W_ks; rw [q]; rfl)⟩
    have X8 : exc (W_ks5 n) nob g g8 := W_ks_5 (by omega) x8
    have s8 : gm_I g8 44 3 = (n : Int) := by rw [X8.1 44 3 rfl]; exact h3
    rw [e8, jb1_some]
    rcases hr : pnt 61 t (p + 1) with ⟨_ | q, e⟩
    · rw [hr] at h8
      have h8 : isPs g8 L t a (e, true) := h8
      obtain ⟨fuel, rfl⟩ : ∃ z, fuel = z + 1 := ⟨fuel - 1, by omega⟩
      rw [md_l97_end h8.1, spr_n c hr]
      exact ⟨g8, rfl, X8, h8, cP_nil, fr, (fun k => by cases k)⟩
    rw [hr] at h8 z8
    replace h8 : isPs g8 L t a (e, false) := h8
    have z8 := z8 q.1 q.2.1 q.2.2 rfl
    rw [spr_m c hr]
    obtain ⟨g2, er, xr, hr2, zr, fr2, wr⟩ := ih fuel (k + 1) e g8 (by omega) (by omega) h8.1 h8.2 s8 y8
    refine ⟨g2, er, exc_tr X8 xr, hr2, cP_cons ?_ zr, fun j hj => ?_, fun k2 => ?_⟩
    · have w := fr2 (5 * n + k) (by omega)
      rw [w.1, w.2.1, w.2.2]
      exact z8
    · have w := fr2 j (by omega)
      rw [w.1, w.2.1, w.2.2]
      exact fr j hj
    · have hl : k + 1 + (spr t f e).1.length = k + (q :: (spr t f e).1).length := by rw [List.length_cons]; omega
      rw [← hl]
      exact wr k2
