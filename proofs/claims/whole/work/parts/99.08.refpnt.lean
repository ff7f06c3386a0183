/-! A bit's text: a corner and a spot on the reference's side. -/
theorem isP_oth {g : gm_T} {L : Nat} {t : Nat → Int} {a : Int} {p : Nat} {w : Bool} (h : isP g L t a p w) {b j : Nat} {v : Int} (h1 : ¬ b = 44) (h2 : ¬ b = 45) : isP (gm_wI g b j v) L t a p w := by
  obtain ⟨⟨t1, t2, t3, t4⟩, ⟨h3, h4⟩, h5⟩ := h
  have k1 : ∀ i, gm_I (gm_wI g b j v) 44 i = gm_I g 44 i := fun i => gI_oth (fun q => h1 q.symm)
  have k2 : ∀ i, gm_I (gm_wI g b j v) 45 i = gm_I g 45 i := fun i => gI_oth (fun q => h2 q.symm)
  exact ⟨⟨by rw [k1]; exact t1, t2, fun k hk => by rw [k2]; exact t3 k hk, t4⟩, ⟨by rw [k1]; exact h3, by rw [k1]; exact h4⟩, by rw [k1]; exact h5⟩
def isPs (g : gm_T) (L : Nat) (t : Nat → Int) (a : Int) (s : Nat × Bool) : Prop := isP g L t a s.1 s.2 ∧ s.1 ≤ L
theorem md_must_st {g : gm_T} {L : Nat} {t : Nat → Int} {a : Int} {s : Nat × Bool} (h : isPs g L t a s) {c : Int} (hc : rg c) (hc1 : c ≠ -1) : ∃ g2, md_must g c = some g2 ∧ exc W_ps nob g g2 ∧ isPs g2 L t a (mst t c s) := by
  obtain ⟨p, w⟩ := s
  obtain ⟨h, hp⟩ := h
  dsimp only at h hp
  obtain ⟨g2, e, x, h2⟩ := md_must_eq h hp hc
  refine ⟨g2, e, x, ?_⟩
  cases w with
  | true => exact ⟨h2, hp⟩
  | false =>
    by_cases k : t p = c
    · rw [mst_p k]
      rw [if_neg (show ¬ (false = true) by decide), if_neg (show ¬ (false = true) by decide), if_pos k, if_pos k] at h2
      exact ⟨h2, qlt_L h.1.2.2.2 (p := p) (by rw [k]; exact hc1)⟩
    · rw [mst_n k]
      rw [if_neg (show ¬ (false = true) by decide), if_neg (show ¬ (false = true) by decide), if_neg k, if_neg k] at h2
      exact ⟨h2, hp⟩
theorem md_place_st {g : gm_T} {L : Nat} {t : Nat → Int} {a : Int} {s : Nat × Bool} (h : isPs g L t a s) : ∃ g2 v, md_place g = some (v, g2) ∧ exc W_ps nob g g2 ∧ isPs g2 L t a (plcs t s) ∧ (s.2 = false → ∀ u, (crd t s.1).1 = some u → v = u) := by
  obtain ⟨p, w⟩ := s
  obtain ⟨h, hp⟩ := h
  dsimp only at h hp
  obtain ⟨g2, v, e, x, h2, h3⟩ := md_place_eq h hp
  refine ⟨g2, v, e, x, ?_, h3⟩
  cases w with
  | true => exact ⟨h2, hp⟩
  | false => exact ⟨h2, (crd_ok h.1.2.2.2 hp).1.2⟩
theorem md_digit_st {g : gm_T} {L : Nat} {t : Nat → Int} {a : Int} {s : Nat × Bool} (h : isPs g L t a s) : ∃ g2 v, md_digit g = some (v, g2) ∧ exc W_ps nob g g2 ∧ isPs g2 L t a (dgt t s) ∧ (s.2 = false → isDg (t s.1) → v = t s.1 - 48) := by
  obtain ⟨p, w⟩ := s
  obtain ⟨h, hp⟩ := h
  dsimp only at h hp
  obtain ⟨g2, v, e, x, ⟨hw, d, hv, h2⟩ | ⟨hn, hv, h2⟩⟩ := md_digit_eq h hp
  · subst hw
    refine ⟨g2, v, e, x, ?_, fun _ _ => hv⟩
    rw [dgt_p d]
    exact ⟨h2, qlt_L h.1.2.2.2 (p := p) (by unfold isDg at d; omega)⟩
  · refine ⟨g2, v, e, x, ?_, fun k1 k2 => absurd ⟨k1, k2⟩ hn⟩
    cases w with
    | true => exact ⟨h2, hp⟩
    | false =>
      rw [dgt_n (fun k => hn ⟨rfl, k⟩)]
      exact ⟨h2, hp⟩
theorem isPs_oth {g : gm_T} {L : Nat} {t : Nat → Int} {a : Int} {s : Nat × Bool} (h : isPs g L t a s) {b j : Nat} {v : Int} (h1 : ¬ b = 44) (h2 : ¬ b = 45) : isPs (gm_wI g b j v) L t a s := ⟨isP_oth h.1 h1 h2, h.2⟩
def W_kc (i a j : Nat) : Bool := (a == 44 && (j == 40 || j == 41)) || ((a == 47 || a == 48 || a == 49) && j == i)
def W_kcn (n i a j : Nat) : Bool := W_kc i a j || (a == 46 && j == n)
theorem md_readsCorner_eq {g : gm_T} {L : Nat} {t : Nat → Int} {a : Int} {p : Nat} (h : isP g L t a p false) (hp : p ≤ L) {n m : Nat} (hn : n < 30) (hm : m < 8) (h1 : gm_I g 44 3 = (n : Int)) (h2 : gm_I g 46 n = (m : Int)) : ∃ g2, md_readsCorner g = some g2 ∧ exc (W_kcn n (8 * n + m)) nob g g2 ∧ isPs g2 L t a ((pnt 58 t (p)).2, !(pnt 58 t (p)).1.isSome) ∧ gm_I g2 46 n = ((m + 1 : Nat) : Int) ∧ ∀ x y d, (pnt 58 t (p)).1 = some (x, y, d) → gm_I g2 47 (8 * n + m) = x ∧ gm_I g2 48 (8 * n + m) = y ∧ gm_I g2 49 (8 * n + m) = d := by
  have hW0 : ∀ a j, W_ps a j = true → W_kc (8 * n + m) a j = true := fun a j q => by
    unfold W_ps at q
    unfold W_kc
    rw [q]; rfl
  have wA : W_kc (8 * n + m) 47 (8 * n + m) = true := by unfold W_kc; simp
  have wB : W_kc (8 * n + m) 48 (8 * n + m) = true := by unfold W_kc; simp
  have wC : W_kc (8 * n + m) 49 (8 * n + m) = true := by unfold W_kc; simp
  unfold md_readsCorner
  rw [h1, jg_pos ⟨by omega, by omega⟩, Int.toNat_natCast, h2, jl_eq, show (8 * (n : Int) + (m : Int)) = ((8 * n + m : Nat) : Int) from by omega]
  obtain ⟨g4, v3, e4, x4, h4, u4⟩ := md_place_st (s := (p, false)) ⟨h, hp⟩
  rw [e4, jb2_some, jg_pos (by omega), Int.toNat_natCast, jl_eq]
  obtain ⟨g7, e7, x7, h7⟩ := md_must_st (c := 44) (isPs_oth (b := 47) (j := 8 * n + m) (v := v3) h4 (by decide) (by decide)) (rgk rfl) (by decide)
  rw [e7, jb1_some]
  obtain ⟨g9, v8, e9, x9, h9, u9⟩ := md_place_st h7
  rw [e9, jb2_some, jl_eq]
  obtain ⟨g11, e11, x11, h11⟩ := md_must_st (c := 58) (isPs_oth (b := 48) (j := 8 * n + m) (v := v8) h9 (by decide) (by decide)) (rgk rfl) (by decide)
  rw [e11, jb1_some]
  obtain ⟨g13, v12, e13, x13, h13, u13⟩ := md_digit_st h11
  rw [e13, jb2_some, jl_eq]
  have X0 : exc (W_kc (8 * n + m)) nob g g := exc_rf
  have X4 := exc_tr X0 (exc_mono x4 hW0 (fun a j q => by cases q))
  have X5 : exc (W_kc (8 * n + m)) nob g (gm_wI g4 47 (8 * n + m) v3) := exc_wI X4 wA
  have X9 := exc_tr (exc_tr X5 (exc_mono x7 hW0 (fun a j q => by cases q))) (exc_mono x9 hW0 (fun a j q => by cases q))
  have X10 : exc (W_kc (8 * n + m)) nob g (gm_wI g9 48 (8 * n + m) v8) := exc_wI X9 wB
  have X13 := exc_tr (exc_tr X10 (exc_mono x11 hW0 (fun a j q => by cases q))) (exc_mono x13 hW0 (fun a j q => by cases q))
  have X14 : exc (W_kc (8 * n + m)) nob g (gm_wI g13 49 (8 * n + m) v12) := exc_wI X13 wC
  have s14 : gm_I (gm_wI g13 49 (8 * n + m) v12) 44 3 = (n : Int) := by rw [X14.1 44 3 rfl]; exact h1
  have n14 : gm_I (gm_wI g13 49 (8 * n + m) v12) 46 n = (m : Int) := by rw [X14.1 46 n rfl]; exact h2
  rw [s14, jg_pos ⟨by omega, by omega⟩, Int.toNat_natCast, n14, jl_eq]
  refine ⟨_, rfl, exc_wI (exc_mono X14 (fun a j q => by unfold W_kcn; rw [q]; rfl) (fun a j q => q)) (by unfold W_kcn; simp), ?_, gI_eq, fun x y d q => ?_⟩
  · have := isPs_oth (isPs_oth (b := 49) (j := 8 * n + m) (v := v12) h13 (by decide) (by decide)) (b := 46) (j := n) (v := (m : Int) + 1) (by decide) (by decide)
    rw [pnt_st] at this
    exact this
  · rcases pnt_ways 58 t (p) with ⟨x', y', f, f2, q1, c1, q2, c2, dd, qe⟩ | ⟨f, q1, qe⟩ | ⟨x', f, q1, c1, qe⟩ | ⟨x', f, f2, q1, c1, q2, qe⟩ | ⟨x', y', f, f2, q1, c1, q2, c2, qe⟩ | ⟨x', y', f, f2, q1, c1, q2, c2, dd, qe⟩
    · rw [qe] at q
      cases q
      have s1 : plcs t (p, false) = (f, false) := by rw [plcs_f, q1]; rfl
      rw [s1] at u9 u13
      rw [mst_p c1] at u9 u13
      have s3 : plcs t (f + 1, false) = (f2, false) := by rw [plcs_f, q2]; rfl
      rw [s3, mst_p c2] at u13
      have w3 := u4 rfl x (by rw [q1])
      have w8 := u9 rfl y (by rw [q2])
      have w12 := u13 rfl dd
      refine ⟨?_, ?_, ?_⟩
      · rw [gI_oth (by decide), gI_oth (by decide), x13.1 47 _ rfl, x11.1 47 _ rfl, gI_oth (by decide), x9.1 47 _ rfl, x7.1 47 _ rfl, gI_eq]; exact w3
      · rw [gI_oth (by decide), gI_oth (by decide), x13.1 48 _ rfl, x11.1 48 _ rfl, gI_eq]; exact w8
      · rw [gI_oth (by decide), gI_eq]; exact w12
    all_goals rw [qe] at q; cases q
def W_ks (i a j : Nat) : Bool := (a == 44 && (j == 40 || j == 41)) || ((a == 51 || a == 52 || a == 53) && j == i)
def W_ksn (n i a j : Nat) : Bool := W_ks i a j || (a == 50 && j == n)
theorem md_readsSpot_eq {g : gm_T} {L : Nat} {t : Nat → Int} {a : Int} {p : Nat} (h : isP g L t a p false) (hp : p ≤ L) (hbar : t p = 124) {n m : Nat} (hn : n < 30) (hm : m < 5) (h1 : gm_I g 44 3 = (n : Int)) (h2 : gm_I g 50 n = (m : Int)) : ∃ g2, md_readsSpot g = some g2 ∧ exc (W_ksn n (5 * n + m)) nob g g2 ∧ isPs g2 L t a ((pnt 61 t (p + 1)).2, !(pnt 61 t (p + 1)).1.isSome) ∧ gm_I g2 50 n = ((m + 1 : Nat) : Int) ∧ ∀ x y d, (pnt 61 t (p + 1)).1 = some (x, y, d) → gm_I g2 51 (5 * n + m) = x ∧ gm_I g2 52 (5 * n + m) = y ∧ gm_I g2 53 (5 * n + m) = d := by
  have hW0 : ∀ a j, W_ps a j = true → W_ks (5 * n + m) a j = true := fun a j q => by
    unfold W_ps at q
    unfold W_ks
    rw [q]; rfl
  have wA : W_ks (5 * n + m) 51 (5 * n + m) = true := by unfold W_ks; simp
  have wB : W_ks (5 * n + m) 52 (5 * n + m) = true := by unfold W_ks; simp
  have wC : W_ks (5 * n + m) 53 (5 * n + m) = true := by unfold W_ks; simp
  unfold md_readsSpot
  rw [h1, jg_pos ⟨by omega, by omega⟩, Int.toNat_natCast, h2, jl_eq, show (5 * (n : Int) + (m : Int)) = ((5 * n + m : Nat) : Int) from by omega]
  obtain ⟨g3, e3, x3, h3⟩ := md_must_st (c := 124) (s := (p, false)) ⟨h, hp⟩ (rgk rfl) (by decide)
  rw [mst_p hbar] at h3
  rw [e3, jb1_some]
  obtain ⟨g4, v3, e4, x4, h4, u4⟩ := md_place_st (s := (p + 1, false)) h3
  rw [e4, jb2_some, jg_pos (by omega), Int.toNat_natCast, jl_eq]
  obtain ⟨g7, e7, x7, h7⟩ := md_must_st (c := 44) (isPs_oth (b := 51) (j := 5 * n + m) (v := v3) h4 (by decide) (by decide)) (rgk rfl) (by decide)
  rw [e7, jb1_some]
  obtain ⟨g9, v8, e9, x9, h9, u9⟩ := md_place_st h7
  rw [e9, jb2_some, jl_eq]
  obtain ⟨g11, e11, x11, h11⟩ := md_must_st (c := 61) (isPs_oth (b := 52) (j := 5 * n + m) (v := v8) h9 (by decide) (by decide)) (rgk rfl) (by decide)
  rw [e11, jb1_some]
  obtain ⟨g13, v12, e13, x13, h13, u13⟩ := md_digit_st h11
  rw [e13, jb2_some, jl_eq]
  have X0 : exc (W_ks (5 * n + m)) nob g g3 := exc_mono x3 hW0 (fun a j q => by cases q)
  have X4 := exc_tr X0 (exc_mono x4 hW0 (fun a j q => by cases q))
  have X5 : exc (W_ks (5 * n + m)) nob g (gm_wI g4 51 (5 * n + m) v3) := exc_wI X4 wA
  have X9 := exc_tr (exc_tr X5 (exc_mono x7 hW0 (fun a j q => by cases q))) (exc_mono x9 hW0 (fun a j q => by cases q))
  have X10 : exc (W_ks (5 * n + m)) nob g (gm_wI g9 52 (5 * n + m) v8) := exc_wI X9 wB
  have X13 := exc_tr (exc_tr X10 (exc_mono x11 hW0 (fun a j q => by cases q))) (exc_mono x13 hW0 (fun a j q => by cases q))
  have X14 : exc (W_ks (5 * n + m)) nob g (gm_wI g13 53 (5 * n + m) v12) := exc_wI X13 wC
  have s14 : gm_I (gm_wI g13 53 (5 * n + m) v12) 44 3 = (n : Int) := by rw [X14.1 44 3 rfl]; exact h1
  have n14 : gm_I (gm_wI g13 53 (5 * n + m) v12) 50 n = (m : Int) := by rw [X14.1 50 n rfl]; exact h2
  rw [s14, jg_pos ⟨by omega, by omega⟩, Int.toNat_natCast, n14, jl_eq]
  refine ⟨_, rfl, exc_wI (exc_mono X14 (fun a j q => by unfold W_ksn; rw [q]; rfl) (fun a j q => q)) (by unfold W_ksn; simp), ?_, gI_eq, fun x y d q => ?_⟩
  · have := isPs_oth (isPs_oth (b := 53) (j := 5 * n + m) (v := v12) h13 (by decide) (by decide)) (b := 50) (j := n) (v := (m : Int) + 1) (by decide) (by decide)
    rw [pnt_st] at this
    exact this
  · rcases pnt_ways 61 t (p + 1) with ⟨x', y', f, f2, q1, c1, q2, c2, dd, qe⟩ | ⟨f, q1, qe⟩ | ⟨x', f, q1, c1, qe⟩ | ⟨x', f, f2, q1, c1, q2, qe⟩ | ⟨x', y', f, f2, q1, c1, q2, c2, qe⟩ | ⟨x', y', f, f2, q1, c1, q2, c2, dd, qe⟩
    · rw [qe] at q
      cases q
      have s1 : plcs t (p + 1, false) = (f, false) := by rw [plcs_f, q1]; rfl
      rw [s1] at u9 u13
      rw [mst_p c1] at u9 u13
      have s3 : plcs t (f + 1, false) = (f2, false) := by rw [plcs_f, q2]; rfl
      rw [s3, mst_p c2] at u13
      have w3 := u4 rfl x (by rw [q1])
      have w8 := u9 rfl y (by rw [q2])
      have w12 := u13 rfl dd
      refine ⟨?_, ?_, ?_⟩
      · rw [gI_oth (by decide), gI_oth (by decide), x13.1 51 _ rfl, x11.1 51 _ rfl, gI_oth (by decide), x9.1 51 _ rfl, x7.1 51 _ rfl, gI_eq]; exact w3
      · rw [gI_oth (by decide), gI_oth (by decide), x13.1 52 _ rfl, x11.1 52 _ rfl, gI_eq]; exact w8
      · rw [gI_oth (by decide), gI_eq]; exact w12
    all_goals rw [qe] at q; cases q
