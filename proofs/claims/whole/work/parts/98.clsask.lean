/-! Questions: the class's readTape. -/
def W_rt (a k : Nat) : Bool := W_cq a k || (a == 40 && (k == 7 || k == 8 || k == 9 || k == 10))
theorem rt_cq {g g2 : gm_T} (h : exc W_cq nob g g2) : exc W_rt nob g g2 := exc_mono h (fun a k q => by unfold W_rt; rw [q]; rfl) (fun _ _ q => q)
theorem W_rt_40 {a k : Nat} (h : W_rt a k = true) : a = 40 ∨ a = 41 ∨ a = 42 ∨ a = 43 := by
  simp only [W_rt, W_cq, Bool.or_eq_true, Bool.and_eq_true, beq_iff_eq] at h
  omega
theorem rt_I {g g2 : gm_T} (x : exc W_rt nob g g2) : keepI g2 = keepI g := keepI_exc x (fun a k q => by
  cases h : W_rt a k with
  | false => rfl
  | true =>
    exfalso
    have h2 := W_rt_40 h
    simp only [rI, R_fit, Bool.or_eq_true, Bool.and_eq_true, beq_iff_eq, Nat.ble_eq] at q
    omega) (fun _ _ _ => rfl)
theorem rt_box {g g2 : gm_T} (x : exc W_rt nob g g2) : ∀ a k, ((a == 32 && k == 0) || (a == 44 && k == 87) || a == 33 || a == 34 || a == 35 || a == 104 || a == 105 || a == 106) = true → gm_I g2 a k = gm_I g a k := fun a k q => x.1 a k (by
  cases h : W_rt a k with
  | false => rfl
  | true =>
    exfalso
    have h2 := W_rt_40 h
    simp only [Bool.or_eq_true, Bool.and_eq_true, beq_iff_eq] at q
    omega)
theorem cq_tape_eq {n : Nat} {g : gm_T} {P : Nat → plc} (h : IW n g P) (hx : V_box n g) {L : Nat} {t : Nat → Int} (hT : isTc g L t) (hE : endT t L) {S8 S9 : Nat} (h8 : S8 < 2 ^ 30 ∧ ∀ c, S8.testBit c = true ↔ c < n ∧ onW n g c) (h9 : (∃ p, t p = 118) → S9 < 2 ^ 30 ∧ ∀ c, S9.testBit c = true ↔ c < n ∧ pvd n g c = true) : ((prs t (evl (lvv n g)) 800 0 0).2 = (L, false) → ∃ g2, cq_readTape n g (S8 : Int) (S9 : Int) = some (-1, g2) ∧ exc W_rt nob g g2 ∧ isKm n (gm_I g2 40 10) (fun b => (prs t (evl (lvv n g)) 800 0 0).1 (b : Int))) ∧ (¬ (prs t (evl (lvv n g)) 800 0 0).2 = (L, false) → ∃ g2, cq_readTape n g (S8 : Int) (S9 : Int) = some (((prs t (evl (lvv n g)) 800 0 0).2.1 : Int), g2) ∧ exc W_rt nob g g2 ∧ gm_I g2 40 10 = gm_I g 40 10) := by
  have h30 := h.1.1.2.2
  have L240 := hT.2.1
  have hp2 := p2_30 h30
  have hpos : 0 < 2 ^ n := Nat.two_pow_pos n
  have hallK : isKm n (((2 ^ n : Nat) : Int) - 1) (fun _ => true) := ⟨2 ^ n - 1, by omega, by omega, fun b => by rw [Nat.testBit_two_pow_sub_one, Bool.and_true]⟩
  obtain ⟨g6, hg6⟩ : ∃ g6, g6 = gm_wI (gm_wI (gm_wI (gm_wI (gm_wI (gm_wI (gm_wI (gm_wI g 40 7 (((2 ^ n : Nat) : Int) - 1)) 40 8 (S8 : Int)) 40 9 (S9 : Int)) 40 6 (-1)) 40 6 0) 41 0 0) 42 0 (((2 ^ n : Nat) : Int) - 1)) 43 0 0 := ⟨_, rfl⟩
  have x6 : exc W_rt nob g g6 := by
    rw [hg6]
    exact exc_wI (exc_wI (exc_wI (exc_wI (exc_wI (exc_wI (exc_wI (exc_wI exc_rf rfl) rfl) rfl) rfl) rfl) rfl) rfl) rfl
  have e6 : gm_I g6 40 6 = 0 := by rw [hg6, gI_oth (by decide), gI_oth (by decide), gI_oth (by decide), gI_eq]
  have e7 : gm_I g6 40 7 = ((2 ^ n : Nat) : Int) - 1 := by rw [hg6, gI_oth (by decide), gI_oth (by decide), gI_oth (by decide), gI_ne (by decide), gI_ne (by decide), gI_ne (by decide), gI_ne (by decide), gI_eq]
  have e8 : gm_I g6 40 8 = (S8 : Int) := by rw [hg6, gI_oth (by decide), gI_oth (by decide), gI_oth (by decide), gI_ne (by decide), gI_ne (by decide), gI_ne (by decide), gI_eq]
  have e9 : gm_I g6 40 9 = (S9 : Int) := by rw [hg6, gI_oth (by decide), gI_oth (by decide), gI_oth (by decide), gI_ne (by decide), gI_ne (by decide), gI_eq]
  have e10 : gm_I g6 40 10 = gm_I g 40 10 := by rw [hg6, gI_oth (by decide), gI_oth (by decide), gI_oth (by decide), gI_ne (by decide), gI_ne (by decide), gI_ne (by decide), gI_ne (by decide), gI_ne (by decide)]
  have hT6 : isTc g6 L t := by
    obtain ⟨t1, t2, t3, t4⟩ := hT
    exact ⟨by rw [x6.1 1 0 rfl]; exact t1, t2, fun k hk => by rw [x6.1 2 k rfl]; exact t3 k hk, t4⟩
  have Q6 : isQ g6 n L t 0 (fun _ _ => false) (fun _ _ => true) (fun _ => false) := ⟨hT6, e6, by rw [e7]; exact hallK, fun i hi => by
    have z : i = 0 := by omega
    rw [z]
    refine ⟨?_, ?_, ?_⟩
    · rw [hg6, gI_oth (show 41 ≠ 43 by decide), gI_oth (show 41 ≠ 42 by decide), gI_eq]
      exact isKm_0 n
    · rw [hg6, gI_oth (show 42 ≠ 43 by decide), gI_eq]
      exact hallK
    · rw [hg6, gI_eq]
      rfl⟩
  have hcv : ∀ p, isLt (t p) → ∀ g', exc W_cq nob g6 g' → ∀ b : Nat, b < n → cq_valueOf n g' (t p) (b : Int) = some (lvv n g (b : Int) (t p)) ∧ rg (lvv n g (b : Int) (t p)) := fun p hl g' x b hb => by
    have xx := exc_tr x6 (rt_cq x)
    have eI := rt_I xx
    obtain ⟨-, -, k3, -⟩ := eqs_I (n := n) eI
    have k4 := pvd_I (n := n) eI
    have hbx := bxv_e (fun a k q => rt_box xx a k (by
      simp only [Bool.or_eq_true, Bool.and_eq_true, beq_iff_eq] at q ⊢
      omega))
    have h1 := cq_val_eq (IW_I eI h) (V_box_e (rt_box xx) hx) hb hl ⟨S8, by rw [x.1 40 8 rfl]; exact e8, h8.1, by rw [k3]; exact h8.2⟩ (fun z => by
      have h99 := h9 ⟨p, z⟩
      exact ⟨S9, by rw [x.1 40 9 rfl]; exact e9, h99.1, by rw [k4]; exact h99.2⟩)
    rw [lvv_I eI hbx] at h1
    exact ⟨h1, lvv_rg h hx hb _⟩
  have hstart : cq_readTape n g (S8 : Int) (S9 : Int) = jc2 (ρ := Int × gm_T) (cq_readTape_l39 n fz 1 0 0 g6) some (fun (v42 : Int) (g47 : gm_T) => jg (rg v42) (if v42 = 0 then (jg (rg (gm_I g47 40 6)) (if (gm_I g47 40 6) ≤ 0 then (jl (gm_wI g47 40 10 (zO (gm_I g47 41 0) (gm_I g47 42 0))) fun (g50 : gm_T) => some ((-1), g50)) else (some ((gm_I g47 1 0), g47)))) else (some ((gm_I g47 1 0), g47)))) := by
    obtain ⟨g5, hg5⟩ : ∃ g5, g5 = gm_wI (gm_wI (gm_wI (gm_wI g 40 7 (((2 ^ n : Nat) : Int) - 1)) 40 8 (S8 : Int)) 40 9 (S9 : Int)) 40 6 (-1) := ⟨_, rfl⟩
    have h56 : gm_I g5 40 6 = -1 := by rw [hg5, gI_eq]
    have h57 : gm_I g5 40 7 = ((2 ^ n : Nat) : Int) - 1 := by rw [hg5, gI_ne (by decide), gI_ne (by decide), gI_ne (by decide), gI_eq]
    have hop : cq_open g5 = some g6 := by
      unfold cq_open
      rw [h56, show (-1 : Int) + 1 = 0 from rfl, jl_eq, gI_eq, jg_pos (by decide), jl_eq, gI_oth (show 40 ≠ 41 by decide), gI_eq, jg_pos (by decide), jl_eq, gI_oth (show 40 ≠ 41 by decide), gI_ne (show 7 ≠ 6 by decide), h57, gI_oth (show 40 ≠ 42 by decide), gI_oth (show 40 ≠ 41 by decide), gI_eq, jg_pos (by decide), jl_eq, show Int.toNat 0 = 0 from rfl, hg6, hg5]
    unfold cq_readTape cf_allBits
    rw [h.1.1.1, zSl_1 (by omega), jb1_some, jl_eq, jl_eq, jl_eq, jl_eq, ← hg5, hop, jb1_some]
  have hc := (cls_read hE L240 h30 (g0 := g6) (by rw [x6.1 10 1 rfl]; exact h.1.1.1) (lv := lvv n g) hcv 800 0 (by omega)).1 (by omega) 0 _ _ _ fz 0 g6 Q6 exc_rf (by omega) (by omega) (Nat.lt_of_le_of_lt (show L - 0 ≤ 300 by omega) (fz_gt rfl)) rfl (fun _ => rfl)
  have ho := prs_ok hE (ev := evl (lvv n g)) 800 0 0 (by omega)
  have hend := prs_q hE L240 (ev := evl (lvv n g)) 800 0 (by omega)
  rw [hstart, show cq_readTape_l39 n fz 1 0 0 g6 = cq_readTape_l39 n fz 1 ((0 : Nat) : Int) ((0 : Nat) : Int) g6 from rfl]
  obtain ⟨r, hr⟩ : ∃ r, r = prs t (evl (lvv n g)) 800 0 0 := ⟨_, rfl⟩
  rw [← hr] at hc ho hend ⊢
  have inr : ∀ (q : Nat) (g2 : gm_T), exc W_cq nob g6 g2 → ∃ g3, jc2 (ρ := Int × gm_T) (some (.inr ((q : Int), g2)) : Option ((Int × gm_T) ⊕ (Int × gm_T))) some (fun (v42 : Int) (g47 : gm_T) => jg (rg v42) (if v42 = 0 then (jg (rg (gm_I g47 40 6)) (if (gm_I g47 40 6) ≤ 0 then (jl (gm_wI g47 40 10 (zO (gm_I g47 41 0) (gm_I g47 42 0))) fun (g50 : gm_T) => some ((-1), g50)) else (some ((gm_I g47 1 0), g47)))) else (some ((gm_I g47 1 0), g47)))) = some ((q : Int), g3) ∧ exc W_rt nob g g3 ∧ gm_I g3 40 10 = gm_I g 40 10 := fun q g2 x => ⟨g2, rfl, exc_tr x6 (rt_cq x), by rw [x.1 40 10 rfl, e10]⟩
  cases hw : r.2.2 with
  | true =>
    refine ⟨fun z => ?_, fun _ => ?_⟩
    · rw [z] at hw
      cases hw
    · obtain ⟨g2, k1, k2 | ⟨k2, w, k3, k4⟩⟩ := hc.2 hw
      · rw [k2]
        exact inr r.2.1 g2 k1
      · have t1 : gm_I g2 1 0 = (L : Int) := by rw [k1.1 1 0 rfl]; exact hT6.1
        rw [k4, jc2_inl]
        refine ⟨g2, ?_, exc_tr x6 (rt_cq k1), by rw [k1.1 40 10 rfl, e10]⟩
        rcases k3 with rfl | ⟨rfl, k3⟩
        · rw [jg_pos (rgk rfl), if_neg n10, t1, k2]
        · rw [jg_pos (rgk rfl), if_pos rfl, jg_pos ⟨by omega, by omega⟩, if_neg (by omega), t1, k2]
  | false =>
    obtain ⟨T1, F1, N1, ⟨fu3, rd3, g3, e1, ⟨e2, e3⟩, e4, e5⟩, s1, s2, s3⟩ := hc.1 hw
    obtain ⟨fu4, rfl⟩ : ∃ f, fu3 = f + 1 := ⟨fu3 - 1, by omega⟩
    rw [e1]
    refine ⟨fun z => ?_, fun z => ?_⟩
    · have zL : r.2.1 = L := by rw [z]
      obtain ⟨a1, a2, -⟩ := e5.2.2.2 0 (Nat.le_refl 0)
      rw [zL, cq_end e5.1 (by omega), jc2_inl, jg_pos (rgk rfl), if_pos rfl, e5.2.1, jg_pos (rgk rfl), if_pos (by decide), jl_eq]
      refine ⟨_, rfl, exc_wI (exc_tr x6 (rt_cq e4)) rfl, ?_⟩
      rw [gI_eq]
      refine isKm_cong (fun b => ?_) (isKm_or h30 a1 a2)
      rw [s3 b]
      rfl
    · have zL : r.2.1 ≠ L := fun q => z (by
        rw [← q, ← hw])
      have hst := cq_stop e5 (by decide) (p := r.2.1) (hend hw).1 (hend hw).2 (Or.inr rfl)
      have hop := ho.1
      have hs2 := cq_behd (n := n) e5.1 (p := r.2.1) (rd := rd3) (fuel := fu4) (by omega) e2 (q := -(r.2.1 : Int)) ⟨by omega, by omega⟩ hst
      rw [if_pos (by omega), Int.neg_neg] at hs2
      rw [hs2]
      exact inr r.2.1 g3 e4
