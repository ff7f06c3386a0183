/-! The class makes a bit: all its fields. -/
def W_mI (n a j : Nat) : Bool := a == bA n && (j == 11 || j == 12)
def W_nb (n a _j : Nat) : Bool := decide (bA n ≤ a)
theorem bA_ge (n : Nat) : 111 ≤ bA n := by unfold bA; omega
theorem cntM_0 : cntM (fun _ _ => false) = 0 := sm_none (fun v _ => sm_none (fun u _ => rfl))
theorem cb_made_eq {n c : Nat} {X Y : Nat → Int} {g : gm_T} (hG : rG c X Y) (h : isC g c X Y) (hJ : ∀ j, j < 160 → gm_J g (bA n + 1) j = 0) : ∃ g2, cb_made g n = some g2 ∧ exc (W_mI n) (W_rws n) g g2 ∧ gm_I g2 (bA n) 11 = rar c X Y c ∧ gm_I g2 (bA n) 12 = ((cntM (winr c X Y) : Nat) : Int) ∧ ∀ t v, t < 4 → v < 40 → rw1 g2 n t v (winr c X Y) := by
  have c8 := hG.1
  have bn := bA_ge n
  have ax := mnf_ok (X := X) (fun k hk => (hG.2 k hk).1) (c - 1) (by omega)
  have bx := mxf_ok (X := X) (fun k hk => (hG.2 k hk).1) (c - 1) (by omega)
  have lx : mnf X (c - 1) ≤ mxf X (c - 1) := Int.le_trans (ax.2 0 (by omega)) (bx.2 0 (by omega))
  have X2 : exc (W_mI n) (W_rws n) g (gm_wI g (bA n) 11 (rar c X Y c)) := exc_wI exc_rf (by unfold W_mI; simp)
  have C2 : isC (gm_wI g (bA n) 11 (rar c X Y c)) c X Y := ⟨by rw [gI_oth (by omega)]; exact h.1, fun k hk => by rw [gI_oth (by omega), gI_oth (by omega)]; exact h.2 k hk⟩
  have eM : Mb c X Y (mnf X (c - 1)) (mnf Y (c - 1)) (mxf Y (c - 1)) (mnf X (c - 1)) (mnf Y (c - 1)) = fun _ _ => false := by
    funext a b
    unfold Mb
    rw [show decide ((mnf X (c - 1) ≤ a ∧ mnf Y (c - 1) ≤ b ∧ b < mxf Y (c - 1)) ∧ (a < mnf X (c - 1) ∨ (a = mnf X (c - 1) ∧ b < mnf Y (c - 1)))) = false from decide_eq_false (by omega), Bool.and_false]
  obtain ⟨g57, e57, x57, R57⟩ := cb_made_out (n := n) hG (mxf X (c - 1) - mnf X (c - 1)).toNat (mnf X (c - 1)) fz (gm_wI g (bA n) 11 (rar c X Y c)) (Nat.lt_of_le_of_lt (show _ ≤ 40 by omega) (fz_gt rfl)) (by omega) (Int.le_refl _) C2 (fun t v h1 h2 => by
    rw [eM]
    exact ⟨0, (hJ (40 * t + v) (by omega)).trans rfl, by decide, fun u hu => Nat.zero_testBit u⟩)
  rw [eM, cntM_0] at e57
  unfold cb_made
  rw [ck_twiceArea_eq hG h, jb1_some, jl_eq, ck_most_4_eq hG C2, jb1_some, ck_most_5_eq hG C2, jb1_some, ck_least_4_eq hG C2, jb1_some, show cb_made_l170 n (mxf X (c - 1)) (mxf Y (c - 1)) fz 0 (mnf X (c - 1)) (gm_wI g (bA n) 11 (rar c X Y c)) = _ from e57, jb2_some, jl_eq]
  refine ⟨_, rfl, exc_wI (exc_tr X2 (exc_mono x57 (fun a j q => by cases q) (fun a j q => q))) (by unfold W_mI; simp), ?_, gI_eq, R57⟩
  rw [gI_ne (by decide), x57.1 _ _ rfl, gI_eq]
theorem gI_bn {g : gm_T} {r a j : Nat} {fi : Nat → Int} (h : ¬ a = r) : gm_I (bw_g g r fi) a j = gm_I g a j := congrFun (if_neg h) j
theorem gI_be {g h : gm_T} {r q j : Nat} : gm_I (bw_g g r (h.1 q)) r j = gm_I h q j := congrFun (if_pos rfl) j
theorem gJ_bn {g : gm_T} {r a j : Nat} {fi : Nat → Int} (h : ¬ a = r) : gm_J (bw_g g r fi) a j = gm_J g a j := congrFun (if_neg h) j
theorem gJ_be {g : gm_T} {r j : Nat} {fi : Nat → Int} : gm_J (bw_g g r fi) r j = 0 := congrFun (if_pos rfl) j
theorem exc_bw {W WJ : Nat → Nat → Bool} {g g2 : gm_T} {r : Nat} {fi : Nat → Int} (h : exc W WJ g g2) (h1 : ∀ j, W r j = true) (h2 : ∀ j, WJ r j = true) : exc W WJ g (bw_g g2 r fi) := ⟨fun a j q => by
  have e : ¬ a = r := fun z => by rw [z, h1 j] at q; cases q
  exact (congrFun (if_neg e) j).trans (h.1 a j q), fun a j q => by
  have e : ¬ a = r := fun z => by rw [z, h2 j] at q; cases q
  exact (congrFun (if_neg e) j).trans (h.2 a j q)⟩
theorem W_nb_k {n k : Nat} : ∀ j, W_nb n (bA n + k) j = true := fun j => decide_eq_true (by omega)
/-- the new cells of the bit, by its sketch -/
def nbI (g g2 : gm_T) (n : Nat) (a b c : Int) : Prop := (gm_I g2 (bA n) 0 = a ∧ gm_I g2 (bA n) 1 = b ∧ gm_I g2 (bA n) 2 = c ∧ gm_I g2 (bA n) 3 = gm_I g 3 3 ∧ gm_I g2 (bA n) 7 = gm_I g 3 7) ∧ (∀ j, gm_I g2 (bA n + 2) j = gm_I g 4 j ∧ gm_I g2 (bA n + 3) j = gm_I g 5 j ∧ gm_I g2 (bA n + 4) j = gm_I g 6 j) ∧ ∀ j, gm_I g2 (bA n + 5) j = gm_I g 7 j ∧ gm_I g2 (bA n + 6) j = gm_I g 8 j ∧ gm_I g2 (bA n + 7) j = gm_I g 9 j
theorem cb_init_eq {n c : Nat} {X Y : Nat → Int} {g : gm_T} (hG : rG c X Y) (h : isC g c X Y) (p q r : Int) : ∃ g2, cb_init n g p q r = some g2 ∧ exc (W_nb n) (W_nb n) g g2 ∧ nbI g g2 n p q r ∧ gm_I g2 (bA n) 11 = rar c X Y c ∧ gm_I g2 (bA n) 12 = ((cntM (winr c X Y) : Nat) : Int) ∧ ∀ t v, t < 4 → v < 40 → rw1 g2 n t v (winr c X Y) := by
  have bn := bA_ge n
  have w0 : ∀ j, W_nb n (bA n) j = true := fun j => decide_eq_true (Nat.le_refl _)
  obtain ⟨G, hGd, xG, nG, jG⟩ : ∃ G, cb_init n g p q r = cb_made G n ∧ exc (W_nb n) (W_nb n) g G ∧ nbI g G n p q r ∧ ∀ j, gm_J G (bA n + 1) j = 0 := by
    unfold cb_init
    simp only [jl_eq]
    refine ⟨_, rfl, exc_bw (exc_bw (exc_bw (exc_wI (exc_bw (exc_bw (exc_bw (exc_wI (exc_wI (exc_wI (exc_wI (exc_bw exc_rf W_nb_k W_nb_k) (w0 _)) (w0 _)) (w0 _)) (w0 _)) W_nb_k W_nb_k) W_nb_k W_nb_k) W_nb_k W_nb_k) (w0 _)) W_nb_k W_nb_k) W_nb_k W_nb_k) W_nb_k W_nb_k, ?_, fun j => ?_⟩
    · unfold nbI
      generalize bA n = B at *
      refine ⟨⟨?_, ?_, ?_, ?_, ?_⟩, fun j => ⟨?_, ?_, ?_⟩, fun j => ⟨?_, ?_, ?_⟩⟩ <;> (repeat (first | rw [gI_be] | rw [gI_bn (by omega)] | rw [gI_eq] | rw [gI_ne (by decide)] | rw [gI_oth (by omega)]))
    · generalize bA n = B at *
      repeat (first | rw [gJ_be] | rw [gJ_bn (by omega)] | rw [gJ_wI])
  have CG : isC G c X Y := ⟨by rw [xG.1 3 3 (decide_eq_false (by omega))]; exact h.1, fun k hk => by rw [xG.1 4 k (decide_eq_false (by omega)), xG.1 5 k (decide_eq_false (by omega))]; exact h.2 k hk⟩
  obtain ⟨g2, e2, x2, a11, a12, R2⟩ := cb_made_eq (n := n) hG CG (fun j _ => jG j)
  rw [hGd]
  have m1 : ∀ a j, W_mI n a j = true → W_nb n a j = true := fun a j q => by
    unfold W_mI at q
    rw [Bool.and_eq_true] at q
    exact decide_eq_true (by have := eq_of_beq q.1; omega)
  have m2 : ∀ a j, W_rws n a j = true → W_nb n a j = true := fun a j q => by
    unfold W_rws at q
    exact decide_eq_true (by have := eq_of_beq q; omega)
  refine ⟨g2, e2, exc_tr xG (exc_mono x2 m1 m2), ?_, a11, a12, R2⟩
  obtain ⟨⟨n1, n2, n3, n4, n5⟩, n6, n7⟩ := nG
  have f0 : ∀ j, ¬ (j = 11 ∨ j = 12) → W_mI n (bA n) j = false := fun j hj => by
    unfold W_mI
    rw [show (j == 11 || j == 12) = false from by rw [Bool.or_eq_false_iff]; exact ⟨beq_eq_false_iff_ne.mpr (by omega), beq_eq_false_iff_ne.mpr (by omega)⟩, Bool.and_false]
  have f1 : ∀ k j, 0 < k → W_mI n (bA n + k) j = false := fun k j hk => by
    unfold W_mI
    rw [show (bA n + k == bA n) = false from beq_eq_false_iff_ne.mpr (by omega), Bool.false_and]
  refine ⟨⟨?_, ?_, ?_, ?_, ?_⟩, fun j => ⟨?_, ?_, ?_⟩, fun j => ⟨?_, ?_, ?_⟩⟩
  · rw [x2.1 _ _ (f0 0 (by omega))]; exact n1
  · rw [x2.1 _ _ (f0 1 (by omega))]; exact n2
  · rw [x2.1 _ _ (f0 2 (by omega))]; exact n3
  · rw [x2.1 _ _ (f0 3 (by omega))]; exact n4
  · rw [x2.1 _ _ (f0 7 (by omega))]; exact n5
  · rw [x2.1 _ _ (f1 2 j (by omega))]; exact (n6 j).1
  · rw [x2.1 _ _ (f1 3 j (by omega))]; exact (n6 j).2.1
  · rw [x2.1 _ _ (f1 4 j (by omega))]; exact (n6 j).2.2
  · rw [x2.1 _ _ (f1 5 j (by omega))]; exact (n7 j).1
  · rw [x2.1 _ _ (f1 6 j (by omega))]; exact (n7 j).2.1
  · rw [x2.1 _ _ (f1 7 j (by omega))]; exact (n7 j).2.2
