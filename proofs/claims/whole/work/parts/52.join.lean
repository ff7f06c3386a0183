/-! join, both sides. -/
theorem lSl_1 {m : Nat} (hm : m < 60) : lSl 1 (m : Int) = lN (2 ^ m) := by
  unfold lSl
  rw [im_ofN, show (1 : Int64) = lN 1 from rfl]
  have := wb_shl 1 (k := m) (by omega)
  rw [Nat.one_mul] at this
  exact this
/-- one edge more, at two others -/
theorem gC_add {A B A' B' : Nat → Nat} {E E' : Nat → Bool} {m c : Nat} (h : ∀ j, j < m → A j = A' j ∧ B j = B' j ∧ E j = E' j) (hA : ¬ gC A B E m c (A' m)) (hB : ¬ gC A B E m c (B' m)) (x : Nat) : gC A' B' E' (m + 1) c x ↔ gC A B E m c x := by
  constructor
  · refine gC_closed (S := fun x => gC A B E m c x) (fun j hj hE => ?_) (gC_rf c)
    by_cases hm : j = m
    · subst hm
      exact ⟨fun z => absurd z hA, fun z => absurd z hB⟩
    · obtain ⟨h1, h2, h3⟩ := h j (by omega)
      rw [← h1, ← h2]
      rw [← h3] at hE
      exact ⟨gC_AB (by omega) hE, gC_BA (by omega) hE⟩
  · refine gC_closed (S := fun x => gC A' B' E' (m + 1) c x) (fun j hj hE => ?_) (gC_rf c)
    obtain ⟨h1, h2, h3⟩ := h j hj
    rw [h1, h2]
    rw [h3] at hE
    exact ⟨gC_AB (by omega) hE, gC_BA (by omega) hE⟩
theorem gC_less {A B : Nat → Nat} {E E' : Nat → Bool} {m i c : Nat} (h : ∀ j, j < m → j ≠ i → E j = E' j) (hi : E' i = false) (hiA : ¬ gC A B E m c (A i)) (hiB : ¬ gC A B E m c (B i)) (x : Nat) : gC A B E' m c x ↔ gC A B E m c x := by
  constructor
  · refine gC_closed (S := fun x => gC A B E m c x) (fun j hj hE => ?_) (gC_rf c)
    by_cases hm : j = i
    · subst hm
      rw [hi] at hE
      cases hE
    · rw [← h j hj hm] at hE
      exact ⟨gC_AB hj hE, gC_BA hj hE⟩
  · have sub : ∀ y, gC A B E' m c y → gC A B E m c y := fun y => gC_closed (S := fun x => gC A B E m c x) (fun j hj hE => by
      by_cases hm : j = i
      · subst hm
        rw [hi] at hE
        cases hE
      · rw [← h j hj hm] at hE
        exact ⟨gC_AB hj hE, gC_BA hj hE⟩) (gC_rf c)
    refine gC_closed (S := fun x => gC A B E' m c x) (fun j hj hE => ?_) (gC_rf c)
    by_cases hm : j = i
    · subst hm
      exact ⟨fun z => absurd (sub _ z) hiA, fun z => absurd (sub _ z) hiB⟩
    · rw [h j hj hm] at hE
      exact ⟨gC_AB hj hE, gC_BA hj hE⟩
/-- the class's add -/
theorem cj_add_eq {n : Nat} {g : gm_T} (h30 : n ≤ 30) {A B : Nat → Nat} {m : Nat} (V : V_jc n g A B m) (hm : m < 60) {T : Nat} {E : Nat → Bool} (hT : isMm m T E) (hTg : gm_J g 14 5 = lN T) {a k b l Ma Mb : Nat} (ha : a < n) (hb : b < n) (ma : gm_I g 19 a = (Ma : Int)) (mb : gm_I g 19 b = (Mb : Int)) (ha2 : Ma < 2 ^ 30) (hb2 : Mb < 2 ^ 30) : ∃ g2, cj_add g (a : Int) (k : Int) (b : Int) (l : Int) = some ((m : Int), g2) ∧ gm_I g2 14 4 = ((m + 1 : Nat) : Int) ∧ gm_J g2 14 5 = lN (T ||| 2 ^ m) ∧ (∀ j, gm_I g2 15 j = if j = m then (a : Int) else gm_I g 15 j) ∧ (∀ j, gm_I g2 16 j = if j = m then (k : Int) else gm_I g 16 j) ∧ (∀ j, gm_I g2 17 j = if j = m then (b : Int) else gm_I g 17 j) ∧ (∀ j, gm_I g2 18 j = if j = m then (l : Int) else gm_I g 18 j) ∧ (∀ c, c < 30 → if (Ma ||| Mb).testBit c = true then ∃ M : Nat, gm_I g2 19 c = (M : Int) ∧ isGm (fun j => if j = m then a else A j) (fun j => if j = m then b else B j) (fun j => if j = m then true else E j) (m + 1) c M else gm_I g2 19 c = gm_I g 19 c) ∧ exc (fun c _ => c == 14 || c == 15 || c == 16 || c == 17 || c == 18 || c == 19) (fun c _ => c == 14) g g2 := by
  obtain ⟨⟨v1, v2⟩, v3⟩ := id V
  have hTm : T ||| 2 ^ m < 2 ^ 60 := Nat.or_lt_two_pow hT.1 (Nat.pow_lt_pow_right (by decide) hm)
  unfold cj_add
  rw [v2, jl_eq, jg_pos (by omega), Int.toNat_natCast]
  simp only [jl_eq, gI_oth (show (14 : Nat) ≠ 18 by decide), gI_oth (show (14 : Nat) ≠ 17 by decide), gI_oth (show (14 : Nat) ≠ 16 by decide), gI_oth (show (14 : Nat) ≠ 15 by decide), v2, gJ_wI, hTg, lSl_1 hm, wb_or (Nat.lt_trans hT.1 (show 2 ^ 60 < 2 ^ 64 by decide)) (Nat.lt_trans (Nat.pow_lt_pow_right (show 1 < 2 by decide) hm) (show 2 ^ 60 < 2 ^ 64 by decide))]
  generalize hG : gm_wJ (gm_wI (gm_wI (gm_wI (gm_wI (gm_wI g 15 m (a : Int)) 16 m (k : Int)) 17 m (b : Int)) 18 m (l : Int)) 14 4 ((m : Int) + 1)) 14 5 (lN (T ||| 2 ^ m)) = g8
  have x8 : exc (fun c _ => c == 14 || c == 15 || c == 16 || c == 17 || c == 18 || c == 19) (fun c _ => c == 14) g g8 := by
    rw [← hG]
    exact exc_wJ (exc_wI (exc_wI (exc_wI (exc_wI (exc_wI exc_rf rfl) rfl) rfl) rfl) rfl) rfl
  have c14 : gm_I g8 14 4 = ((m + 1 : Nat) : Int) := by
    rw [← hG, gI_wJ, gI_eq]
    rfl
  have cJ : gm_J g8 14 5 = lN (T ||| 2 ^ m) := by
    rw [← hG, gJ_wJ, if_pos rfl, if_pos rfl]
  have wI : ∀ (x : gm_T) (c j : Nat) (v : Int), gm_I (gm_wI x c m v) c j = if j = m then v else gm_I x c j := fun x c j v => by
    by_cases z : j = m
    · rw [if_pos z, z, gI_eq]
    · rw [if_neg z, gI_ne z]
  have c15 : ∀ j, gm_I g8 15 j = if j = m then (a : Int) else gm_I g 15 j := fun j => by
    rw [← hG, gI_wJ, gI_oth (by decide), gI_oth (by decide), gI_oth (by decide), gI_oth (by decide), wI]
  have c16 : ∀ j, gm_I g8 16 j = if j = m then (k : Int) else gm_I g 16 j := fun j => by
    rw [← hG, gI_wJ, gI_oth (by decide), gI_oth (by decide), gI_oth (by decide), wI, gI_oth (by decide)]
  have c17 : ∀ j, gm_I g8 17 j = if j = m then (b : Int) else gm_I g 17 j := fun j => by
    rw [← hG, gI_wJ, gI_oth (by decide), gI_oth (by decide), wI, gI_oth (by decide), gI_oth (by decide)]
  have c18 : ∀ j, gm_I g8 18 j = if j = m then (l : Int) else gm_I g 18 j := fun j => by
    rw [← hG, gI_wJ, gI_oth (by decide), wI, gI_oth (by decide), gI_oth (by decide), gI_oth (by decide)]
  have c19 : ∀ c, gm_I g8 19 c = gm_I g 19 c := fun c => by
    rw [← hG, gI_wJ, gI_oth (by decide), gI_oth (by decide), gI_oth (by decide), gI_oth (by decide), gI_oth (by decide)]
  have V8 : V_jc n g8 (fun j => if j = m then a else A j) (fun j => if j = m then b else B j) (m + 1) := by
    refine ⟨⟨by omega, c14⟩, fun j hj => ?_⟩
    rw [c15 j, c17 j]
    dsimp only
    by_cases z : j = m
    · rw [if_pos z, if_pos z, if_pos z, if_pos z]
      exact ⟨rfl, rfl, ha, hb⟩
    · rw [if_neg z, if_neg z, if_neg z, if_neg z]
      exact v3 j (by omega)
  have hT8 : isMm (m + 1) (T ||| 2 ^ m) (fun j => if j = m then true else E j) := by
    refine ⟨hTm, fun j hj => ?_⟩
    rw [Nat.testBit_or, Nat.testBit_two_pow]
    dsimp only
    by_cases z : j = m
    · subst z
      rw [if_pos rfl, decide_eq_true rfl, Bool.or_true]
    · rw [if_neg z, decide_eq_false (fun y => z y.symm), Bool.or_false]
      exact hT.2 j (by omega)
  have hQ : Ma ||| Mb < 2 ^ 30 := Nat.or_lt_two_pow ha2 hb2
  obtain ⟨g2, r1, r2, r3⟩ := cj_regroup_eq h30 V8 hT8 cJ hQ
  rw [jg_pos (by omega), jg_pos (by omega), Int.toNat_natCast, Int.toNat_natCast, c19, c19, ma, mb, zO_n (Nat.lt_trans ha2 (by decide)) (Nat.lt_trans hb2 (by decide)), r1, jb1_some]
  refine ⟨g2, rfl, by rw [r2.1 14 4 rfl]; exact c14, by rw [r2.2 14 5 rfl]; exact cJ, fun j => by rw [r2.1 15 j rfl]; exact c15 j, fun j => by rw [r2.1 16 j rfl]; exact c16 j, fun j => by rw [r2.1 17 j rfl]; exact c17 j, fun j => by rw [r2.1 18 j rfl]; exact c18 j, fun c hc => ?_, exc_tr x8 (exc_mono r2 (fun a k q => by
    simp only [W_19, beq_iff_eq] at q
    subst q
    rfl) (fun _ _ q => by cases q))⟩
  have := r3 c hc
  rw [c19 c] at this
  exact this
/-- the verdict told with the tried join in the cells, told without -/
theorem VR_conv {n : Nat} {g gc : gm_T} {P : Nat → plc} (V : V_jm n g) (hm : jm gc = jm g) (hj : ∀ j, j < jm g → jA g j = jA gc j ∧ jB g j = jB gc j ∧ jE g j = jE gc j) (hF : keepF gc = keepF g) (h70 : hw gc = hw g) (h71 : hp gc = hp g) {a b : Nat} (ha : a < n) (hb : b < n) {f : plc} {k x y d : Nat} {w : Nat → Int} (h : VR n gc P a b f k x y d w) : VR n g P a b f k x y d w := by
  have ecn : cn gc = cn g := by
    funext c e
    apply propext
    unfold cn
    rw [hm]
    exact (gC_cong hj c e).symm
  have ert : rt gc = rt g := by
    unfold rt
    rw [ecn]
  have eon : onW n gc = onW n g := by
    unfold onW
    rw [ecn, h70, h71]
  have ehl : hl n gc = hl n g := by
    unfold hl pw pu
    rw [ert, h70, h71]
  have ebad := c_bad hF
  have edst : ∀ to c, dst n gc to c = dst n g to c := fun to c => by
    unfold dst
    rw [hm, ← gbf_cong hj to n]
  obtain ⟨hn, hne⟩ := jendm V
  have eway : ∀ {to c : Nat} {e : Nat}, to < n → c < n → dst n g to c = (e : Int) → ∀ i, i < e → wayj n gc to c i = wayj n g to c i := by
    intro to c e h1 h2 h3 i hi
    unfold wayj
    rw [hm, gj_cong hj hn hne h1 h2 h3 hi]
  have ehit2 : hit2 gc = hit2 g := by
    unfold hit2
    rw [ecn, ebad]
  have ehitc : hitc n gc = hitc n g := by
    unfold hitc
    rw [ecn, ert, eon, ebad]
  unfold VR at h ⊢
  rw [ecn, ehit2, eon, ehl, ehitc, ert] at h
  by_cases c1 : cn g a b
  · rw [@if_pos _ (gd _) c1] at h ⊢
    by_cases c2 : rel (P a) (P b) = f
    · rw [@if_pos _ (gd _) c2] at h ⊢
      exact h
    · rw [@if_neg _ (gd _) c2] at h ⊢
      obtain ⟨q1, q2, q3, q4, q5⟩ := h
      rw [edst] at q4
      exact ⟨q1, q2, q3, q4, fun i hi => by rw [q5 i hi, eway hb ha q4 i hi]⟩
  · rw [@if_neg _ (gd _) c1] at h ⊢
    by_cases c2 : ∃ p q, LF (hit2 g P a b f) n p q
    · rw [@if_pos _ (gd _) c2] at h ⊢
      obtain ⟨d1, d2, q0, q1, q2, q3, q4, q5⟩ := h
      rw [edst] at q2 q3
      refine ⟨d1, d2, q0, q1, q2, q3, q4, fun i hi => ?_⟩
      rw [q5 i hi]
      unfold two
      by_cases z : i < d1
      · rw [@if_pos _ (gd _) z, @if_pos _ (gd _) z, eway ha q0.1 q2 i z]
      · rw [@if_neg _ (gd _) z, @if_neg _ (gd _) z, eway q0.2.1 hb q3 (i - d1) (by omega)]
    · rw [@if_neg _ (gd _) c2] at h ⊢
      by_cases c3 : onW n g a
      · rw [@if_pos _ (gd _) c3] at h ⊢
        by_cases c4 : onW n g b
        · rw [@if_pos _ (gd _) c4] at h ⊢
          by_cases c5 : P b = pon (P a) f
          · rw [@if_pos _ (gd _) c5] at h ⊢
            exact h
          · rw [@if_neg _ (gd _) c5] at h ⊢
            obtain ⟨d1, d2, q1, q6, q7, q2, q3, q4, q5⟩ := h
            rw [edst] at q2 q3
            have hx : x < n := by
              rcases hl_sp (n := n) g a with ⟨z, z2⟩ | ⟨c, z1, z2, -⟩
              · exact absurd c3 z2
              · omega
            have hy : y < n := by
              rcases hl_sp (n := n) g b with ⟨z, z2⟩ | ⟨c, z1, z2, -⟩
              · exact absurd c4 z2
              · omega
            refine ⟨d1, d2, q1, q6, q7, q2, q3, q4, fun i hi => ?_⟩
            rw [q5 i hi]
            unfold two
            by_cases z : i < d1
            · rw [@if_pos _ (gd _) z, @if_pos _ (gd _) z, eway ha hx q2 i z]
            · rw [@if_neg _ (gd _) z, @if_neg _ (gd _) z, eway hy hb q3 (i - d1) (by omega)]
        · rw [@if_neg _ (gd _) c4] at h ⊢
          exact h
      · rw [@if_neg _ (gd _) c3] at h ⊢
        exact h
