/-! Proofs: the best joins, from which word, proof, reason, joined. -/
noncomputable def bE (n : Nat) (g : gm_T) (j : Nat) : Bool := jE g j && @decide (isB n g (jA g j) (jK g j) (jB g j) (jL g j)) (gd _)
theorem a_bE {n : Nat} {g g2 : gm_T} (e : keepC g2 = keepC g) : bE n g2 = bE n g := by
  have h : ∀ a k b l, isB n g2 a k b l = isB n g a k b l := fun a k b l => by
    unfold isB rvs oth ky
    have eF := keepF_C e
    simp only [k_mE eF, k_isF eF, k_scv eF, k_tn eF]
  funext j
  unfold bE
  rw [c_jE e, c_jA e, c_jK e, c_jB e, c_jL e, h]
theorem cv_best_lp {n : Nat} {g : gm_T} (I : I_fit n g) (V : V_jn n g) : ∀ (d j fuel S : Nat), j + d = jm g → d < fuel → S < 2 ^ 60 → (∀ i, S.testBit i = (decide (i < j) && bE n g i)) → ∃ S2 : Nat, cv_bestJoins_l4 n g fuel (lN S) (j : Int) = some (lN S2) ∧ S2 < 2 ^ 60 ∧ ∀ i, S2.testBit i = (decide (i < jm g) && bE n g i) := by
  have h30 := I.1.2.2
  obtain ⟨m60, m1, m2⟩ := jm_60 V
  intro d
  induction d with
  | zero =>
    intro j fuel S hd hf hS hb
    obtain ⟨f, rfl⟩ : ∃ f, fuel = f + 1 := ⟨fuel - 1, by omega⟩
    have hk : j = jm g := by omega
    unfold cv_bestJoins_l4
    rw [m2, jg_pos ⟨rgn (by omega), rgn (by omega)⟩, if_neg (by omega)]
    rw [hk] at hb
    exact ⟨S, rfl, hS, hb⟩
  | succ d ih =>
    intro j fuel S hd hf hS hb
    obtain ⟨f, rfl⟩ : ∃ f, fuel = f + 1 := ⟨fuel - 1, by omega⟩
    have hj : j < jm g := by omega
    obtain ⟨⟨a1, a2, a3⟩, ⟨k1, k2, k3⟩, ⟨b1, b2, b3⟩, ⟨l1, l2, l3⟩, -⟩ := V.2.1 j hj
    have skip : bE n g j = false → ∃ S2 : Nat, cv_bestJoins_l4 n g f (lN S) ((j : Int) + 1) = some (lN S2) ∧ S2 < 2 ^ 60 ∧ ∀ i, S2.testBit i = (decide (i < jm g) && bE n g i) := fun hq => ih (j + 1) f S (by omega) (by omega) hS (fun i => by
      rw [hb i]
      by_cases z : i = j
      · rw [z, hq, Bool.and_false, Bool.and_false]
      · congr 1
        apply dec2
        rw [decide_eq_true_eq, decide_eq_true_eq]
        omega)
    unfold cv_bestJoins_l4
    rw [m2, jg_pos ⟨rgn (by omega), rgn (by omega)⟩, if_pos (by omega), cj_isThere_eq V (rgn (by omega)), jb_gd, Int.toNat_natCast]
    by_cases c1 : jE g j = true
    · rw [@if_pos _ (gd _) ⟨by omega, by omega, c1⟩, jg_pos (by omega), a1, a2, k1, k2, b1, b2, l1, l2, cf_best_eq I a3 k3 b3 l3, jb_gd]
      by_cases c2 : isB n g (jA g j) (jK g j) (jB g j) (jL g j)
      · have hbe : bE n g j = true := by
          unfold bE
          rw [c1, @decide_eq_true _ (gd _) c2]
          rfl
        rw [@if_pos _ (gd _) c2, lSl_1 (by omega), wb_or (Nat.lt_trans hS (by decide)) (Nat.lt_trans (Nat.pow_lt_pow_right (show 1 < 2 by decide) (show j < 60 by omega)) (by decide)), jl_eq]
        refine ih (j + 1) f (S ||| 2 ^ j) (by omega) (by omega) (Nat.or_lt_two_pow hS (Nat.pow_lt_pow_right (by decide) (by omega))) (fun i => ?_)
        rw [Nat.testBit_or, Nat.testBit_two_pow, hb i]
        by_cases z : i = j
        · rw [z, hbe, decide_eq_true rfl, Bool.or_true, decide_eq_true (show j < j + 1 by omega)]
          rfl
        · rw [decide_eq_false (show ¬ j = i from fun y => z y.symm), Bool.or_false]
          congr 1
          apply dec2
          rw [decide_eq_true_eq, decide_eq_true_eq]
          omega
      · rw [@if_neg _ (gd _) c2]
        exact skip (by
          unfold bE
          rw [@decide_eq_false _ (gd _) c2, Bool.and_false])
    · rw [@if_neg _ (gd _) (fun z => c1 z.2.2)]
      exact skip (by
        unfold bE
        cases q : jE g j with
        | false => rfl
        | true => exact absurd q c1)
theorem cv_bestJoins_eq {n : Nat} {g : gm_T} (I : I_fit n g) (V : V_jn n g) : ∃ S : Nat, cv_bestJoins n g = some (lN S) ∧ isM g S (bE n g) := by
  have m60 := (jm_60 V).1
  obtain ⟨S, s1, s2, s3⟩ := cv_best_lp I V (jm g) 0 fz 0 (by omega) (Nat.lt_of_le_of_lt m60 (fz_gt rfl)) (by decide) (fun i => by
    rw [Nat.zero_testBit, decide_eq_false (by omega)]
    rfl)
  unfold cv_bestJoins
  rw [show cv_bestJoins_l4 n g fz 0 0 = some (lN S) from s1, jb1_some]
  exact ⟨S, rfl, s2, fun j hj => by rw [s3 j, decide_eq_true hj, Bool.true_and]⟩
def W_jd (a k : Nat) : Bool := W_list a k || a == 82
theorem scr_jd {g g2 : gm_T} (h : exc W_jd nob g g2) : exc scr scrJ g g2 := exc_mono h (fun a k q => by
  simp only [W_jd, W_list, Bool.or_eq_true, Bool.and_eq_true, beq_iff_eq] at q
  rcases q with (((rfl | ⟨rfl, rfl⟩) | rfl) | rfl) | rfl <;> rfl) (fun _ _ q => by cases q)
theorem md_judges_lp {n : Nat} {g : gm_T} {P : Nat → plc} (h : IWm n g P) {g0 : gm_T} (e0 : keepC g0 = keepC g) : ∀ (d j fuel : Nat) (g1 : gm_T), j + d = jm g → d < fuel → exc W_jd nob g0 g1 → (∀ i, i < j → gm_I g1 82 i = if bE n g i = true then 1 else 0) → ∃ g2, md_judges_l2 fuel (j : Int) g1 = some g2 ∧ exc W_jd nob g0 g2 ∧ ∀ i, i < jm g → gm_I g2 82 i = if bE n g i = true then 1 else 0 := by
  have h30 := h.1.1.2.2
  intro d
  induction d with
  | zero =>
    intro j fuel g1 hd hf hx hi
    obtain ⟨f, rfl⟩ : ∃ f, fuel = f + 1 := ⟨fuel - 1, by omega⟩
    have e1 := (keepC_scr (scr_jd hx)).trans e0
    have V1 := V_jm_tr e1 h.2.1
    obtain ⟨m60, m1, -⟩ := jm_60m V1
    rw [c_jm e1] at m60 m1
    have hk : j = jm g := by omega
    unfold md_judges_l2
    rw [m1, jg_pos ⟨rgn (by omega), rgn (by omega)⟩, if_neg (by omega)]
    rw [hk] at hi
    exact ⟨g1, rfl, hx, hi⟩
  | succ d ih =>
    intro j fuel g1 hd hf hx hi
    obtain ⟨f, rfl⟩ : ∃ f, fuel = f + 1 := ⟨fuel - 1, by omega⟩
    have e1 := (keepC_scr (scr_jd hx)).trans e0
    have V1 := V_jm_tr e1 h.2.1
    have I1 := I_fit_tr (keepF_C e1) h.1
    obtain ⟨m60, m1, -⟩ := jm_60m V1
    rw [c_jm e1] at m60 m1
    have hj : j < jm g1 := by rw [c_jm e1]; omega
    obtain ⟨⟨-, a2, a3⟩, ⟨-, k2, k3⟩, ⟨-, b2, b3⟩, ⟨-, l2, l3⟩, h01, -⟩ := V1.2.1 j hj
    have hE : jE g1 j = decide (gm_I g1 69 j ≠ 0) := rfl
    have go : ∀ g2, exc W_jd nob g0 g2 → gm_I g2 82 j = (if bE n g j = true then 1 else 0) → (∀ i, i ≠ j → gm_I g2 82 i = gm_I g1 82 i) → ∃ g3, md_judges_l2 f ((j : Int) + 1) g2 = some g3 ∧ exc W_jd nob g0 g3 ∧ ∀ i, i < jm g → gm_I g3 82 i = if bE n g i = true then 1 else 0 := fun g2 x2 q1 q2 => ih (j + 1) f g2 (by omega) (by omega) x2 (fun i hij => by
      by_cases z : i = j
      · rw [z]; exact q1
      · rw [q2 i z]
        exact hi i (by omega))
    have ebE : bE n g j = (jE g1 j && @decide (isB n g1 (jA g1 j) (jK g1 j) (jB g1 j) (jL g1 j)) (gd _)) := by
      rw [← a_bE e1]
      rfl
    unfold md_judges_l2
    rw [m1, jg_pos ⟨rgn (by omega), rgn (by omega)⟩, if_pos (by omega), jg_pos (by omega), Int.toNat_natCast]
    rcases h01 with z | z
    · rw [z] at hE
      rw [z, jg_pos (rgk rfl), if_pos rfl, jl_eq]
      refine go _ (exc_wI hx rfl) ?_ (fun i hi2 => gI_ne hi2)
      rw [gI_eq, ebE, hE]
      rfl
    · rw [z] at hE
      obtain ⟨g2, r1, r2⟩ := md_best_eq I1 (j := (j : Int)) (by omega) a3 k3 b3 l3 (by rw [Int.toNat_natCast]; exact a2) (by rw [Int.toNat_natCast]; exact k2) (by rw [Int.toNat_natCast]; exact b2) (by rw [Int.toNat_natCast]; exact l2)
      have x2 : exc W_jd nob g0 g2 := exc_tr hx (exc_mono r2 (fun a k q => by unfold W_jd; rw [q]; rfl) (fun _ _ q => q))
      have o82 : ∀ i, gm_I g2 82 i = gm_I g1 82 i := fun i => r2.1 82 i rfl
      rw [z, jg_pos (rgk rfl), if_neg n10, r1, jb2_some]
      by_cases c2 : isB n g1 (jA g1 j) (jK g1 j) (jB g1 j) (jL g1 j)
      · rw [@if_pos _ (gd _) c2, jg_pos (rgk rfl), if_neg n10, jl_eq]
        refine go _ (exc_wI x2 rfl) ?_ (fun i hi2 => by rw [gI_ne hi2, o82 i])
        rw [gI_eq, ebE, hE, @decide_eq_true _ (gd _) c2]
        rfl
      · rw [@if_neg _ (gd _) c2, jg_pos (rgk rfl), if_pos rfl, jl_eq]
        refine go _ (exc_wI x2 rfl) ?_ (fun i hi2 => by rw [gI_ne hi2, o82 i])
        rw [gI_eq, ebE, hE, @decide_eq_false _ (gd _) c2]
        rfl
theorem md_judges_eq {n : Nat} {g : gm_T} {P : Nat → plc} (h : IWm n g P) {g0 : gm_T} (e0 : keepC g0 = keepC g) : ∃ g2, md_judges g0 = some g2 ∧ exc W_jd nob g0 g2 ∧ ∀ i, i < jm g → gm_I g2 82 i = if bE n g i = true then 1 else 0 := by
  have m60 := (jm_60m h.2.1).1
  obtain ⟨g2, e1, e2⟩ := md_judges_lp h e0 (jm g) 0 fz g0 (by omega) (Nat.lt_of_le_of_lt m60 (fz_gt rfl)) exc_rf (fun i hi => by omega)
  unfold md_judges
  rw [show md_judges_l2 fz 0 g0 = some g2 from e1, jb1_some]
  exact ⟨g2, rfl, e2⟩
theorem leads_b {n : Nat} {g : gm_T} {P : Nat → plc} (h : IWm n g P) {g1 : gm_T} (e1 : keepC g1 = keepC g) (h82 : ∀ i, i < jm g → gm_I g1 82 i = if bE n g i = true then 1 else 0) {j : Nat} (hj : j < jm g) : md_leads g1 (j : Int) 1 = some (if bE n g j = true then 1 else 0) := by
  have h1 := md_leads_1 (V_jm_tr e1 h.2.1) (j := j) (by rw [c_jm e1]; exact hj) (by
    rw [h82 j hj]
    split
    · exact Or.inr rfl
    · exact Or.inl rfl)
  rw [h1, h82 j hj, c_jE e1]
  congr 1
  have hb : bE n g j = (jE g j && @decide (isB n g (jA g j) (jK g j) (jB g j) (jL g j)) (gd _)) := rfl
  by_cases c : bE n g j = true
  · have hE : jE g j = true := by
      rw [hb, Bool.and_eq_true] at c
      exact c.1
    rw [if_pos c, hE]
    rfl
  · rw [if_neg c]
    simp
/-- the least far of a kind, the first of several -/
def amn (p : Nat → Bool) (w : Nat → Int) : Nat → Int
  | 0 => -1
  | k + 1 => if p k = true then (if amn p w k = -1 ∨ w k < w (amn p w k).toNat then (k : Int) else amn p w k) else amn p w k
theorem amn_sp (p : Nat → Bool) (w : Nat → Int) : ∀ k, (amn p w k = -1 ∧ ∀ i, i < k → p i = false) ∨ ∃ i, i < k ∧ p i = true ∧ amn p w k = (i : Int)
  | 0 => Or.inl ⟨rfl, fun i hi => by omega⟩
  | k + 1 => by
    have ih := amn_sp p w k
    show ((if p k = true then (if amn p w k = -1 ∨ w k < w (amn p w k).toNat then (k : Int) else amn p w k) else amn p w k) = -1 ∧ _) ∨ ∃ i, i < k + 1 ∧ p i = true ∧ (if p k = true then (if amn p w k = -1 ∨ w k < w (amn p w k).toNat then (k : Int) else amn p w k) else amn p w k) = (i : Int)
    by_cases c : p k = true
    · rw [if_pos c]
      by_cases c2 : amn p w k = -1 ∨ w k < w (amn p w k).toNat
      · rw [if_pos c2]
        exact Or.inr ⟨k, by omega, c, rfl⟩
      · rw [if_neg c2]
        rcases ih with ⟨h1, -⟩ | ⟨i, h1, h2, h3⟩
        · exact absurd (Or.inl h1) c2
        · exact Or.inr ⟨i, by omega, h2, h3⟩
    · rw [if_neg c]
      have hk : p k = false := by
        cases q : p k with
        | false => rfl
        | true => exact absurd q c
      rcases ih with ⟨h1, h2⟩ | ⟨i, h1, h2, h3⟩
      · refine Or.inl ⟨h1, fun i hi => ?_⟩
        by_cases z : i = k
        · rw [z]; exact hk
        · exact h2 i (by omega)
      · exact Or.inr ⟨i, by omega, h2, h3⟩
noncomputable def pf (n : Nat) (g : gm_T) (bit b : Nat) : Bool := hw g b && decide (0 ≤ gbf (jA g) (jB g) (bE n g) (jm g) bit n b)
noncomputable def pfr (n : Nat) (g : gm_T) (bit : Nat) : Int := amn (pf n g bit) (gbf (jA g) (jB g) (bE n g) (jm g) bit n) n
theorem far_in {n : Nat} {g : gm_T} (V : V_jm n g) (E : Nat → Bool) {a : Nat} (ha : a < n) (b : Nat) : -1 ≤ gbf (jA g) (jB g) E (jm g) a n b ∧ gbf (jA g) (jB g) E (jm g) a n b < (n : Int) := by
  rcases gbf_end (E := E) (jendm V).1 ha (r := n) (by omega) b with ⟨d, h1, h2, -⟩ | ⟨h1, -⟩ <;> omega
theorem md_pf_lp {n : Nat} {g : gm_T} {P : Nat → plc} (h : IWm n g P) {g1 : gm_T} (e1 : keepC g1 = keepC g) {bit : Nat} (hb : bit < n) (hw83 : ∀ b, b < n → gm_I g1 83 b = gbf (jA g) (jB g) (bE n g) (jm g) bit n b) : ∀ (d k fuel : Nat), k + d = n → d < fuel → md_provedFrom_l10 g1 fuel (amn (pf n g bit) (gbf (jA g) (jB g) (bE n g) (jm g) bit n) k) (k : Int) = some (pfr n g bit) := by
  have h30 := h.1.1.2.2
  have h3 := (num_C e1 h.1.1).2.1
  intro d
  induction d with
  | zero =>
    intro k fuel hd hf
    obtain ⟨f, rfl⟩ : ∃ f, fuel = f + 1 := ⟨fuel - 1, by omega⟩
    have hk : k = n := by omega
    subst hk
    unfold md_provedFrom_l10
    rw [h3, jg_pos ⟨rgn (by omega), rgn (by omega)⟩, if_neg (by omega)]
    rfl
  | succ d ih =>
    intro k fuel hd hf
    obtain ⟨f, rfl⟩ : ∃ f, fuel = f + 1 := ⟨fuel - 1, by omega⟩
    have hk : k < n := by omega
    have next := ih (k + 1) f (by omega) (by omega)
    have w01 := ((isWm_tr e1 h.2.2.2).2.2.2.2.2 k hk).1
    have hhw : hw g k = decide (gm_I g1 70 k ≠ 0) := by rw [← c_hw e1]; rfl
    have hfar := far_in h.2.1 (bE n g) hb k
    have hs : amn (pf n g bit) (gbf (jA g) (jB g) (bE n g) (jm g) bit n) (k + 1) = if pf n g bit k = true then (if amn (pf n g bit) (gbf (jA g) (jB g) (bE n g) (jm g) bit n) k = -1 ∨ gbf (jA g) (jB g) (bE n g) (jm g) bit n k < gbf (jA g) (jB g) (bE n g) (jm g) bit n (amn (pf n g bit) (gbf (jA g) (jB g) (bE n g) (jm g) bit n) k).toNat then (k : Int) else amn (pf n g bit) (gbf (jA g) (jB g) (bE n g) (jm g) bit n) k) else amn (pf n g bit) (gbf (jA g) (jB g) (bE n g) (jm g) bit n) k := rfl
    have hpf : pf n g bit k = (hw g k && decide (0 ≤ gbf (jA g) (jB g) (bE n g) (jm g) bit n k)) := rfl
    have hsp := amn_sp (pf n g bit) (gbf (jA g) (jB g) (bE n g) (jm g) bit n) k
    unfold md_provedFrom_l10
    rw [h3, jg_pos ⟨rgn (by omega), rgn (by omega)⟩, if_pos (by omega), jg_pos (by omega), Int.toNat_natCast, hw83 k hk]
    rw [hs, hpf] at next
    rcases w01 with z | z
    · rw [z] at hhw
      rw [z, jg_pos (rgk rfl), if_pos rfl]
      rw [hhw] at next
      exact next
    · rw [z] at hhw
      rw [z, jg_pos (rgk rfl), if_neg n10, jg_pos ⟨by omega, by omega⟩]
      rw [hhw] at next
      by_cases c1 : gbf (jA g) (jB g) (bE n g) (jm g) bit n k = -1
      · rw [if_pos c1]
        rw [decide_eq_false (show ¬ 0 ≤ gbf (jA g) (jB g) (bE n g) (jm g) bit n k by omega), Bool.and_false] at next
        exact next
      · rw [if_neg c1]
        rw [decide_eq_true (show 0 ≤ gbf (jA g) (jB g) (bE n g) (jm g) bit n k by omega)] at next
        rw [if_pos (show (decide ((1 : Int) ≠ 0) && true) = true by decide)] at next
        rcases hsp with ⟨s1, -⟩ | ⟨i, s1, s2, s3⟩
        · rw [s1] at next ⊢
          rw [if_pos (Or.inl rfl)] at next
          rw [jg_pos (rgk rfl), if_pos rfl]
          exact next
        · rw [s3, Int.toNat_natCast] at next
          have hfi := far_in h.2.1 (bE n g) hb i
          rw [s3, jg_pos (rgn (by omega)), if_neg (by omega), jg_pos (by omega), Int.toNat_natCast, hw83 i (by omega), jg_pos ⟨by omega, by omega⟩]
          by_cases c2 : gbf (jA g) (jB g) (bE n g) (jm g) bit n k < gbf (jA g) (jB g) (bE n g) (jm g) bit n i
          · rw [if_pos (Or.inr c2)] at next
            rw [if_pos c2]
            exact next
          · rw [if_neg (show ¬ ((i : Int) = -1 ∨ gbf (jA g) (jB g) (bE n g) (jm g) bit n k < gbf (jA g) (jB g) (bE n g) (jm g) bit n i) by omega)] at next
            rw [if_neg c2]
            exact next
theorem md_provedFrom_eq {n : Nat} {g : gm_T} {P : Nat → plc} (h : IWm n g P) {g0 : gm_T} (e0 : keepC g0 = keepC g) (h82 : ∀ i, i < jm g → gm_I g0 82 i = if bE n g i = true then 1 else 0) {bit : Nat} (hb : bit < n) : ∃ g2, md_provedFrom g0 (bit : Int) = some (pfr n g bit, g2) ∧ exc W_83 nob g0 g2 ∧ ∀ b, b < n → gm_I g2 83 b = gbf (jA g) (jB g) (bE n g) (jm g) bit n b := by
  have h30 := h.1.1.2.2
  obtain ⟨g2, e1, e2, e3⟩ := md_reckons_eq (g := g0) (num_C e0 h.1.1) (V_jm_tr e0 h.2.1) (E := bE n g) (best := 1) (fun g' hg' j hj => by
    have e5 : keepC g' = keepC g := (keepC_scr (scr_83 hg')).trans e0
    exact leads_b h e5 (fun i hi => by rw [hg'.1 82 i rfl]; exact h82 i hi) (by rw [← c_jm e0]; exact hj)) hb
  rw [c_jA e0, c_jB e0, c_jm e0] at e3
  have k2 := (keepC_scr (scr_83 e2)).trans e0
  have h1 := md_pf_lp h k2 hb e3 n 0 fz (by omega) (Nat.lt_of_le_of_lt h30 (fz_gt rfl))
  unfold md_provedFrom
  rw [e1, jb1_some, show md_provedFrom_l10 g2 fz (-1) 0 = some (pfr n g bit) from h1, jb1_some]
  exact ⟨g2, rfl, e2, e3⟩
-- the class
theorem cv_pf_lp {n : Nat} {g : gm_T} {P : Nat → plc} (h : IW n g P) {g1 : gm_T} (e1 : keepA g1 = keepA g) {bit : Nat} (hb : bit < n) {c6 : Int64} (hw20 : ∀ b, b < 30 → gm_I g1 20 b = gbf (jA g) (jB g) (bE n g) (jm g) bit n b) : ∀ (d k fuel : Nat), k + d = n → d < fuel → cv_prove_l30 n g1 c6 fuel (amn (pf n g bit) (gbf (jA g) (jB g) (bE n g) (jm g) bit n) k) (k : Int) = some (pfr n g bit) := by
  have h1 := IW_tr e1 h
  have h30 := h1.1.1.2.2
  have h3 := h1.1.1.1
  intro d
  induction d with
  | zero =>
    intro k fuel hd hf
    obtain ⟨f, rfl⟩ : ∃ f, fuel = f + 1 := ⟨fuel - 1, by omega⟩
    have hk : k = n := by omega
    subst hk
    unfold cv_prove_l30
    rw [h3, jg_pos ⟨rgn (by omega), rgn (by omega)⟩, if_neg (by omega)]
    rfl
  | succ d ih =>
    intro k fuel hd hf
    obtain ⟨f, rfl⟩ : ∃ f, fuel = f + 1 := ⟨fuel - 1, by omega⟩
    have hk : k < n := by omega
    have next := ih (k + 1) f (by omega) (by omega)
    have hfar := far_in (vm h.2.1) (bE n g) hb k
    have hs : amn (pf n g bit) (gbf (jA g) (jB g) (bE n g) (jm g) bit n) (k + 1) = if pf n g bit k = true then (if amn (pf n g bit) (gbf (jA g) (jB g) (bE n g) (jm g) bit n) k = -1 ∨ gbf (jA g) (jB g) (bE n g) (jm g) bit n k < gbf (jA g) (jB g) (bE n g) (jm g) bit n (amn (pf n g bit) (gbf (jA g) (jB g) (bE n g) (jm g) bit n) k).toNat then (k : Int) else amn (pf n g bit) (gbf (jA g) (jB g) (bE n g) (jm g) bit n) k) else amn (pf n g bit) (gbf (jA g) (jB g) (bE n g) (jm g) bit n) k := rfl
    have hpf : pf n g bit k = (hw g k && decide (0 ≤ gbf (jA g) (jB g) (bE n g) (jm g) bit n k)) := rfl
    have hsp := amn_sp (pf n g bit) (gbf (jA g) (jB g) (bE n g) (jm g) bit n) k
    rw [hs, hpf] at next
    unfold cv_prove_l30
    rw [h3, jg_pos ⟨rgn (by omega), rgn (by omega)⟩, if_pos (by omega), cv_hasWord_eq h1 hk, a_hw e1, jb1_some, Int.toNat_natCast, hw20 k (by omega)]
    have D : (jg (rg (if hw g k = true then (1 : Int) else 0)) (if (if hw g k = true then (1 : Int) else 0) = 0 then (some (0 : Int)) else (jg (0 ≤ (k : Int) ∧ (k : Int) < 30) (jg (rg (gbf (jA g) (jB g) (bE n g) (jm g) bit n k)) (if gbf (jA g) (jB g) (bE n g) (jm g) bit n k < 0 then (some 0) else (some 1)))))) = some (if (hw g k && decide (0 ≤ gbf (jA g) (jB g) (bE n g) (jm g) bit n k)) = true then 1 else 0) := by
      cases hq : hw g k with
      | false =>
        simp only [Bool.false_eq_true, if_false]
        rw [jg_pos (rgk rfl), if_pos trivial]
        rfl
      | true =>
        simp only [if_true]
        rw [jg_pos (rgk rfl), if_neg n10, jg_pos (by omega), jg_pos ⟨by omega, by omega⟩]
        by_cases z : gbf (jA g) (jB g) (bE n g) (jm g) bit n k < 0
        · rw [if_pos z, decide_eq_false (by omega)]
          rfl
        · rw [if_neg z, decide_eq_true (by omega)]
          rfl
    rw [D, jb_tst]
    by_cases c : (hw g k && decide (0 ≤ gbf (jA g) (jB g) (bE n g) (jm g) bit n k)) = true
    · rw [if_pos c] at next ⊢
      rcases hsp with ⟨s1, -⟩ | ⟨i, s1, s2, s3⟩
      · rw [s1] at next ⊢
        rw [if_pos (Or.inl rfl)] at next
        rw [jg_pos (rgk rfl), if_pos (by decide)]
        exact next
      · rw [s3, Int.toNat_natCast] at next
        have hfi := far_in (vm h.2.1) (bE n g) hb i
        rw [s3, jg_pos (rgn (by omega)), if_neg (by omega), jg_pos (by omega), jg_pos (by omega), Int.toNat_natCast, hw20 i (by omega), jg_pos ⟨⟨by omega, by omega⟩, by omega, by omega⟩]
        by_cases c2 : gbf (jA g) (jB g) (bE n g) (jm g) bit n k < gbf (jA g) (jB g) (bE n g) (jm g) bit n i
        · rw [if_pos (Or.inr c2)] at next
          rw [if_pos c2]
          exact next
        · rw [if_neg (show ¬ ((i : Int) = -1 ∨ gbf (jA g) (jB g) (bE n g) (jm g) bit n k < gbf (jA g) (jB g) (bE n g) (jm g) bit n i) by omega)] at next
          rw [if_neg c2]
          exact next
    · rw [if_neg c] at next ⊢
      exact next
theorem bE_cn {n : Nat} {g : gm_T} {a b : Nat} (h : gC (jA g) (jB g) (bE n g) (jm g) a b) : cn g a b := gC_closed (S := fun x => cn g a x) (fun j hj hE => by
  have hE2 : jE g j = true := by
    unfold bE at hE
    rw [Bool.and_eq_true] at hE
    exact hE.1
  exact ⟨gC_AB hj hE2, gC_BA hj hE2⟩) (gC_rf a) h
theorem pf_iff {n : Nat} {g : gm_T} (V : V_jm n g) {bit b : Nat} (hb : bit < n) : pf n g bit b = true ↔ hw g b = true ∧ gC (jA g) (jB g) (bE n g) (jm g) bit b := by
  unfold pf
  rw [Bool.and_eq_true, decide_eq_true_eq]
  rcases gbf_end (E := bE n g) (jendm V).1 hb (r := n) (by omega) b with ⟨d, h1, h2, h3⟩ | ⟨h1, h2⟩
  · exact ⟨fun z => ⟨z.1, d, h3.1⟩, fun z => ⟨z.1, by omega⟩⟩
  · exact ⟨fun z => by omega, fun z => absurd z.2 h2⟩
/-- the class's proof of a bit: its steps -/
theorem cv_prove_eq {n : Nat} {g : gm_T} {P : Nat → plc} (h : IW n g P) {bit : Nat} (hb : bit < n) : (pfr n g bit = -1 ∧ ∃ g2, cv_prove n g (bit : Int) = some (-1, g2) ∧ exc scr scrJ g g2) ∨ ∃ (b d : Nat) (g2 : gm_T), b < n ∧ d < n ∧ pfr n g bit = (b : Int) ∧ gbf (jA g) (jB g) (bE n g) (jm g) bit n b = (d : Int) ∧ cv_prove n g (bit : Int) = some ((d : Int), g2) ∧ exc scr scrJ g g2 ∧ ∀ i, i < d → gm_I g2 21 i = ((gj (jA g) (jB g) (bE n g) (jm g) (gbf (jA g) (jB g) (bE n g) (jm g) bit n) b i : Nat) : Int) := by
  have h30 := h.1.1.2.2
  have hVm := vm h.2.1
  unfold cv_prove
  rw [cv_ghw_eq h hb, jb_gd]
  have hsp := amn_sp (pf n g bit) (gbf (jA g) (jB g) (bE n g) (jm g) bit n) n
  by_cases c : hasW n g bit
  · rw [@if_pos _ (gd _) c]
    obtain ⟨S, s1, s2⟩ := cv_bestJoins_eq h.1 h.2.1
    obtain ⟨g1, e1, e2, e3⟩ := cj_measure_eq h30 h.2.1 s2 hb
    have k1 := keepA_scr (scr_20 e2)
    have h1 := cv_pf_lp h k1 hb (c6 := lN S) e3 n 0 fz (by omega) (Nat.lt_of_le_of_lt h30 (fz_gt rfl))
    rw [s1, jb1_some, e1, jb1_some, show cv_prove_l30 n g1 (lN S) fz (-1) 0 = some (pfr n g bit) from h1, jb1_some]
    rcases hsp with ⟨z1, -⟩ | ⟨b, z1, z2, z3⟩
    · left
      have hz : pfr n g bit = -1 := z1
      rw [hz, jg_pos (rgk rfl), if_pos (by decide)]
      exact ⟨rfl, g1, rfl, scr_20 e2⟩
    · right
      have hz : pfr n g bit = (b : Int) := z3
      have hf := (pf_iff hVm hb).mp z2
      rcases gbf_end (E := bE n g) (jendm hVm).1 hb (r := n) (by omega) b with ⟨d, d1, d2, d3⟩ | ⟨d1, d2⟩
      · have s2' : isM g1 S (bE n g) := ⟨s2.1, fun j hj => s2.2 j (by rw [← a_jm k1]; exact hj)⟩
        obtain ⟨g2, r1, r2, r3⟩ := cj_walk_eq h30 (V_jn_tr k1 h.2.1) (E := bE n g) s2' (a := bit) (b := b) (d := d) hb z1 (by
          intro x hx
          rw [a_jA k1, a_jB k1, a_jm k1]
          exact e3 x (by omega)) (by rw [a_jA k1, a_jB k1, a_jm k1]; exact d2)
        rw [a_jA k1, a_jB k1, a_jm k1] at r3
        rw [hz, jg_pos (rgn (by omega)), if_neg (by omega), r1, jb2_some]
        exact ⟨b, d, g2, z1, d1, rfl, d2, rfl, exc_tr (scr_20 e2) (scr_21 r2), r3⟩
      · exact absurd hf.2 d2
  · rw [@if_neg _ (gd _) c]
    left
    rcases hsp with ⟨z1, -⟩ | ⟨b, z1, z2, z3⟩
    · exact ⟨z1, g, rfl, exc_rf⟩
    · have hf := (pf_iff hVm hb).mp z2
      exact absurd ⟨b, z1, bE_cn hf.2, hf.1⟩ c
theorem op_proof {n : Nat} {g : gm_T} {P : Nat → plc} (h : IW n g P) {a : Int} (ha : rg a) : ∃ r g1 g2, cw_proof n g a = some (r, g1) ∧ md_proof g1 a = some (r, g2) ∧ exc scr scrJ g g2 := by
  have hn := h.1.1
  have h30 := hn.2.2
  unfold cw_proof
  rw [cw_isBit_eq hn ha, jb_tst]
  by_cases h1 : 0 ≤ a ∧ a < (n : Int)
  · obtain ⟨b, rfl⟩ : ∃ b : Nat, a = (b : Int) := ⟨_, (Int.toNat_of_nonneg h1.1).symm⟩
    have hb : b < n := by omega
    rw [if_pos h1]
    have mod : ∀ g1, keepC g1 = keepC g → ∃ g4 g5, md_judges g1 = some g4 ∧ md_provedFrom g4 (b : Int) = some (pfr n g b, g5) ∧ exc scr scrJ g1 g5 ∧ ∀ x, x < n → gm_I g5 83 x = gbf (jA g) (jB g) (bE n g) (jm g) b n x := fun g1 e1 => by
      obtain ⟨g4, q1, q2, q3⟩ := md_judges_eq (im h) e1
      obtain ⟨g5, q4, q5, q6⟩ := md_provedFrom_eq (im h) ((keepC_scr (scr_jd q2)).trans e1) q3 hb
      exact ⟨g4, g5, q1, q4, exc_tr (scr_jd q2) (scr_83 q5), q6⟩
    rcases cv_prove_eq h hb with ⟨z1, g1, z2, z3⟩ | ⟨b2, d, g1, z1, z2, z3, z4, z5, z6, z7⟩
    · have e1 := keepC_scr z3
      obtain ⟨g4, g5, q1, q2, q3, q4⟩ := mod g1 e1
      rw [z2, jb2_some, jg_pos (rgk rfl), if_pos (by decide)]
      refine ⟨_, g1, g5, rfl, ?_, exc_tr z3 q3⟩
      unfold md_proof
      rw [md_isBit_eq (num_C e1 hn) ha, jb_tst, if_pos h1, q1, jb1_some, q2, jb2_some, z1, jg_pos (rgk rfl), if_pos rfl]
    · have e1 := keepC_scr z6
      obtain ⟨g4, g5, q1, q2, q3, q4⟩ := mod g1 e1
      rw [z5, jb2_some, jg_pos (rgn (by omega)), if_neg (by omega)]
      refine ⟨_, g1, g5, rfl, ?_, exc_tr z6 q3⟩
      unfold md_proof
      rw [md_isBit_eq (num_C e1 hn) ha, jb_tst, if_pos h1, q1, jb1_some, q2, jb2_some, z3, jg_pos (rgn (by omega)), if_neg (by omega), jg_pos (by omega), Int.toNat_natCast, q4 b2 z1, z4]
  · rw [if_neg h1]
    refine ⟨_, g, g, rfl, ?_, exc_rf⟩
    unfold md_proof
    rw [md_isBit_eq hn ha, jb_tst, if_neg h1]
theorem op_reason {n : Nat} {g : gm_T} {P : Nat → plc} (h : IW n g P) {a i : Int} (ha : rg a) (hi : rg i) : ∃ r g1 g2, cw_reason n g a i = some (r, g1) ∧ md_reason g1 a i = some (r, g2) ∧ exc scr scrJ g g2 := by
  have hn := h.1.1
  have h30 := hn.2.2
  unfold cw_reason
  rw [cw_isBit_eq hn ha, jb_tst]
  by_cases h1 : 0 ≤ a ∧ a < (n : Int)
  · obtain ⟨b, rfl⟩ : ∃ b : Nat, a = (b : Int) := ⟨_, (Int.toNat_of_nonneg h1.1).symm⟩
    have hb : b < n := by omega
    rw [if_pos h1, jg_pos hi]
    -- the reference
    have mod : ∀ g1, keepC g1 = keepC g → (pfr n g b = -1 → ∃ g5, md_reason g1 (b : Int) i = some (-1, g5) ∧ exc scr scrJ g1 g5) ∧ ∀ (b2 d : Nat), b2 < n → d < n → pfr n g b = (b2 : Int) → gbf (jA g) (jB g) (bE n g) (jm g) b n b2 = (d : Int) → ∃ g5, md_reason g1 (b : Int) i = some (if 0 ≤ i ∧ i < (d : Int) then ((gj (jA g) (jB g) (bE n g) (jm g) (gbf (jA g) (jB g) (bE n g) (jm g) b n) b2 i.toNat : Nat) : Int) else -1, g5) ∧ exc scr scrJ g1 g5 := fun g1 e1 => by
      obtain ⟨g4, q1, q2, q3⟩ := md_judges_eq (im h) e1
      have e4 := (keepC_scr (scr_jd q2)).trans e1
      obtain ⟨g5, q4, q5, q6⟩ := md_provedFrom_eq (im h) e4 q3 hb
      have e5 := (keepC_scr (scr_83 q5)).trans e4
      refine ⟨fun z => ⟨g5, ?_, exc_tr (scr_jd q2) (scr_83 q5)⟩, fun b2 d z1 z2 z3 z4 => ?_⟩
      · unfold md_reason
        rw [md_isBit_eq (num_C e1 hn) ha, jb_tst, if_pos h1, q1, jb1_some, q4, jb2_some, z, jg_pos (rgk rfl), if_pos rfl]
      · have e6 : keepC (gm_wI g5 44 55 0) = keepC g := (keepC_scr (exc_wI exc_rf rfl)).trans e5
        obtain ⟨g6, r1, r2, r3, r4, r5⟩ := md_goes_eq (g := gm_wI g5 44 55 0) (num_C e6 hn) (V_jm_tr e6 (vm h.2.1)) (E := bE n g) (best := 1) (fun g' hg' j hj => by
          have e7 : keepC g' = keepC g := (keepC_scr (scr_goes hg')).trans e6
          exact leads_b (im h) e7 (fun i hi => by rw [hg'.1 82 i rfl, gI_oth (by decide), q5.1 82 i rfl]; exact q3 i hi) (by rw [← c_jm e6]; exact hj)) (a := b) (b := b2) (d := d) (u := 0) hb z1 (by rw [c_jA e6, c_jB e6, c_jm e6]; exact z4) (by omega) gI_eq
        rw [c_jA e6, c_jB e6, c_jm e6] at r5
        refine ⟨g6, ?_, exc_tr (exc_tr (scr_jd q2) (exc_wI (scr_83 q5) rfl)) (scr_goes r2)⟩
        unfold md_reason
        rw [md_isBit_eq (num_C e1 hn) ha, jb_tst, if_pos h1, q1, jb1_some, q4, jb2_some, z3, jg_pos (rgn (by omega)), if_neg (by omega), jl_eq, r1, jb1_some, r3, md_in_eq hi (rgk rfl) ⟨by omega, by omega⟩, jb_tst]
        by_cases y : 0 ≤ i ∧ i < (d : Int)
        · rw [if_pos y, if_pos (by omega), jg_pos (by omega)]
          have := r5 i.toNat (by omega)
          rw [Nat.zero_add] at this
          rw [this]
        · rw [if_neg y, if_neg (by omega)]
    by_cases ci : i < 0
    · rw [if_pos ci]
      have m := mod g rfl
      rcases amn_sp (pf n g b) (gbf (jA g) (jB g) (bE n g) (jm g) b n) n with ⟨z1, -⟩ | ⟨b2, z1, z2, z3⟩
      · obtain ⟨g5, r1, r2⟩ := m.1 z1
        exact ⟨_, g, g5, rfl, r1, r2⟩
      · have hf := (pf_iff (vm h.2.1) hb).mp z2
        rcases gbf_end (E := bE n g) (jendm (vm h.2.1)).1 hb (r := n) (by omega) b2 with ⟨d, d1, d2, d3⟩ | ⟨d1, d2⟩
        · obtain ⟨g5, r1, r2⟩ := m.2 b2 d z1 d1 z3 d2
          rw [if_neg (by omega)] at r1
          exact ⟨_, g, g5, rfl, r1, r2⟩
        · exact absurd hf.2 d2
    · rw [if_neg ci]
      rcases cv_prove_eq h hb with ⟨z1, g1, z2, z3⟩ | ⟨b2, d, g1, z1, z2, z3, z4, z5, z6, z7⟩
      · obtain ⟨g5, r1, r2⟩ := (mod g1 (keepC_scr z3)).1 z1
        rw [z2, jb2_some, jg_pos (rgk rfl), if_neg (by omega)]
        exact ⟨_, g1, g5, rfl, r1, exc_tr z3 r2⟩
      · obtain ⟨g5, r1, r2⟩ := (mod g1 (keepC_scr z6)).2 b2 d z1 z2 z3 z4
        rw [z5, jb2_some, jg_pos (rgn (by omega))]
        by_cases y : i < (d : Int)
        · rw [if_pos (by omega)] at r1
          rw [if_pos y, jg_pos (by omega), z7 i.toNat (by omega)]
          exact ⟨_, g1, g5, rfl, r1, exc_tr z6 r2⟩
        · rw [if_neg (by omega)] at r1
          rw [if_neg y]
          exact ⟨_, g1, g5, rfl, r1, exc_tr z6 r2⟩
  · rw [if_neg h1]
    refine ⟨_, g, g, rfl, ?_, exc_rf⟩
    unfold md_reason
    rw [md_isBit_eq hn ha, jb_tst, if_neg h1]
theorem op_joined {n : Nat} {g : gm_T} {P : Nat → plc} (h : IW n g P) {a w : Int} (ha : rg a) (hw' : rg w) : ∃ r g2, cw_joined n g a w = some r ∧ md_joined g a w = some (r, g2) ∧ exc scr scrJ g g2 := by
  unfold cw_joined md_joined
  rw [cj_isThere_eq h.2.1 ha, jb_gd, md_isJoin_eq (vm h.2.1) ha, jb_gd]
  by_cases c : 0 ≤ a ∧ a < ((jm g : Nat) : Int) ∧ jE g a.toNat = true
  · obtain ⟨j, rfl⟩ : ∃ j : Nat, a = (j : Int) := ⟨_, (Int.toNat_of_nonneg c.1).symm⟩
    have m60 := (jm_60 h.2.1).1
    obtain ⟨⟨a1, a2, a3⟩, ⟨k1, k2, k3⟩, ⟨b1, b2, b3⟩, ⟨l1, l2, l3⟩, -⟩ := h.2.1.2.1 j (by omega)
    rw [@if_pos _ (gd _) c, @if_pos _ (gd _) c, jg_pos hw', jg_pos hw']
    have g60 : 0 ≤ (j : Int) ∧ (j : Int) < 60 := by omega
    simp only [jg_pos g60, Int.toNat_natCast, a1, k1, b1, l1]
    by_cases w0 : w = 0
    · rw [if_pos w0, if_pos w0]
      exact ⟨_, g, rfl, rfl, exc_rf⟩
    · by_cases w1 : w = 1
      · rw [if_neg w0, if_pos w1, if_neg w0, if_pos w1]
        exact ⟨_, g, rfl, rfl, exc_rf⟩
      · by_cases w2 : w = 2
        · rw [if_neg w0, if_neg w1, if_pos w2, if_neg w0, if_neg w1, if_pos w2]
          exact ⟨_, g, rfl, rfl, exc_rf⟩
        · by_cases w3 : w = 3
          · rw [if_neg w0, if_neg w1, if_neg w2, if_pos w3, if_neg w0, if_neg w1, if_neg w2, if_pos w3]
            exact ⟨_, g, rfl, rfl, exc_rf⟩
          · by_cases w4 : w = 4
            · rw [if_neg w0, if_neg w1, if_neg w2, if_neg w3, if_pos w4, if_neg w0, if_neg w1, if_neg w2, if_neg w3, if_pos w4]
              obtain ⟨g2, r1, r2⟩ := md_best_eq h.1 (j := (j : Int)) g60 a3 k3 b3 l3 (by rw [Int.toNat_natCast]; exact a2) (by rw [Int.toNat_natCast]; exact k2) (by rw [Int.toNat_natCast]; exact b2) (by rw [Int.toNat_natCast]; exact l2)
              unfold cw_isBest
              rw [jg_pos g60, Int.toNat_natCast, a1, a2, k1, k2, b1, b2, l1, l2, cf_best_eq h.1 a3 k3 b3 l3, jb1_some, r1, jb2_some]
              by_cases c2 : isB n g (jA g j) (jK g j) (jB g j) (jL g j)
              · rw [@if_pos _ (gd _) c2, jg_pos (Or.inr rfl), jb1_some, jg_pos (rgk rfl), if_neg n10, jg_pos (rgk rfl), if_neg n10]
                exact ⟨_, g2, rfl, rfl, scr_list r2⟩
              · rw [@if_neg _ (gd _) c2, jg_pos (Or.inl rfl), jb1_some, jg_pos (rgk rfl), if_pos rfl, jg_pos (rgk rfl), if_pos rfl]
                exact ⟨_, g2, rfl, rfl, scr_list r2⟩
            · rw [if_neg w0, if_neg w1, if_neg w2, if_neg w3, if_neg w4, if_neg w0, if_neg w1, if_neg w2, if_neg w3, if_neg w4]
              exact ⟨_, g, rfl, rfl, exc_rf⟩
  · rw [@if_neg _ (gd _) c, @if_neg _ (gd _) c]
    exact ⟨_, g, rfl, rfl, exc_rf⟩
