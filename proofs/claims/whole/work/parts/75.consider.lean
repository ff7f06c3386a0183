/-! Arrangements: the class looks at one candidate. -/
theorem pp_lt {K : Int} {p q : plc} (hp : bpl K p) (hq : bpl K q) (hK : K ≤ 524287) : lC (pp p) (pp q) < 0 ↔ plt p q := by
  have o1 := bpl_ok hp hK
  have o2 := bpl_ok hq hK
  have l1 := pN_lt o1
  have l2 := pN_lt o2
  unfold pp pk
  rw [lC_lt, ← Int64.lt_iff_toInt_lt, lN_less (by omega) (by omega)]
  obtain ⟨⟨a1, a2⟩, ⟨a3, a4⟩, a5, a6⟩ := o1
  obtain ⟨⟨b1, b2⟩, ⟨b3, b4⟩, b5, b6⟩ := o2
  unfold pN plt
  obtain ⟨t, x, y⟩ := p
  obtain ⟨u, v, w⟩ := q
  dsimp only at *
  obtain ⟨t', ht⟩ : ∃ t' : Nat, t = (t' : Int) := ⟨_, (Int.toNat_of_nonneg a1).symm⟩
  obtain ⟨u', hu⟩ : ∃ u' : Nat, u = (u' : Int) := ⟨_, (Int.toNat_of_nonneg b1).symm⟩
  obtain ⟨x', hx⟩ : ∃ x' : Nat, x + 524288 = (x' : Int) := ⟨_, (Int.toNat_of_nonneg (by omega)).symm⟩
  obtain ⟨y', hy⟩ : ∃ y' : Nat, y + 524288 = (y' : Int) := ⟨_, (Int.toNat_of_nonneg (by omega)).symm⟩
  obtain ⟨v', hv⟩ : ∃ v' : Nat, v + 524288 = (v' : Int) := ⟨_, (Int.toNat_of_nonneg (by omega)).symm⟩
  obtain ⟨w', hw⟩ : ∃ w' : Nat, w + 524288 = (w' : Int) := ⟨_, (Int.toNat_of_nonneg (by omega)).symm⟩
  rw [hx, hy, hv, hw, ht, hu]
  simp only [Int.toNat_natCast]
  omega
def W_ar (a k : Nat) : Bool := a == 27 && k == 7
def J_ar (a k : Nat) : Bool := a == 27 && (k == 5 || k == 6)
theorem scr_ar {g g2 : gm_T} (h : exc W_ar J_ar g g2) : exc scr scrJ g g2 := exc_mono h (fun a k q => by
  simp only [W_ar, Bool.and_eq_true, beq_iff_eq] at q
  rcases q with ⟨rfl, rfl⟩
  rfl) (fun a k q => by
  simp only [J_ar, Bool.or_eq_true, Bool.and_eq_true, beq_iff_eq] at q
  rcases q with ⟨rfl, rfl | rfl⟩ <;> rfl)
/-- the class's best so far -/
def isAr (g : gm_T) (s : cnd) : Prop := gm_I g 27 7 = s.1 ∧ (0 ≤ s.1 → gm_J g 27 5 = pp s.2.1 ∧ gm_J g 27 6 = pp s.2.2)
def bS (s : cnd) : Prop := (-1 ≤ s.1 ∧ s.1 ≤ 20000) ∧ bpl 200 s.2.1 ∧ bpl 200 s.2.2
theorem bS_u {c s : cnd} (h1 : bS c) (h2 : bS s) : bS (updc c s) := by
  unfold updc
  by_cases q : clt c s
  · rw [@if_pos _ (gd _) q]
    exact h1
  · rw [@if_neg _ (gd _) q]
    exact h2
theorem ca_isBetter_eq {g : gm_T} {s : cnd} (h : isAr g s) (hs : bS s) {v : Int} {p q : plc} (hv : 0 ≤ v ∧ v ≤ 20000) (hp : bpl 200 p) (hq : bpl 200 q) : ca_isBetter g v (pp p) (pp q) = some (@ite _ (clt (v, p, q) s) (gd _) 1 0) := by
  obtain ⟨h1, h2⟩ := h
  obtain ⟨⟨b1, b2⟩, b3, b4⟩ := hs
  unfold ca_isBetter
  rw [h1, jg_pos ⟨⟨by omega, by omega⟩, by omega, by omega⟩]
  by_cases c1 : v = s.1
  · obtain ⟨k1, k2⟩ := h2 (by omega)
    rw [if_pos c1, k1, k2]
    by_cases cd2 : plt p s.2.1
    · rw [if_pos ((pp_lt hp b3 (by decide)).mpr cd2), @if_pos _ (gd _) (show clt (v, p, q) s from Or.inr ⟨c1, Or.inl cd2⟩)]
    · rw [if_neg (fun z => cd2 ((pp_lt hp b3 (by decide)).mp z))]
      by_cases cd3 : p = s.2.1
      · rw [if_pos (lC_0.mpr (by rw [cd3]))]
        by_cases c4 : plt q s.2.2
        · rw [if_pos ((pp_lt hq b4 (by decide)).mpr c4), @if_pos _ (gd _) (show clt (v, p, q) s from Or.inr ⟨c1, Or.inr ⟨cd3, c4⟩⟩)]
        · rw [if_neg (fun z => c4 ((pp_lt hq b4 (by decide)).mp z)), @if_neg _ (gd _) (fun z : clt (v, p, q) s => by
            rcases z with z | ⟨-, z | ⟨-, z⟩⟩
            · dsimp only at z
              omega
            · exact cd2 z
            · exact c4 z)]
      · rw [if_neg (fun z => cd3 ((pp_inj hp b3 (by decide) (by decide)).mp (lC_0.mp z))), @if_neg _ (gd _) (fun z : clt (v, p, q) s => by
          rcases z with z | ⟨-, z | ⟨z, -⟩⟩
          · dsimp only at z
            omega
          · exact cd2 z
          · exact cd3 z)]
  · rw [if_neg c1]
    by_cases cd2 : v ≤ s.1
    · rw [if_pos cd2, @if_neg _ (gd _) (fun z : clt (v, p, q) s => by
        rcases z with z | ⟨z, -⟩
        · dsimp only at z
          omega
        · exact c1 z)]
    · rw [if_neg cd2, @if_pos _ (gd _) (show clt (v, p, q) s from Or.inl (by dsimp only; omega))]
theorem ca_offer_eq {g : gm_T} {s : cnd} (h : isAr g s) (hs : bS s) {v : Int} {p q : plc} (hv : 0 ≤ v ∧ v ≤ 20000) (hp : bpl 200 p) (hq : bpl 200 q) : ∃ g2, ca_offer g v (pp p) (pp q) = some g2 ∧ exc W_ar J_ar g g2 ∧ isAr g2 (updc (v, p, q) s) := by
  unfold ca_offer updc
  rw [ca_isBetter_eq h hs hv hp hq, jb_gd]
  by_cases c : clt (v, p, q) s
  · rw [@if_pos _ (gd _) c, @if_pos _ (gd _) c, jl_eq, jl_eq, jl_eq]
    refine ⟨_, rfl, exc_wJ (exc_wJ (exc_wI exc_rf rfl) rfl) rfl, ?_, fun _ => ⟨?_, ?_⟩⟩
    · rw [gI_wJ, gI_wJ, gI_eq]
    · rw [gJ_wJ, if_pos rfl, if_neg (by decide), gJ_wJ, if_pos rfl, if_pos rfl]
    · rw [gJ_wJ, if_pos rfl, if_pos rfl]
  · rw [@if_neg _ (gd _) c, @if_neg _ (gd _) c]
    exact ⟨g, rfl, exc_rf, h⟩
/-- a placing looked up in a list -/
theorem ca_at_eq {n : Nat} {g0 : gm_T} (I : I_fit n g0) {w a b : Nat} (hw : w < 3) (ha : a < n) (hb : b < n) {g : gm_T} (h : isL g0 w a b g) {p : plc} (hp : bpl 400 p) : ∃ v, ca_indexOf g (w : Int) (pp p) = some v ∧ rg v ∧ (v < 0 ↔ ¬ FP g0 a b p) ∧ ca_worthAt g v = some (wt g0 a b p) := by
  obtain ⟨m, pl, h1, h2, h3, h4⟩ := h
  have hmono : ∀ q : plc, bpl 40 q → bpl 400 q := fun q hq => bpl_mono hq (by decide)
  rcases ca_idx_eq (g := g) hw h1 h2 (K := 400) (by decide) (pl := pl) (fun j hj => ⟨(h3 j hj).1, hmono _ (FP_b I.2.1 ha hb (h3 j hj).2.2)⟩) hp with ⟨i, i1, i2, i3⟩ | ⟨i1, i3⟩
  · have hF := (h3 i i1).2.2
    rw [i2] at hF
    refine ⟨_, i3, ⟨by omega, by omega⟩, ⟨fun z => by omega, fun z => absurd hF z⟩, ?_⟩
    unfold ca_worthAt
    rw [jg_pos ⟨by omega, by omega⟩, if_neg (by omega), jg_pos (by omega), Int.toNat_natCast, (h3 i i1).2.1, i2]
  · have hF : ¬ FP g0 a b p := fun z => by
      obtain ⟨j, j1, j2⟩ := h4 p z
      exact i1 j j1 j2
    refine ⟨-1, i3, rgk rfl, ⟨fun _ => hF, fun _ => by decide⟩, ?_⟩
    unfold ca_worthAt
    rw [jg_pos (rgk rfl), if_pos (by decide), wt_0 hF]
/-- three bits that are laid: what the class keeps of them -/
def isT3 (g0 : gm_T) (A B C : Nat) (g : gm_T) : Prop := keepF g = keepF g0 ∧ (gm_I g 31 0 = (A : Int) ∧ gm_I g 31 1 = (B : Int) ∧ gm_I g 31 2 = (C : Int)) ∧ isL g0 0 A B g ∧ isL g0 1 A C g ∧ isL g0 2 B C g
theorem isL_tr {g0 : gm_T} {w a b : Nat} {g g2 : gm_T} (x : exc W_ar J_ar g g2) (h : isL g0 w a b g) : isL g0 w a b g2 := by
  obtain ⟨m, pl, h1, h2, h3, h4⟩ := h
  exact ⟨m, pl, h1, by rw [x.1 30 w rfl]; exact h2, fun j hj => by
    rw [x.2 28 _ rfl, x.1 29 _ rfl]
    exact h3 j hj, h4⟩
theorem isT3_tr {g0 : gm_T} {A B C : Nat} {g g2 : gm_T} (x : exc W_ar J_ar g g2) (h : isT3 g0 A B C g) : isT3 g0 A B C g2 := by
  obtain ⟨h1, ⟨h2, h3, h4⟩, h5, h6, h7⟩ := h
  exact ⟨(keepF_A (keepA_scr (scr_ar x))).trans h1, ⟨by rw [x.1 31 0 rfl]; exact h2, by rw [x.1 31 1 rfl]; exact h3, by rw [x.1 31 2 rfl]; exact h4⟩, isL_tr x h5, isL_tr x h6, isL_tr x h7⟩
/-- a candidate of three bits that may lie so -/
def cd3 (g : gm_T) (A B C : Nat) (p q : plc) (c : cnd) : Prop := ¬ (bad g A B p0 p ∨ bad g A C p0 q ∨ bad g B C p q) ∧ c = (wt g A B p + wt g A C q + wt g B C (rel p q), p, q)
/-- what a run of the class gives: candidates are looked at -/
def rn (g1 : gm_T) (o : Option gm_T) (s : cnd) (T : cnd → Prop) : Prop := ∃ g2 s2, o = some g2 ∧ exc W_ar J_ar g1 g2 ∧ isAr g2 s2 ∧ bS s2 ∧ adds T s s2
theorem b_0 : bpl 200 p0 := ⟨⟨by decide, by decide⟩, ⟨by decide, by decide⟩, by decide, by decide⟩
theorem ca_consider_eq {n : Nat} {g0 : gm_T} (I : I_fit n g0) {A B C : Nat} (hA : A < n) (hB : B < n) (hC : C < n) {g1 g : gm_T} (x : exc W_ar J_ar g1 g) (h3 : isT3 g0 A B C g1) {s : cnd} (h : isAr g s) (hs : bS s) {p q : plc} (hp : bpl 100 p) (hq : bpl 100 q) : rn g1 (ca_consider n g (pp p) (pp q)) s (cd3 g0 A B C p q) := by
  have hg := isT3_tr x h3
  obtain ⟨e, ⟨e1, e2, e3⟩, l1, l2, l3⟩ := hg
  have I2 := I_fit_tr e I
  have hrel : bpl (100 + 100) (rel p q) := bpl_on (bpl_in hp) hq
  obtain ⟨v1, a1, a2, a3, a4⟩ := ca_at_eq I (by decide) hA hB l1 (p := p) (bpl_mono hp (by decide))
  obtain ⟨v2, b1, b2, b3, b4⟩ := ca_at_eq I (by decide) hA hC l2 (p := q) (bpl_mono hq (by decide))
  obtain ⟨v4, d1, d2, d3, d4⟩ := ca_at_eq I (by decide) hB hC l3 (p := rel p q) (bpl_mono hrel (by decide))
  have w1 := wt_b I hA hB p
  have w2 := wt_b I hA hC q
  have w3 := wt_b I hB hC (rel p q)
  have hp2 : bpl 200 p := bpl_mono hp (by decide)
  have hq2 : bpl 200 q := bpl_mono hq (by decide)
  obtain ⟨V, hV⟩ : ∃ V, V = wt g0 A B p + wt g0 A C q + wt g0 B C (rel p q) := ⟨_, rfl⟩
  have hVb : 0 ≤ V ∧ V ≤ 20000 := by omega
  have cb : bad g = bad g0 := c_bad e
  have nb1 : ¬ v1 < 0 → ¬ bad g0 A B p0 p := fun z => FP_bad (Classical.byContradiction fun q => z (a3.mpr q))
  have nb2 : ¬ v2 < 0 → ¬ bad g0 A C p0 q := fun z => FP_bad (Classical.byContradiction fun q => z (b3.mpr q))
  have nb3 : ¬ v4 < 0 → ¬ bad g0 B C p q := fun z => by
    have h1 : ¬ bad g0 B C p0 (rel p q) := FP_bad (Classical.byContradiction fun q => z (d3.mpr q))
    intro h2
    refine h1 ((bad_mv hp.1 okt_0 (rel_okt hp.1 hq.1)).mp ?_)
    rw [pon_0 hp.1]
    unfold rel
    rw [← pon_assoc hp.1 (pin_okt hp.1), pon_in hp.1, p0_on hq.1]
    exact h2
  have k1 : cf_collide n g (A : Int) 549756338176 (B : Int) (pp p) = some (@ite _ (bad g0 A B p0 p) (gd _) 1 0) := by
    rw [← p0_here, cf_collide_eq2 I2 hA hB b_0 hp2 (by decide) (by decide), cb]
  have k2 : cf_collide n g (A : Int) 549756338176 (C : Int) (pp q) = some (@ite _ (bad g0 A C p0 q) (gd _) 1 0) := by
    rw [← p0_here, cf_collide_eq2 I2 hA hC b_0 hq2 (by decide) (by decide), cb]
  have k3 : cf_collide n g (B : Int) (pp p) (C : Int) (pp q) = some (@ite _ (bad g0 B C p q) (gd _) 1 0) := by
    rw [cf_collide_eq2 I2 hB hC hp2 hq2 (by decide) (by decide), cb]
  have E3 : (jg (rg v4) (if v4 < 0 then (jb1 (cf_collide n g (B : Int) (pp p) (C : Int) (pp q)) fun (v19 : Int) => jg (rg v19) (if v19 = 0 then (some (0 : Int)) else (some 1))) else (some 0))) = some (@ite _ (bad g0 B C p q) (gd _) 1 0) := by
    rw [jg_pos d2]
    by_cases z : v4 < 0
    · rw [if_pos z, k3, jb_gd]
      by_cases y : bad g0 B C p q
      · rw [@if_pos _ (gd _) y, @if_pos _ (gd _) y]
      · rw [@if_neg _ (gd _) y, @if_neg _ (gd _) y]
    · rw [if_neg z, @if_neg _ (gd _) (nb3 z)]
  have E2 : (jg (rg v2) (if v2 < 0 then (jb1 (cf_collide n g (A : Int) 549756338176 (C : Int) (pp q)) fun (v16 : Int) => jg (rg v16) (if v16 = 0 then (some (@ite _ (bad g0 B C p q) (gd _) 1 0)) else (some 1))) else (some (@ite _ (bad g0 B C p q) (gd _) (1 : Int) 0)))) = some (@ite _ (bad g0 A C p0 q ∨ bad g0 B C p q) (gd _) 1 0) := by
    rw [jg_pos b2]
    by_cases z : v2 < 0
    · rw [if_pos z, k2, jb_gd]
      by_cases y : bad g0 A C p0 q
      · rw [@if_pos _ (gd _) y, @if_pos _ (gd _) (Or.inl y)]
      · rw [@if_neg _ (gd _) y]
        by_cases u : bad g0 B C p q
        · rw [@if_pos _ (gd _) u, @if_pos _ (gd _) (Or.inr u)]
        · rw [@if_neg _ (gd _) u, @if_neg _ (gd _) (fun r => r.elim y u)]
    · rw [if_neg z]
      by_cases u : bad g0 B C p q
      · rw [@if_pos _ (gd _) u, @if_pos _ (gd _) (Or.inr u)]
      · rw [@if_neg _ (gd _) u, @if_neg _ (gd _) (fun r => r.elim (nb2 z) u)]
  have E1 : (jg (rg v1) (if v1 < 0 then (jb1 (cf_collide n g (A : Int) 549756338176 (B : Int) (pp p)) fun (v13 : Int) => jg (rg v13) (if v13 = 0 then (some (@ite _ (bad g0 A C p0 q ∨ bad g0 B C p q) (gd _) 1 0)) else (some 1))) else (some (@ite _ (bad g0 A C p0 q ∨ bad g0 B C p q) (gd _) (1 : Int) 0)))) = some (@ite _ (bad g0 A B p0 p ∨ bad g0 A C p0 q ∨ bad g0 B C p q) (gd _) 1 0) := by
    rw [jg_pos a2]
    by_cases z : v1 < 0
    · rw [if_pos z, k1, jb_gd]
      by_cases y : bad g0 A B p0 p
      · rw [@if_pos _ (gd _) y, @if_pos _ (gd _) (Or.inl y)]
      · rw [@if_neg _ (gd _) y]
        by_cases u : bad g0 A C p0 q ∨ bad g0 B C p q
        · rw [@if_pos _ (gd _) u, @if_pos _ (gd _) (Or.inr u)]
        · rw [@if_neg _ (gd _) u, @if_neg _ (gd _) (fun r => r.elim y u)]
    · rw [if_neg z]
      by_cases u : bad g0 A C p0 q ∨ bad g0 B C p q
      · rw [@if_pos _ (gd _) u, @if_pos _ (gd _) (Or.inr u)]
      · rw [@if_neg _ (gd _) u, @if_neg _ (gd _) (fun r => r.elim (nb1 z) u)]
  have hag : cc_against g (pp p) (pp q) = some (pp (rel p q)) := cc_against_eq hp hq (by decide) (by decide) (by decide)
  unfold ca_consider
  rw [show ca_indexOf g 0 (pp p) = _ from a1, jb1_some, show ca_indexOf g 1 (pp q) = _ from b1, jb1_some, hag, jb1_some, show ca_indexOf g 2 (pp (rel p q)) = _ from d1, jb1_some, a4, jb1_some, b4, jb1_some, d4, jb1_some, jl_eq, ← hV, ca_isBetter_eq h hs hVb hp2 hq2, jb_gd, e1, e2, e3, E3, E2, E1, jb_gd]
  have hbs : bS (V, p, q) := ⟨⟨by dsimp only; omega, by dsimp only; omega⟩, hp2, hq2⟩
  by_cases cB : clt (V, p, q) s
  · rw [@if_pos _ (gd _) cB]
    by_cases cc : bad g0 A B p0 p ∨ bad g0 A C p0 q ∨ bad g0 B C p q
    · rw [@if_pos _ (gd _) cc]
      exact ⟨g, s, rfl, x, h, hs, adds_no s (fun c z => z.1 cc)⟩
    · rw [@if_neg _ (gd _) cc]
      obtain ⟨g2, o1, o2, o3⟩ := ca_offer_eq h hs hVb hp2 hq2
      rw [o1, jb1_some]
      refine ⟨g2, _, rfl, exc_tr x o2, o3, bS_u hbs hs, adds_c (fun c => ?_) (adds_1 s (c := (V, p, q)) hVb.1)⟩
      unfold cd3
      rw [← hV]
      exact ⟨fun z => ⟨cc, z⟩, fun z => z.2⟩
  · rw [@if_neg _ (gd _) cB]
    refine ⟨g, s, rfl, x, h, hs, ?_⟩
    by_cases cc : bad g0 A B p0 p ∨ bad g0 A C p0 q ∨ bad g0 B C p q
    · exact adds_no s (fun c z => z.1 cc)
    · have hu : updc (V, p, q) s = s := by
        unfold updc
        rw [@if_neg _ (gd _) cB]
      have h1 := adds_1 s (c := (V, p, q)) hVb.1
      rw [hu] at h1
      refine adds_c (fun c => ?_) h1
      unfold cd3
      rw [← hV]
      exact ⟨fun z => ⟨cc, z⟩, fun z => z.2⟩
