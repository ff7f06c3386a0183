/-! Arrangements: the reference judges a set as it lies. -/
def gT (g : gm_T) (i : Nat) : plc := (gm_I g 91 i, gm_I g 92 i, gm_I g 93 i)
def gQ (g : gm_T) (i : Nat) : plc := (gm_I g 94 i, gm_I g 95 i, gm_I g 96 i)
theorem md_entry_at (g : gm_T) (a k b l : Nat) : md_entry g (a : Int) (k : Int) (b : Int) (l : Int) = some ((at4 a k b l : Nat) : Int) := by
  unfold md_entry at4
  congr 1
theorem md_worth_row {n : Nat} {g : gm_T} (I : I_fit n g) {a b k : Nat} (ha : a < n) (hb : b < n) (hab : a ≠ b) (hk : (k : Int) < mE g a) {p : plc} (hp : bpl 1000 p) : ∀ (d l fuel : Nat), (l : Int) + (d : Int) = mE g b → d < fuel → md_worthOf_l81 g (a : Int) (b : Int) p.1 p.2.1 p.2.2 (k : Int) fuel (wpp g a b p k l) (l : Int) = some (wpp g a b p k (mE g b).toNat) := by
  have h30 := I.1.2.2
  have a8 := (I.2.1 a ha).1.2
  have b8 := (I.2.1 b hb).1.2
  have hEa : mE g a = gm_I g 46 a := rfl
  have hEb : mE g b = gm_I g 46 b := rfl
  intro d
  induction d with
  | zero =>
    intro l fuel hd hf
    obtain ⟨f, rfl⟩ : ∃ f, fuel = f + 1 := ⟨fuel - 1, by omega⟩
    unfold md_worthOf_l81
    rw [jg_pos (by omega), Int.toNat_natCast, ← hEb, jg_pos ⟨⟨by omega, by omega⟩, by omega, by omega⟩, if_neg (by omega), show (mE g b).toNat = l by omega]
  | succ d ih =>
    intro l fuel hd hf
    obtain ⟨f, rfl⟩ : ∃ f, fuel = f + 1 := ⟨fuel - 1, by omega⟩
    have hl : (l : Int) < mE g b := by omega
    have next := ih (l + 1) f (by omega) (by omega)
    rw [wpp_s] at next
    have stay : wv g a b p k l = 0 → md_worthOf_l81 g (a : Int) (b : Int) p.1 p.2.1 p.2.2 (k : Int) f (wpp g a b p k l + 0) ((l : Int) + 1) = some (wpp g a b p k (mE g b).toNat) := fun z => by
      rw [z] at next
      exact next
    unfold md_worthOf_l81
    rw [jg_pos (by omega), Int.toNat_natCast, ← hEb, jg_pos ⟨⟨by omega, by omega⟩, by omega, by omega⟩, if_pos hl]
    by_cases hF : isF g a k b l
    · obtain ⟨x1, y1⟩ := md_fitX_eq I ha hb hab hk hl hF.2.1
      have e1 := (I.2.2.2.2.2.1 a b k l ha hb hab hk hl).1
      have hbb := fpl_b I.2.1 ha hb hk hl hF.2.1
      have f1 : (fpl g a k b l).1 = tn g a k b l := rfl
      have f2 : (fpl g a k b l).2.1 = fX g a k b l := rfl
      have f3 : (fpl g a k b l).2.2 = fY g a k b l := rfl
      obtain ⟨q1, q2, q3⟩ := hbb
      obtain ⟨r1, r2, r3⟩ := hp
      have hat : 0 ≤ ((at4 a k b l : Nat) : Int) ∧ ((at4 a k b l : Nat) : Int) < 57600 := by
        unfold at4
        omega
      have no : fpl g a k b l ≠ p → wv g a b p k l = 0 := fun z => by
        unfold wv
        rw [@if_neg _ (gd _) (fun q => z q.2)]
      rw [md_fit_p I ha hb hk hl hF, jb1_some, jg_pos (rgk rfl), if_neg n10, md_entry_at, jb1_some, jg_pos hat, Int.toNat_natCast, e1, jg_pos ⟨⟨by omega, by omega⟩, by omega, by omega⟩]
      by_cases c1 : tn g a k b l = p.1
      · rw [if_pos c1, x1, jb1_some, jg_pos ⟨⟨by omega, by omega⟩, by omega, by omega⟩]
        by_cases c2 : fX g a k b l = p.2.1
        · rw [if_pos c2, y1, jb1_some, jg_pos ⟨⟨by omega, by omega⟩, by omega, by omega⟩]
          by_cases c3 : fY g a k b l = p.2.2
          · have hw : wv g a b p k l = scv g a k b l (tn g a k b l) := by
              unfold wv
              rw [@if_pos _ (gd _) ⟨⟨⟨hk, hl⟩, hF⟩, pl_ext c1 c2 c3⟩]
            rw [if_pos c3, jb1_some, jg_pos (rgk rfl), if_neg n10, md_scoreOf_eq h30 I.2.1 I.2.2.2.2.1 I.2.2.2.2.2.1 ha hb hab hk hl hF.2.1, jb1_some, jl_eq, ← hw]
            exact next
          · rw [if_neg c3, jb1_some, jg_pos (rgk rfl), if_pos rfl, jl_eq]
            exact stay (no (fun z => c3 (by rw [← z]; rfl)))
        · rw [if_neg c2, jb1_some, jg_pos (rgk rfl), if_pos rfl, jl_eq]
          exact stay (no (fun z => c2 (by rw [← z]; rfl)))
      · rw [if_neg c1, jb1_some, jg_pos (rgk rfl), if_pos rfl, jl_eq]
        exact stay (no (fun z => c1 (by rw [← z]; rfl)))
    · rw [md_fit_n I ha hb hk hl hF, jb1_some, jg_pos (rgk rfl), if_pos rfl, jb1_some, jg_pos (rgk rfl), if_pos rfl, jl_eq]
      exact stay (by
        unfold wv
        rw [@if_neg _ (gd _) (fun q => hF q.1.2)])
theorem md_worth_lp {n : Nat} {g : gm_T} (I : I_fit n g) {a b : Nat} (ha : a < n) (hb : b < n) (hab : a ≠ b) {p : plc} (hp : bpl 1000 p) : ∀ (d k fuel : Nat), (k : Int) + (d : Int) = mE g a → d < fuel → md_worthOf_l67 g (a : Int) (b : Int) p.1 p.2.1 p.2.2 fuel (wpp g a b p k 0) (k : Int) = some (wt g a b p) := by
  have h30 := I.1.2.2
  have a8 := (I.2.1 a ha).1.2
  have b8 := (I.2.1 b hb).1.2
  have hEa : mE g a = gm_I g 46 a := rfl
  have hEb : mE g b = gm_I g 46 b := rfl
  intro d
  induction d with
  | zero =>
    intro k fuel hd hf
    obtain ⟨f, rfl⟩ : ∃ f, fuel = f + 1 := ⟨fuel - 1, by omega⟩
    unfold md_worthOf_l67 wt
    rw [jg_pos (by omega), Int.toNat_natCast, ← hEa, jg_pos ⟨⟨by omega, by omega⟩, by omega, by omega⟩, if_neg (by omega), show (mE g a).toNat = k by omega]
  | succ d ih =>
    intro k fuel hd hf
    obtain ⟨f, rfl⟩ : ∃ f, fuel = f + 1 := ⟨fuel - 1, by omega⟩
    have hk : (k : Int) < mE g a := by omega
    have r1 := md_worth_row I ha hb hab hk hp (mE g b).toNat 0 fz (by omega) (Nat.lt_of_le_of_lt (show (mE g b).toNat ≤ 300 by omega) (fz_gt rfl))
    rw [wpp_n] at r1
    have next := ih (k + 1) f (by omega) (by omega)
    unfold md_worthOf_l67
    rw [jg_pos (by omega), Int.toNat_natCast, ← hEa, jg_pos ⟨⟨by omega, by omega⟩, by omega, by omega⟩, if_pos hk, show md_worthOf_l81 g (a : Int) (b : Int) p.1 p.2.1 p.2.2 (k : Int) fz (wpp g a b p k 0) 0 = _ from r1, jb1_some]
    exact next
theorem md_holdsOf_eq {g : gm_T} {i k : Nat} (hi : i < 3) (hk : k < 3) {M : Int} (h1 : bpl M (gT g i)) (h2 : bpl M (gT g k)) (hM : M ≤ 400000) (hM0 : 0 ≤ M) : ∃ g2, md_holdsOf g (i : Int) (k : Int) = some g2 ∧ pH g2 = rel (gT g i) (gT g k) ∧ exc W_p nob g g2 := by
  obtain ⟨g2, k1, k2, k3⟩ := md_holds_eq g 0 0 0
  have e2 : gT g2 = gT g := funext fun c => by
    unfold gT
    rw [k3.1 91 c rfl, k3.1 92 c rfl, k3.1 93 c rfl]
  have z0 : bpl 0 (pH g2) := by rw [k2]; exact ⟨⟨by decide, by decide⟩, ⟨by decide, by decide⟩, by decide, by decide⟩
  obtain ⟨g3, l1, l2, l3⟩ := md_thenBack_eq (g := g2) z0 (x := gm_I g2 91 i) (y := gm_I g2 92 i) (z := gm_I g2 93 i) (N := M) (by
    have : bpl M (gT g2 i) := by rw [e2]; exact h1
    exact this) (by omega) (by decide)
  have hr : pH g3 = pin (gT g i) := by
    rw [l2, k2]
    have : (gm_I g2 91 i, gm_I g2 92 i, gm_I g2 93 i) = gT g i := by rw [← e2]; rfl
    rw [this]
    exact p0_on (pin_okt h1.1)
  have e3 : gT g3 = gT g := by
    rw [← e2]
    funext c
    unfold gT
    rw [l3.1 91 c rfl, l3.1 92 c rfl, l3.1 93 c rfl]
  obtain ⟨g4, m1, m2, m3⟩ := md_then_eq (g := g3) (M := M) (by rw [hr]; exact bpl_in h1) (x := gm_I g3 91 k) (y := gm_I g3 92 k) (z := gm_I g3 93 k) (N := M) (by
    have : bpl M (gT g3 k) := by rw [e3]; exact h2
    exact this) (by omega)
  have hr4 : pH g4 = rel (gT g i) (gT g k) := by
    rw [m2, hr]
    have : (gm_I g3 91 k, gm_I g3 92 k, gm_I g3 93 k) = gT g k := by rw [← e3]; rfl
    rw [this]
    rfl
  refine ⟨g4, ?_, hr4, exc_tr k3 (exc_tr l3 m3)⟩
  unfold md_holdsOf
  rw [k1, jb1_some, jg_pos (by omega), Int.toNat_natCast, l1, jb1_some, jg_pos (by omega), Int.toNat_natCast, m1, jb1_some]
theorem md_worthOf_eq {n : Nat} {g0 : gm_T} (I : I_fit n g0) {g : gm_T} (e : keepF g = keepF g0) {a b i k : Nat} (ha : a < n) (hb : b < n) (hab : a ≠ b) (hi : i < 3) (hk : k < 3) (e1 : gm_I g 90 i = (a : Int)) (e2 : gm_I g 90 k = (b : Int)) (h1 : bpl 200 (gT g i)) (h2 : bpl 200 (gT g k)) : ∃ g2, md_worthOf g (i : Int) (k : Int) = some (@ite _ (bad g0 a b (gT g i) (gT g k)) (gd _) (-1) (wt g0 a b (rel (gT g i) (gT g k))), g2) ∧ exc W_p nob g g2 := by
  have h30 := I.1.2.2
  obtain ⟨g2, r1, r2, r3⟩ := md_holdsOf_eq hi hk h1 h2 (by decide) (by decide)
  have ek : keepF g2 = keepF g0 := (keepF_A (keepA_scr (scr_p r3))).trans e
  have I2 := I_fit_tr ek I
  have hr : bpl (200 + 200) (rel (gT g i) (gT g k)) := bpl_on (bpl_in h1) h2
  have hr2 : bpl 1000 (rel (gT g i) (gT g k)) := bpl_mono hr (by decide)
  obtain ⟨q, hq⟩ : ∃ q, q = rel (gT g i) (gT g k) := ⟨_, rfl⟩
  have hbad : bad g0 a b (gT g i) (gT g k) ↔ gm_I g0 44 20 < ((ov g0 a b q.1 q.2.1 q.2.2 : Nat) : Int) := by
    rw [hq]
    exact Iff.rfl
  rw [← hq] at r2 hr2 ⊢
  have p1 : gm_I g2 44 49 = q.1 := congrArg (fun p : plc => p.1) r2
  have p2 : gm_I g2 44 50 = q.2.1 := congrArg (fun p : plc => p.2.1) r2
  have p3 : gm_I g2 44 51 = q.2.2 := congrArg (fun p : plc => p.2.2) r2
  have hov := ov_le g0 a b q.1 q.2.1 q.2.2
  have htol : gm_I g2 44 20 = gm_I g0 44 20 := by
    show gm_I (keepF g2) 44 20 = gm_I (keepF g0) 44 20
    rw [ek]
  obtain ⟨-, w2, w3⟩ := I.2.2.2.1
  refine ⟨g2, ?_, r3⟩
  unfold md_worthOf
  rw [jg_pos (by omega), Int.toNat_natCast, jl_eq, jg_pos (by omega), Int.toNat_natCast, jl_eq, e1, e2, r1, jb1_some, jl_eq, jl_eq, jl_eq, p1, p2, p3, md_overlaps_eq I2.2.2.1 h30 ha hb ((I2.2.1 b hb).2.2.2.2.2.2.2.1.2) hr2.1 (by have := hr2.2.1; omega) (by have := hr2.2.2; omega), jb1_some, k_ov ek, htol, jg_pos ⟨⟨by omega, by omega⟩, by omega, by omega⟩]
  by_cases c : ((ov g0 a b q.1 q.2.1 q.2.2 : Nat) : Int) ≤ gm_I g0 44 20
  · have hw := md_worth_lp I2 ha hb hab hr2 (mE g2 a).toNat 0 fz (by
      have := (I2.2.1 a ha).1.2
      unfold mE
      omega) (Nat.lt_of_le_of_lt (show (mE g2 a).toNat ≤ 300 by
      have := (I2.2.1 a ha).1.2
      unfold mE
      omega) (fz_gt rfl))
    rw [show wpp g2 a b q 0 0 = 0 from rfl, k_wt ek] at hw
    rw [if_pos c, show md_worthOf_l67 g2 (a : Int) (b : Int) q.1 q.2.1 q.2.2 fz 0 0 = _ from hw, jb1_some, @if_neg _ (gd _) (fun z => by
      have := hbad.mp z
      omega)]
  · rw [if_neg c, @if_pos _ (gd _) (hbad.mpr (by omega))]
