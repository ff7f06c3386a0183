/-! Arrangements: the reference lays one bit against another by each fit. -/
def W_at (i a k : Nat) : Bool := ((a == 91 || a == 92 || a == 93) && k == i) || W_p a k
theorem tr_l34 {n : Nat} {g0 : gm_T} (I : I_fit n g0) {A B k : Nat} (hA : A < n) (hB : B < n) (hAB : A ≠ B) (hk : (k : Int) < mE g0 A) {u i : Nat} (hu : u < 3) (hi : i < 3) {next last : Int} (hlast : rg last) {rec : gm_T → Int → Int → Int → Int → Option gm_T} {P : plc} (hP : bpl 100 P) {R : gm_T → cnd → Prop} {T : plc → cnd → Prop} (hR : ∀ g s, R g s → keepF g = keepF g0 ∧ gT g u = P) (step : ∀ g s f, R g s → FP g0 A B f → ∀ g4, exc (W_at i) nob g g4 → gT g4 i = pon P f → ∃ g2 s2, (if last = -1 then md_judgesSet g4 else rec g4 next last (-1) (-1)) = some g2 ∧ R g2 s2 ∧ adds (T f) s s2) : ∀ (d l fuel : Nat) (g : gm_T) (s : cnd), (l : Int) + (d : Int) = mE g0 B → d < fuel → R g s → ∃ g2 s2, md_tries_l34 rec (u : Int) (i : Int) next last (A : Int) (B : Int) (k : Int) fuel (l : Int) g = some g2 ∧ R g2 s2 ∧ adds (fun c => ∃ j, l ≤ j ∧ j < (mE g0 B).toNat ∧ (isF g0 A k B j ∧ T (fpl g0 A k B j) c)) s s2 := by
  have h30 := I.1.2.2
  have a8 := (I.2.1 A hA).1.2
  have b8 := (I.2.1 B hB).1.2
  have hEA : mE g0 A = gm_I g0 46 A := rfl
  have hEB : mE g0 B = gm_I g0 46 B := rfl
  intro d
  induction d with
  | zero =>
    intro l fuel g s hd hf hr
    obtain ⟨f, rfl⟩ : ∃ f, fuel = f + 1 := ⟨fuel - 1, by omega⟩
    have e := (hR g s hr).1
    have hc : gm_I g 46 B = mE g0 B := k_mE e B
    unfold md_tries_l34
    rw [jg_pos (by omega), Int.toNat_natCast, hc, jg_pos ⟨⟨by omega, by omega⟩, by omega, by omega⟩, if_neg (by omega)]
    exact ⟨g, s, rfl, hr, adds_no s (fun c ⟨j, q1, q2, _⟩ => by omega)⟩
  | succ d ih =>
    intro l fuel g s hd hf hr
    obtain ⟨f, rfl⟩ : ∃ f, fuel = f + 1 := ⟨fuel - 1, by omega⟩
    obtain ⟨e, hPu⟩ := hR g s hr
    have I2 := I_fit_tr e I
    have hc : gm_I g 46 B = mE g0 B := k_mE e B
    have hl : (l : Int) < mE g0 B := by omega
    have hk2 : (k : Int) < mE g A := by rw [k_mE e]; exact hk
    have hl2 : (l : Int) < mE g B := by rw [k_mE e]; exact hl
    unfold md_tries_l34
    rw [jg_pos (by omega), Int.toNat_natCast, hc, jg_pos ⟨⟨by omega, by omega⟩, by omega, by omega⟩, if_pos hl]
    by_cases hF : isF g0 A k B l
    · have hF2 : isF g A k B l := by rw [k_isF e]; exact hF
      have hfp : FP g0 A B (fpl g0 A k B l) := ⟨k, l, ⟨hk, hl⟩, hF, rfl⟩
      have hfb := FP_b I.2.1 hA hB hfp
      obtain ⟨g3, k1, k2, k3⟩ := md_holds_eq g (gm_I g 91 u) (gm_I g 92 u) (gm_I g 93 u)
      have e3 : keepF g3 = keepF g0 := (keepF_A (keepA_scr (scr_p k3))).trans e
      have I3 := I_fit_tr e3 I
      obtain ⟨x1, y1⟩ := md_fitX_eq I3 hA hB hAB (by rw [k_mE e3]; exact hk) (by rw [k_mE e3]; exact hl) (by rw [k_tn e3]; exact hF.2.1)
      have e1 := (I3.2.2.2.2.2.1 A B k l hA hB hAB (by rw [k_mE e3]; exact hk) (by rw [k_mE e3]; exact hl)).1
      have hat : 0 ≤ ((at4 A k B l : Nat) : Int) ∧ ((at4 A k B l : Nat) : Int) < 57600 := by
        unfold at4
        omega
      have hpH : pH g3 = P := by rw [k2]; exact hPu
      have hfp3 : (tn g3 A k B l, fX g3 A k B l, fY g3 A k B l) = fpl g0 A k B l := k_fpl e3 A k B l
      obtain ⟨g5, m1, m2, m3⟩ := md_then_eq (g := g3) (M := 100) (by rw [hpH]; exact hP) (x := tn g3 A k B l) (y := fX g3 A k B l) (z := fY g3 A k B l) (N := 40) (by rw [hfp3]; exact hfb) (by decide)
      rw [hfp3, hpH] at m2
      have p1 : gm_I g5 44 49 = (pon P (fpl g0 A k B l)).1 := congrArg (fun p : plc => p.1) m2
      have p2 : gm_I g5 44 50 = (pon P (fpl g0 A k B l)).2.1 := congrArg (fun p : plc => p.2.1) m2
      have p3 : gm_I g5 44 51 = (pon P (fpl g0 A k B l)).2.2 := congrArg (fun p : plc => p.2.2) m2
      have x5 : exc (W_at i) nob g g5 := exc_mono (exc_tr k3 m3) (fun a k q => by unfold W_at; rw [q, Bool.or_true]) (fun _ _ q => q)
      have wA : ∀ a, (a == 91 || a == 92 || a == 93) = true → W_at i a i = true := fun a q => by
        unfold W_at
        rw [q, beq_self_eq_true]
        rfl
      obtain ⟨g7, s7, t1, t2, t3⟩ := step g s (fpl g0 A k B l) hr hfp (gm_wI (gm_wI (gm_wI g5 91 i (gm_I g5 44 49)) 92 i (gm_I g5 44 50)) 93 i (gm_I g5 44 51)) (exc_wI (exc_wI (exc_wI x5 (wA 91 rfl)) (wA 92 rfl)) (wA 93 rfl)) (by
        unfold gT
        rw [gI_oth (show 91 ≠ 93 by decide), gI_oth (show 91 ≠ 92 by decide), gI_eq, gI_oth (show 92 ≠ 93 by decide), gI_eq, gI_eq, p1, p2, p3])
      obtain ⟨g9, s9, v1, v2, v3⟩ := ih (l + 1) f g7 s7 (by omega) (by omega) t2
      have hadds := adds_st (T := fun j c => isF g0 A k B j ∧ T (fpl g0 A k B j) c) (i := l) (m := (mE g0 B).toNat) (by omega) (adds_c (fun c => ⟨fun z => ⟨hF, z⟩, fun z => z.2⟩) t3) v3
      rw [md_fit_p I2 hA hB hk2 hl2 hF2, jb1_some, jg_pos (rgk rfl), if_neg n10, jg_pos (by omega), Int.toNat_natCast, k1, jb1_some, md_entry_at, jb1_some, jg_pos hat, x1, jb1_some, y1, jb1_some, Int.toNat_natCast, e1, m1, jb1_some, jg_pos (by omega), jl_eq, jl_eq, jl_eq, jg_pos hlast, Int.toNat_natCast, gI_oth (show 44 ≠ 91 by decide), gI_oth (show 44 ≠ 92 by decide), gI_oth (show 44 ≠ 91 by decide)]
      by_cases cl : last = -1
      · rw [if_pos cl] at t1 ⊢
        rw [t1, jb1_some]
        exact ⟨g9, s9, v1, v2, hadds⟩
      · rw [if_neg cl] at t1 ⊢
        rw [t1, jb1_some]
        exact ⟨g9, s9, v1, v2, hadds⟩
    · obtain ⟨g9, s9, v1, v2, v3⟩ := ih (l + 1) f g s (by omega) (by omega) hr
      rw [md_fit_n I2 hA hB hk2 hl2 (by rw [k_isF e]; exact hF), jb1_some, jg_pos (rgk rfl), if_pos rfl]
      exact ⟨g9, s9, v1, v2, adds_st (T := fun j c => isF g0 A k B j ∧ T (fpl g0 A k B j) c) (i := l) (m := (mE g0 B).toNat) (by omega) (adds_no s (fun c z => hF z.1)) v3⟩
theorem tr_l19 {n : Nat} {g0 : gm_T} (I : I_fit n g0) {A B : Nat} (hA : A < n) (hB : B < n) (hAB : A ≠ B) {u i : Nat} (hu : u < 3) (hi : i < 3) {next last : Int} (hlast : rg last) {rec : gm_T → Int → Int → Int → Int → Option gm_T} {P : plc} (hP : bpl 100 P) {R : gm_T → cnd → Prop} {T : plc → cnd → Prop} (hR : ∀ g s, R g s → keepF g = keepF g0 ∧ gT g u = P) (step : ∀ g s f, R g s → FP g0 A B f → ∀ g4, exc (W_at i) nob g g4 → gT g4 i = pon P f → ∃ g2 s2, (if last = -1 then md_judgesSet g4 else rec g4 next last (-1) (-1)) = some g2 ∧ R g2 s2 ∧ adds (T f) s s2) : ∀ (d k fuel : Nat) (g : gm_T) (s : cnd), (k : Int) + (d : Int) = mE g0 A → d < fuel → R g s → ∃ g2 s2, md_tries_l19 rec (u : Int) (i : Int) next last (A : Int) (B : Int) fuel (k : Int) g = some g2 ∧ R g2 s2 ∧ adds (fun c => ∃ k2, k ≤ k2 ∧ k2 < (mE g0 A).toNat ∧ ∃ j, 0 ≤ j ∧ j < (mE g0 B).toNat ∧ (isF g0 A k2 B j ∧ T (fpl g0 A k2 B j) c)) s s2 := by
  have h30 := I.1.2.2
  have a8 := (I.2.1 A hA).1.2
  have b8 := (I.2.1 B hB).1.2
  have hEA : mE g0 A = gm_I g0 46 A := rfl
  have hEB : mE g0 B = gm_I g0 46 B := rfl
  intro d
  induction d with
  | zero =>
    intro k fuel g s hd hf hr
    obtain ⟨f, rfl⟩ : ∃ f, fuel = f + 1 := ⟨fuel - 1, by omega⟩
    have e := (hR g s hr).1
    have hc : gm_I g 46 A = mE g0 A := k_mE e A
    unfold md_tries_l19
    rw [jg_pos (by omega), Int.toNat_natCast, hc, jg_pos ⟨⟨by omega, by omega⟩, by omega, by omega⟩, if_neg (by omega)]
    exact ⟨g, s, rfl, hr, adds_no s (fun c ⟨j, q1, q2, _⟩ => by omega)⟩
  | succ d ih =>
    intro k fuel g s hd hf hr
    obtain ⟨f, rfl⟩ : ∃ f, fuel = f + 1 := ⟨fuel - 1, by omega⟩
    have e := (hR g s hr).1
    have hc : gm_I g 46 A = mE g0 A := k_mE e A
    have hk : (k : Int) < mE g0 A := by omega
    obtain ⟨g7, s7, t1, t2, t3⟩ := tr_l34 I hA hB hAB hk hu hi hlast hP hR step (mE g0 B).toNat 0 fz g s (by omega) (Nat.lt_of_le_of_lt (show (mE g0 B).toNat ≤ 300 by omega) (fz_gt rfl)) hr
    obtain ⟨g9, s9, v1, v2, v3⟩ := ih (k + 1) f g7 s7 (by omega) (by omega) t2
    unfold md_tries_l19
    rw [jg_pos (by omega), Int.toNat_natCast, hc, jg_pos ⟨⟨by omega, by omega⟩, by omega, by omega⟩, if_pos hk, show md_tries_l34 rec (u : Int) (i : Int) next last (A : Int) (B : Int) (k : Int) fz 0 g = _ from t1, jb1_some]
    exact ⟨g9, s9, v1, v2, adds_st (T := fun k2 c => ∃ j, 0 ≤ j ∧ j < (mE g0 B).toNat ∧ (isF g0 A k2 B j ∧ T (fpl g0 A k2 B j) c)) (i := k) (m := (mE g0 A).toNat) (by omega) t3 v3⟩
theorem tr_b {n : Nat} {g0 : gm_T} (I : I_fit n g0) {A B : Nat} (hA : A < n) (hB : B < n) (hAB : A ≠ B) {u i : Nat} (hu : u < 3) (hi : i < 3) {next last : Int} (hlast : rg last) {rec : gm_T → Int → Int → Int → Int → Option gm_T} {P : plc} (hP : bpl 100 P) {R : gm_T → cnd → Prop} {T : plc → cnd → Prop} (hR : ∀ g s, R g s → keepF g = keepF g0 ∧ gT g u = P) (step : ∀ g s f, R g s → FP g0 A B f → ∀ g4, exc (W_at i) nob g g4 → gT g4 i = pon P f → ∃ g2 s2, (if last = -1 then md_judgesSet g4 else rec g4 next last (-1) (-1)) = some g2 ∧ R g2 s2 ∧ adds (T f) s s2) {g : gm_T} {s : cnd} (hr : R g s) (e1 : gm_I g 90 u = (A : Int)) (e2 : gm_I g 90 i = (B : Int)) : ∃ g2 s2, md_tries_b rec g (u : Int) (i : Int) next last = some g2 ∧ R g2 s2 ∧ adds (fun c => ∃ f, FP g0 A B f ∧ T f c) s s2 := by
  have a8 := (I.2.1 A hA).1.2
  have hEA : mE g0 A = gm_I g0 46 A := rfl
  obtain ⟨g2, s2, r1, r2, r3⟩ := tr_l19 I hA hB hAB hu hi hlast hP hR step (mE g0 A).toNat 0 fz g s (by omega) (Nat.lt_of_le_of_lt (show (mE g0 A).toNat ≤ 300 by omega) (fz_gt rfl)) hr
  refine ⟨g2, s2, ?_, r2, adds_c (fun c => ?_) r3⟩
  · unfold md_tries_b
    rw [jg_pos (by omega), jl_eq, Int.toNat_natCast, jg_pos (by omega), jl_eq, Int.toNat_natCast, e1, e2, show md_tries_l19 rec (u : Int) (i : Int) next last (A : Int) (B : Int) fz 0 g = _ from r1, jb1_some]
  · constructor
    · rintro ⟨k, -, k1, j, -, j1, h1, h2⟩
      exact ⟨_, ⟨k, j, ⟨by omega, by omega⟩, h1, rfl⟩, h2⟩
    · rintro ⟨f, ⟨k, j, ⟨k1, j1⟩, h1, rfl⟩, h2⟩
      exact ⟨k, Nat.zero_le k, by omega, j, Nat.zero_le j, by omega, h1, h2⟩
