/-! A bit's text: a coordinate on the reference's side. -/
noncomputable def mpn (v14 : Int) (g15 : gm_T) : Option (Int × gm_T) :=
    jg (rg (gm_I g15 44 41))
    (if (gm_I g15 44 41) = 0 then
    (jg (rg v14)
    (if v14 ≤ 0 then
    (some (v14, g15))
    else
    (jb1 (md_isDigit g15) fun (v21 : Int) =>
    jg (rg v21)
    (if v21 = 0 then
    (some (v14, g15))
    else
    (jb1 (md_byteAt g15) fun (v23 : Int) =>
    jl ((((10 * v14) + v23) - 48)) fun (v24 : Int) =>
    jb1 (
    jg (rg v24)
    (if v24 ≤ 20 then
    (some 0)
    else
    (some 1))) fun (v25 : Int) =>
    jg (v25 = 0 ∨ v25 = 1)
    (jl (gm_wI g15 44 41 v25) fun (g27 : gm_T) =>
    jg (rg (gm_I g27 44 41))
    (if (gm_I g27 44 41) = 0 then
    (jl (gm_wI g27 44 40 ((gm_I g27 44 40) + 1)) fun (g29 : gm_T) =>
    some (v24, g29))
    else
    (jl (gm_wI g27 44 40 ((gm_I g27 44 40) + 0)) fun (g30 : gm_T) =>
    some (v24, g30)))))))))
    else
    (some (v14, g15)))
noncomputable def mpl (v1 : Int) (g13 : gm_T) : Option (Int × gm_T) := jb2 (md_digit g13) fun (v14 : Int) (g15 : gm_T) => jb2 (mpn v14 g15) fun (v16 : Int) (g18 : gm_T) => jg (rg v1) (if v1 = 0 then (some (v16, g18)) else (some ((-v16), g18)))
theorem md_place_of (g : gm_T) : md_place g =
    jb1 (
    jg (rg (gm_I g 44 41))
    (if (gm_I g 44 41) = 0 then
    (jb1 (md_byteAt g) fun (v3 : Int) =>
    jg (rg v3)
    (if v3 = 45 then
    (some 1)
    else
    (some 0)))
    else
    (some 0))) fun (v1 : Int) =>
    jb1 (
    jg (rg v1)
    (if v1 = 0 then
    (some 0)
    else
    (some 1))) fun (v5 : Int) =>
    jl (gm_wI g 44 40 ((gm_I g 44 40) + v5)) fun (g7 : gm_T) =>
    jb1 (
    jg (rg (gm_I g7 44 41))
    (if (gm_I g7 44 41) = 0 then
    (jg (rg v1)
    (if v1 = 0 then
    (some 0)
    else
    (jb1 (md_byteAt g7) fun (v11 : Int) =>
    jg (rg v11)
    (if v11 = 48 then
    (some 1)
    else
    (some 0)))))
    else
    (some 1))) fun (v8 : Int) =>
    jg (v8 = 0 ∨ v8 = 1)
    (jl (gm_wI g7 44 41 v8) fun (g13 : gm_T) =>
    mpl v1 g13) := rfl
theorem mpn_eq {g : gm_T} {L : Nat} {t : Nat → Int} {a : Int} {q : Nat} {b : Bool} (h : isP g L t a (q + 1) false) (d : isDg (t q)) (z2 : ¬ (b = true ∧ t q = 48)) : ∃ g2 v, mpn (t q - 48) g = some (v, g2) ∧ exc W_ps nob g g2 ∧ isP g2 L t a (crq t q b).2 (!(crq t q b).1.isSome) ∧ rg v ∧ ∀ u, (crq t q b).1 = some u → crs b v = u := by
  have d2 : 48 ≤ t q ∧ t q ≤ 57 := d
  have hb1 := isT_b1 h.1 (q + 1)
  have q1 : q + 1 ≤ L := qlt_L h.1.2.2.2 (p := q) (by omega)
  have h40 := h.2.1.1
  have h41 := h.2.1.2
  unfold mpn
  rw [h41, wI1_f, jg_pos (rgk rfl), if_pos rfl, jg_pos ⟨by omega, by omega⟩]
  by_cases z : t q = 48
  · have e : crq t q b = (some (crs b (t q - 48)), q + 1) := by
      unfold crq
      rw [@if_pos _ (gd _) d, if_neg z2, @if_neg _ (gd _) (fun k => k.1 z)]
    rw [e, if_pos (by omega)]
    exact ⟨g, _, rfl, exc_rf, h, ⟨by omega, by omega⟩, fun u e => by cases e; rfl⟩
  · rw [if_neg (by omega), md_isDigit_eq h.1 h40 q1]
    by_cases d1 : isDg (t (q + 1))
    · have d3 : 48 ≤ t (q + 1) ∧ t (q + 1) ≤ 57 := d1
      rw [if_pos d3, jb1_some, jg_pos (rgk rfl), if_neg n10, md_byteAt_eq h.1 h40 q1, jb1_some, jl_eq, show 10 * (t q - 48) + t (q + 1) - 48 = 10 * (t q - 48) + (t (q + 1) - 48) from by omega, jg_pos ⟨by omega, by omega⟩]
      by_cases le : 10 * (t q - 48) + (t (q + 1) - 48) ≤ 20
      · have e : crq t q b = (some (crs b (10 * (t q - 48) + (t (q + 1) - 48))), q + 2) := by
          unfold crq
          rw [@if_pos _ (gd _) d, if_neg z2, @if_pos _ (gd _) ⟨z, d1⟩, if_pos le]
        rw [e, if_pos le, jb1_some, jg_pos (Or.inl rfl), jl_eq, gI_eq, jg_pos (rgk rfl), if_pos rfl, jl_eq, gI_ne (by decide), h40]
        have x : exc W_ps nob g (gm_wI (gm_wI g 44 41 0) 44 40 (((q + 1 : Nat) : Int) + 1)) := exc_wI (exc_wI exc_rf rfl) rfl
        exact ⟨_, _, rfl, x, isP_w h x (by rw [gI_eq]; rfl) (by rw [gI_ne (by decide), gI_eq]; rfl), ⟨by omega, by omega⟩, fun u e => by cases e; rfl⟩
      · have e : crq t q b = (none, q + 1) := by
          unfold crq
          rw [@if_pos _ (gd _) d, if_neg z2, @if_pos _ (gd _) ⟨z, d1⟩, if_neg le]
        rw [e, if_neg le, jb1_some, jg_pos (Or.inr rfl), jl_eq, gI_eq, jg_pos (rgk rfl), if_neg n10, jl_eq, gI_ne (by decide), h40]
        have x : exc W_ps nob g (gm_wI (gm_wI g 44 41 1) 44 40 (((q + 1 : Nat) : Int) + 0)) := exc_wI (exc_wI exc_rf rfl) rfl
        exact ⟨_, _, rfl, x, isP_w h x (by rw [gI_eq]; rfl) (by rw [gI_ne (by decide), gI_eq]; rfl), ⟨by omega, by omega⟩, fun u e => by cases e⟩
    · have d3 : ¬ (48 ≤ t (q + 1) ∧ t (q + 1) ≤ 57) := d1
      have e : crq t q b = (some (crs b (t q - 48)), q + 1) := by
        unfold crq
        rw [@if_pos _ (gd _) d, if_neg z2, @if_neg _ (gd _) (fun k => d1 k.2)]
      rw [e, if_neg d3, jb1_some, jg_pos (rgk rfl), if_pos rfl]
      exact ⟨g, _, rfl, exc_rf, h, ⟨by omega, by omega⟩, fun u e => by cases e; rfl⟩
theorem mpn_bad {g : gm_T} {L : Nat} {t : Nat → Int} {a : Int} {q : Nat} (h : isP g L t a q true) (v : Int) : mpn v g = some (v, g) := by
  unfold mpn
  rw [h.2.1.2, wI1_t, jg_pos (rgk rfl), if_neg n10]
theorem mpl_bad {g : gm_T} {L : Nat} {t : Nat → Int} {a : Int} {q : Nat} (h : isP g L t a q true) (hq : q ≤ L) (b : Bool) : ∃ g2, mpl (wI1 b) g = some (0, g2) ∧ exc W_ps nob g g2 ∧ isP g2 L t a q true := by
  obtain ⟨g2, v, e, x, ⟨z, -⟩ | ⟨-, rfl, h2⟩⟩ := md_digit_eq h hq
  · cases z
  · refine ⟨g2, ?_, x, h2⟩
    unfold mpl
    rw [e, jb2_some, mpn_bad h2, jb2_some]
    cases b with
    | true => rw [wI1_t, jg_pos (rgk rfl), if_neg n10]; rfl
    | false => rw [wI1_f, jg_pos (rgk rfl), if_pos rfl]
theorem mpl_eq {g : gm_T} {L : Nat} {t : Nat → Int} {a : Int} {q : Nat} {b w : Bool} (h : isP g L t a q w) (hq : q ≤ L) (hw : w = true ↔ (b = true ∧ t q = 48)) : ∃ g2 v, mpl (wI1 b) g = some (v, g2) ∧ exc W_ps nob g g2 ∧ isP g2 L t a (crq t q b).2 (!(crq t q b).1.isSome) ∧ ∀ u, (crq t q b).1 = some u → v = u := by
  cases w with
  | true =>
    have z := hw.mp rfl
    have e : crq t q b = (none, q) := by
      unfold crq
      rw [@if_pos _ (gd _) (by rw [z.2]; exact ⟨by omega, by omega⟩), if_pos z]
    obtain ⟨g2, e2, x, h2⟩ := mpl_bad h hq b
    rw [e]
    exact ⟨g2, 0, e2, x, h2, fun u k => by cases k⟩
  | false =>
    have z2 : ¬ (b = true ∧ t q = 48) := fun k => by cases hw.mpr k
    obtain ⟨g2, v, e, x, ⟨-, d, rfl, h2⟩ | ⟨d, rfl, h2⟩⟩ := md_digit_eq h hq
    · obtain ⟨g3, v, e3, x3, h3, hr, hv⟩ := mpn_eq (b := b) h2 d z2
      refine ⟨g3, crs b v, ?_, exc_tr x x3, h3, hv⟩
      unfold mpl
      rw [e, jb2_some, e3, jb2_some]
      cases b with
      | true => rw [wI1_t, jg_pos (rgk rfl), if_neg n10]; rfl
      | false => rw [wI1_f, jg_pos (rgk rfl), if_pos rfl]; rfl
    · have e1 : crq t q b = (none, q) := by
        unfold crq
        rw [@if_neg _ (gd _) (fun k => d ⟨rfl, k⟩)]
      rw [e1]
      refine ⟨g2, 0, ?_, x, h2, fun u k => by cases k⟩
      unfold mpl
      rw [e, jb2_some, mpn_bad h2, jb2_some]
      cases b with
      | true => rw [wI1_t, jg_pos (rgk rfl), if_neg n10]; rfl
      | false => rw [wI1_f, jg_pos (rgk rfl), if_pos rfl]
theorem md_place_eq {g : gm_T} {L : Nat} {t : Nat → Int} {a : Int} {p : Nat} {w : Bool} (h : isP g L t a p w) (hp : p ≤ L) : ∃ g2 v, md_place g = some (v, g2) ∧ exc W_ps nob g g2 ∧ isP g2 L t a (if w = true then p else (crd t p).2) (if w = true then true else !(crd t p).1.isSome) ∧ (w = false → ∀ u, (crd t p).1 = some u → v = u) := by
  have hb := isT_b1 h.1 p
  have h40 := h.2.1.1
  have h41 := h.2.1.2
  rw [md_place_of]
  cases w with
  | true =>
    have x1 : exc W_ps nob g (gm_wI g 44 40 ((p : Int) + 0)) := exc_wI exc_rf rfl
    have x2 : exc W_ps nob g (gm_wI (gm_wI g 44 40 ((p : Int) + 0)) 44 41 1) := exc_wI x1 rfl
    have h2 := isP_w h x2 (q := p) (u := true) (by rw [gI_ne (by decide), gI_eq, Int.add_zero]) gI_eq
    obtain ⟨g3, e3, x3, h3⟩ := mpl_bad h2 hp false
    refine ⟨g3, 0, ?_, exc_tr x2 x3, h3, fun k => by cases k⟩
    rw [h41, wI1_t, jg_pos (rgk rfl), if_neg n10, jb1_some, jg_pos (rgk rfl), if_pos rfl, jb1_some, jl_eq, h40, gI_ne (by decide), h41, wI1_t, jg_pos (rgk rfl), if_neg n10, jb1_some, jg_pos (Or.inr rfl), jl_eq]
    exact e3
  | false =>
    rw [h41, wI1_f, jg_pos (rgk rfl), if_pos rfl, md_byteAt_eq h.1 h40 hp, jb1_some, jg_pos ⟨by omega, by omega⟩]
    unfold crd
    by_cases c : t p = 45
    · have q1 : p + 1 ≤ L := qlt_L h.1.2.2.2 (p := p) (by omega)
      have hb1 := isT_b1 h.1 (p + 1)
      have x1 : exc W_ps nob g (gm_wI g 44 40 ((p : Int) + 1)) := exc_wI exc_rf rfl
      have h1 := isP_w h x1 (q := p + 1) (u := false) gI_eq (by rw [gI_ne (by decide)]; exact h41)
      rw [if_pos c, if_pos c, jb1_some, jg_pos (rgk rfl), if_neg n10, jb1_some, jl_eq, h40, h1.2.1.2, wI1_f, jg_pos (rgk rfl), if_pos rfl, jg_pos (rgk rfl), if_neg n10, md_byteAt_eq h1.1 h1.2.1.1 q1, jb1_some, jg_pos ⟨by omega, by omega⟩]
      by_cases z : t (p + 1) = 48
      · have x2 : exc W_ps nob g (gm_wI (gm_wI g 44 40 ((p : Int) + 1)) 44 41 1) := exc_wI x1 rfl
        have h2 := isP_w h x2 (q := p + 1) (u := true) (by rw [gI_ne (by decide), gI_eq]; rfl) gI_eq
        obtain ⟨g3, v, e3, x3, h3, hv⟩ := mpl_eq (b := true) h2 q1 ⟨fun _ => ⟨rfl, z⟩, fun _ => rfl⟩
        rw [if_pos z, jb1_some, jg_pos (Or.inr rfl), jl_eq]
        exact ⟨g3, v, e3, exc_tr x2 x3, h3, fun _ => hv⟩
      · have x2 : exc W_ps nob g (gm_wI (gm_wI g 44 40 ((p : Int) + 1)) 44 41 0) := exc_wI x1 rfl
        have h2 := isP_w h x2 (q := p + 1) (u := false) (by rw [gI_ne (by decide), gI_eq]; rfl) gI_eq
        obtain ⟨g3, v, e3, x3, h3, hv⟩ := mpl_eq (b := true) h2 q1 ⟨(fun k => by cases k), fun k => absurd k.2 z⟩
        rw [if_neg z, jb1_some, jg_pos (Or.inl rfl), jl_eq]
        exact ⟨g3, v, e3, exc_tr x2 x3, h3, fun _ => hv⟩
    · have x1 : exc W_ps nob g (gm_wI g 44 40 ((p : Int) + 0)) := exc_wI exc_rf rfl
      have x2 : exc W_ps nob g (gm_wI (gm_wI g 44 40 ((p : Int) + 0)) 44 41 0) := exc_wI x1 rfl
      have h2 := isP_w h x2 (q := p) (u := false) (by rw [gI_ne (by decide), gI_eq, Int.add_zero]) gI_eq
      obtain ⟨g3, v, e3, x3, h3, hv⟩ := mpl_eq (b := false) h2 hp ⟨(fun k => by cases k), (fun k => by cases k.1)⟩
      rw [if_neg c, if_neg c, jb1_some, jg_pos (rgk rfl), if_pos rfl, jb1_some, jl_eq, h40, gI_ne (by decide), h41, wI1_f, jg_pos (rgk rfl), if_pos rfl, jg_pos (rgk rfl), if_pos rfl, jb1_some, jg_pos (Or.inl rfl), jl_eq]
      exact ⟨g3, v, e3, exc_tr x2 x3, h3, fun _ => hv⟩
