/-! A bit's text: a coordinate, on both sides. -/
def W_rc (a k : Nat) : Bool := a == 3 && (k == 1 || k == 2)
theorem isTc_rc {W : Nat → Nat → Bool} (hW : ∀ k, W 2 k = false) (hW0 : W 1 0 = false) {g g2 : gm_T} (x : exc W nob g g2) {L : Nat} {t : Nat → Int} (h : isTc g L t) : isTc g2 L t :=
  ⟨by rw [x.1 1 0 hW0]; exact h.1, h.2.1, fun k hk => by rw [x.1 2 k (hW k)]; exact h.2.2.1 k hk, h.2.2.2⟩
def crs (b : Bool) (v : Int) : Int := if b = true then -v else v
/-- a coordinate whose digits begin at q: it and where it ends, or where it is wrong -/
noncomputable def crq (t : Nat → Int) (q : Nat) (b : Bool) : Option Int × Nat := @ite _ (isDg (t q)) (gd _) (if b = true ∧ t q = 48 then (none, q) else @ite _ (¬ t q = 48 ∧ isDg (t (q + 1))) (gd _) (if 10 * (t q - 48) + (t (q + 1) - 48) ≤ 20 then (some (crs b (10 * (t q - 48) + (t (q + 1) - 48))), q + 2) else (none, q + 1)) (some (crs b (t q - 48)), q + 1)) (none, q)
noncomputable def crd (t : Nat → Int) (p : Nat) : Option Int × Nat := if t p = 45 then crq t (p + 1) true else crq t p false
theorem crs_b {b : Bool} {v : Int} (h : 0 ≤ v ∧ v ≤ 20) : -20 ≤ crs b v ∧ crs b v ≤ 20 := by
  cases b with
  | true => show -20 ≤ -v ∧ -v ≤ 20; omega
  | false => show -20 ≤ v ∧ v ≤ 20; omega
theorem crq_ok {t : Nat → Int} {L q : Nat} (h : endT t L) (hq : q ≤ L) {b : Bool} : (q ≤ (crq t q b).2 ∧ (crq t q b).2 ≤ L) ∧ (∀ v, (crq t q b).1 = some v → -20 ≤ v ∧ v ≤ 20) ∧ ((crq t q b).1.isSome = true → q < (crq t q b).2) := by
  unfold crq
  by_cases d : isDg (t q)
  · have d2 : 48 ≤ t q ∧ t q ≤ 57 := d
    have q1 := qlt_L h (p := q) (by omega)
    rw [@if_pos _ (gd _) d]
    by_cases z : b = true ∧ t q = 48
    · rw [if_pos z]
      exact ⟨⟨Nat.le_refl _, hq⟩, (fun v e => by cases e), (fun e => by cases e)⟩
    · rw [if_neg z]
      by_cases d1 : ¬ t q = 48 ∧ isDg (t (q + 1))
      · rw [@if_pos _ (gd _) d1]
        have d3 : 48 ≤ t (q + 1) ∧ t (q + 1) ≤ 57 := d1.2
        have q2 := qlt_L h (p := q + 1) (by omega)
        by_cases le : 10 * (t q - 48) + (t (q + 1) - 48) ≤ 20
        · rw [if_pos le]
          exact ⟨⟨by show q ≤ q + 2; omega, by show q + 2 ≤ L; omega⟩, (fun v e => by cases e; exact crs_b ⟨by omega, le⟩), fun _ => by show q < q + 2; omega⟩
        · rw [if_neg le]
          exact ⟨⟨by show q ≤ q + 1; omega, by show q + 1 ≤ L; omega⟩, (fun v e => by cases e), (fun e => by cases e)⟩
      · rw [@if_neg _ (gd _) d1]
        exact ⟨⟨by show q ≤ q + 1; omega, by show q + 1 ≤ L; omega⟩, (fun v e => by cases e; exact crs_b ⟨by omega, by omega⟩), fun _ => by show q < q + 1; omega⟩
  · rw [@if_neg _ (gd _) d]
    exact ⟨⟨Nat.le_refl _, hq⟩, (fun v e => by cases e), (fun e => by cases e)⟩
theorem crd_ok {t : Nat → Int} {L p : Nat} (h : endT t L) (hp : p ≤ L) : (p ≤ (crd t p).2 ∧ (crd t p).2 ≤ L) ∧ (∀ v, (crd t p).1 = some v → -20 ≤ v ∧ v ≤ 20) ∧ ((crd t p).1.isSome = true → p < (crd t p).2) := by
  unfold crd
  by_cases c : t p = 45
  · rw [if_pos c]
    have q1 := qlt_L h (p := p) (by omega)
    have w := crq_ok h (q := p + 1) q1 (b := true)
    exact ⟨⟨by omega, w.1.2⟩, w.2.1, fun e => by have := w.2.2 e; omega⟩
  · rw [if_neg c]
    exact crq_ok h hp
theorem ck_skip_eq {g : gm_T} {L : Nat} {t : Nat → Int} {p : Nat} (h : isTc g L t) (h1 : gm_I g 3 1 = (p : Int)) (hp : p ≤ L) {c : Int} (hc : rg c) : ck_skip g c = some (if t p = c then 1 else 0, if t p = c then gm_wI g 3 1 ((p : Int) + 1) else g) := by
  have hb := isT_b2 h p
  unfold ck_skip
  rw [h1, ct_peek_eq h hp, jb1_some, jg_pos ⟨⟨by omega, by omega⟩, hc⟩]
  by_cases e : t p = c
  · rw [if_pos e, if_pos e, if_pos e, jl_eq]
  · rw [if_neg e, if_neg e, if_neg e]
noncomputable def rcr (v1 : Int) (g2 : gm_T) : Option (Int × gm_T) :=
    jb1 (ct_digit g2 (gm_I g2 3 1)) fun (v3 : Int) =>
    jg (rg v3)
    (if v3 < 0 then
    (some (0, g2))
    else
    (jg (rg v1)
    (if v1 = 0 then
    (jl (gm_wI g2 3 1 ((gm_I g2 3 1) + 1)) fun (g6 : gm_T) =>
    if v3 ≤ 0 then
    (if v1 = 0 then
    (jl (gm_wI g6 3 2 v3) fun (g7 : gm_T) =>
    some (1, g7))
    else
    (jl (gm_wI g6 3 2 (-v3)) fun (g8 : gm_T) =>
    some (1, g8)))
    else
    (jb1 (ct_digit g6 (gm_I g6 3 1)) fun (v9 : Int) =>
    jg (rg v9)
    (if v9 < 0 then
    (if v1 = 0 then
    (jl (gm_wI g6 3 2 v3) fun (g11 : gm_T) =>
    some (1, g11))
    else
    (jl (gm_wI g6 3 2 (-v3)) fun (g12 : gm_T) =>
    some (1, g12)))
    else
    (jb1 (ct_digit g6 (gm_I g6 3 1)) fun (v13 : Int) =>
    jl (((10 * v3) + v13)) fun (v14 : Int) =>
    jg (rg v14)
    (if v14 ≤ 20 then
    (jl (gm_wI g6 3 1 ((gm_I g6 3 1) + 1)) fun (g16 : gm_T) =>
    if v1 = 0 then
    (jl (gm_wI g16 3 2 v14) fun (g17 : gm_T) =>
    some (1, g17))
    else
    (jl (gm_wI g16 3 2 (-v14)) fun (g18 : gm_T) =>
    some (1, g18)))
    else
    (some (0, g6)))))))
    else
    (if v3 = 0 then
    (some (0, g2))
    else
    (jl (gm_wI g2 3 1 ((gm_I g2 3 1) + 1)) fun (g19 : gm_T) =>
    if v3 ≤ 0 then
    (if v1 = 0 then
    (jl (gm_wI g19 3 2 v3) fun (g20 : gm_T) =>
    some (1, g20))
    else
    (jl (gm_wI g19 3 2 (-v3)) fun (g21 : gm_T) =>
    some (1, g21)))
    else
    (jb1 (ct_digit g19 (gm_I g19 3 1)) fun (v22 : Int) =>
    jg (rg v22)
    (if v22 < 0 then
    (if v1 = 0 then
    (jl (gm_wI g19 3 2 v3) fun (g24 : gm_T) =>
    some (1, g24))
    else
    (jl (gm_wI g19 3 2 (-v3)) fun (g25 : gm_T) =>
    some (1, g25)))
    else
    (jb1 (ct_digit g19 (gm_I g19 3 1)) fun (v26 : Int) =>
    jl (((10 * v3) + v26)) fun (v27 : Int) =>
    jg (rg v27)
    (if v27 ≤ 20 then
    (jl (gm_wI g19 3 1 ((gm_I g19 3 1) + 1)) fun (g29 : gm_T) =>
    if v1 = 0 then
    (jl (gm_wI g29 3 2 v27) fun (g30 : gm_T) =>
    some (1, g30))
    else
    (jl (gm_wI g29 3 2 (-v27)) fun (g31 : gm_T) =>
    some (1, g31)))
    else
    (some (0, g19)))))))))))
theorem rcr_of (g : gm_T) : ck_readCoordinate g = jb2 (ck_skip g 45) rcr := rfl
theorem rcr_eq {g2 : gm_T} {L : Nat} {t : Nat → Int} {q : Nat} {b : Bool} (hT : isTc g2 L t) (h1 : gm_I g2 3 1 = (q : Int)) (hq : q ≤ L) : ∃ g3, rcr (wI1 b) g2 = some (if (crq t q b).1.isSome = true then 1 else 0, g3) ∧ exc W_rc nob g2 g3 ∧ gm_I g3 3 1 = ((crq t q b).2 : Int) ∧ ∀ v, (crq t q b).1 = some v → gm_I g3 3 2 = v := by
  have l2 := hT.2.1
  have hb := isT_b2 hT q
  have hb1 := isT_b2 hT (q + 1)
  unfold rcr
  rw [h1, ct_digit_eq hT hq, jb1_some]
  by_cases d : isDg (t q)
  · have d2 : 48 ≤ t q ∧ t q ≤ 57 := d
    have q1 := qlt_L hT.2.2.2 (p := q) (by omega)
    rw [if_pos d2, jg_pos ⟨by omega, by omega⟩, if_neg (by omega)]
    have x1 : exc W_rc nob g2 (gm_wI g2 3 1 ((q : Int) + 1)) := exc_wI exc_rf rfl
    have T1 : isTc (gm_wI g2 3 1 ((q : Int) + 1)) L t := isTc_rc (fun _ => rfl) rfl x1 hT
    have a1 : gm_I (gm_wI g2 3 1 ((q : Int) + 1)) 3 1 = ((q + 1 : Nat) : Int) := gI_eq
    have x2 : exc W_rc nob g2 (gm_wI (gm_wI g2 3 1 ((q : Int) + 1)) 3 1 (((q + 1 : Nat) : Int) + 1)) := exc_wI x1 rfl
    cases b with
    | true =>
      by_cases z : t q = 48
      · have e : crq t q true = (none, q) := by
          unfold crq
          rw [@if_pos _ (gd _) d, if_pos ⟨rfl, z⟩]
        rw [e, wI1_t, jg_pos (rgk rfl), if_neg n10, if_pos (by omega)]
        exact ⟨g2, rfl, exc_rf, h1, fun v e => by cases e⟩
      have z2 : ¬ (true = true ∧ t q = 48) := fun k => z k.2
      rw [wI1_t, jg_pos (rgk rfl), if_neg n10, if_neg (show ¬ t q - 48 = 0 by omega), jl_eq]
      rw [if_neg (show ¬ t q - 48 ≤ 0 by omega), a1, ct_digit_eq (p := q + 1) T1 q1, jb1_some]
      by_cases d1 : isDg (t (q + 1))
      · have d3 : 48 ≤ t (q + 1) ∧ t (q + 1) ≤ 57 := d1
        rw [if_pos d3, jg_pos ⟨by omega, by omega⟩, if_neg (by omega), jb1_some, jl_eq, jg_pos ⟨by omega, by omega⟩]
        by_cases le : 10 * (t q - 48) + (t (q + 1) - 48) ≤ 20
        · have e : crq t q true = (some (-(10 * (t q - 48) + (t (q + 1) - 48))), q + 2) := by
            unfold crq
            rw [@if_pos _ (gd _) d, if_neg z2, @if_pos _ (gd _) ⟨z, d1⟩, if_pos le]
            rfl
          rw [e, if_pos le, jl_eq, if_neg n10, jl_eq]
          exact ⟨_, rfl, exc_wI x2 rfl, by rw [gI_ne (by decide), gI_eq]; rfl, fun v e => by cases e; exact gI_eq⟩
        · have e : crq t q true = (none, q + 1) := by
            unfold crq
            rw [@if_pos _ (gd _) d, if_neg z2, @if_pos _ (gd _) ⟨z, d1⟩, if_neg le]
          rw [e, if_neg le]
          exact ⟨_, rfl, x1, a1, fun v e => by cases e⟩
      · have d3 : ¬ (48 ≤ t (q + 1) ∧ t (q + 1) ≤ 57) := d1
        have e : crq t q true = (some (-(t q - 48)), q + 1) := by
          unfold crq
          rw [@if_pos _ (gd _) d, if_neg z2, @if_neg _ (gd _) (fun k => d1 k.2)]
          rfl
        rw [e, if_neg d3, jg_pos (rgk rfl), if_pos (by decide), if_neg n10, jl_eq]
        exact ⟨_, rfl, exc_wI x1 rfl, by rw [gI_ne (by decide)]; exact a1, fun v e => by cases e; exact gI_eq⟩
    | false =>
      have z2 : ¬ (false = true ∧ t q = 48) := fun k => by cases k.1
      rw [wI1_f, jg_pos (rgk rfl), if_pos rfl, jl_eq]
      by_cases z : t q = 48
      · have e : crq t q false = (some (t q - 48), q + 1) := by
          unfold crq
          rw [@if_pos _ (gd _) d, if_neg z2, @if_neg _ (gd _) (fun k => k.1 z)]
          rfl
        rw [e, if_pos (show t q - 48 ≤ 0 by omega), if_pos rfl, jl_eq]
        exact ⟨_, rfl, exc_wI x1 rfl, by rw [gI_ne (by decide)]; exact a1, fun v e => by cases e; exact gI_eq⟩
      rw [if_neg (show ¬ t q - 48 ≤ 0 by omega), a1, ct_digit_eq (p := q + 1) T1 q1, jb1_some]
      by_cases d1 : isDg (t (q + 1))
      · have d3 : 48 ≤ t (q + 1) ∧ t (q + 1) ≤ 57 := d1
        rw [if_pos d3, jg_pos ⟨by omega, by omega⟩, if_neg (by omega), jb1_some, jl_eq, jg_pos ⟨by omega, by omega⟩]
        by_cases le : 10 * (t q - 48) + (t (q + 1) - 48) ≤ 20
        · have e : crq t q false = (some ((10 * (t q - 48) + (t (q + 1) - 48))), q + 2) := by
            unfold crq
            rw [@if_pos _ (gd _) d, if_neg z2, @if_pos _ (gd _) ⟨z, d1⟩, if_pos le]
            rfl
          rw [e, if_pos le, jl_eq, if_pos rfl, jl_eq]
          exact ⟨_, rfl, exc_wI x2 rfl, by rw [gI_ne (by decide), gI_eq]; rfl, fun v e => by cases e; exact gI_eq⟩
        · have e : crq t q false = (none, q + 1) := by
            unfold crq
            rw [@if_pos _ (gd _) d, if_neg z2, @if_pos _ (gd _) ⟨z, d1⟩, if_neg le]
          rw [e, if_neg le]
          exact ⟨_, rfl, x1, a1, fun v e => by cases e⟩
      · have d3 : ¬ (48 ≤ t (q + 1) ∧ t (q + 1) ≤ 57) := d1
        have e : crq t q false = (some ((t q - 48)), q + 1) := by
          unfold crq
          rw [@if_pos _ (gd _) d, if_neg z2, @if_neg _ (gd _) (fun k => d1 k.2)]
          rfl
        rw [e, if_neg d3, jg_pos (rgk rfl), if_pos (by decide), if_pos rfl, jl_eq]
        exact ⟨_, rfl, exc_wI x1 rfl, by rw [gI_ne (by decide)]; exact a1, fun v e => by cases e; exact gI_eq⟩
  · have d2 : ¬ (48 ≤ t q ∧ t q ≤ 57) := d
    have e : crq t q b = (none, q) := by
      unfold crq
      rw [@if_neg _ (gd _) d]
    rw [e, if_neg d2, jg_pos (rgk rfl), if_pos (by decide)]
    exact ⟨g2, rfl, exc_rf, h1, fun v e => by cases e⟩
theorem ck_readCoordinate_eq {g : gm_T} {L : Nat} {t : Nat → Int} {p : Nat} (hT : isTc g L t) (h1 : gm_I g 3 1 = (p : Int)) (hp : p ≤ L) : ∃ g3, ck_readCoordinate g = some (if (crd t p).1.isSome = true then 1 else 0, g3) ∧ exc W_rc nob g g3 ∧ gm_I g3 3 1 = ((crd t p).2 : Int) ∧ ∀ v, (crd t p).1 = some v → gm_I g3 3 2 = v := by
  rw [rcr_of, ck_skip_eq hT h1 hp (rgk rfl), jb2_some]
  unfold crd
  by_cases c : t p = 45
  · have q1 := qlt_L hT.2.2.2 (p := p) (by omega)
    have x1 : exc W_rc nob g (gm_wI g 3 1 ((p : Int) + 1)) := exc_wI exc_rf rfl
    rw [if_pos c, if_pos c, if_pos c]
    obtain ⟨g3, e, x, y, z⟩ := rcr_eq (b := true) (isTc_rc (fun _ => rfl) rfl x1 hT) (q := p + 1) gI_eq q1
    exact ⟨g3, e, exc_tr x1 x, y, z⟩
  · rw [if_neg c, if_neg c, if_neg c]
    exact rcr_eq (b := false) hT h1 hp
