/-! Questions: the reference reads. -/
def W_ps (a k : Nat) : Bool := a == 44 && (k == 40 || k == 41)
def wI1 (w : Bool) : Int := if w = true then 1 else 0
theorem wI1_f : wI1 false = 0 := rfl
theorem wI1_t : wI1 true = 1 := rfl
/-- the reference's reading stands at p -/
def isP (g : gm_T) (L : Nat) (t : Nat → Int) (a : Int) (p : Nat) (w : Bool) : Prop := isT g L t ∧ (gm_I g 44 40 = (p : Int) ∧ gm_I g 44 41 = wI1 w) ∧ gm_I g 44 86 = a
theorem isP_w {g : gm_T} {L : Nat} {t : Nat → Int} {a : Int} {p : Nat} {w : Bool} (h : isP g L t a p w) {g2 : gm_T} (x : exc W_ps nob g g2) {q : Nat} {u : Bool} (h1 : gm_I g2 44 40 = (q : Int)) (h2 : gm_I g2 44 41 = wI1 u) : isP g2 L t a q u := by
  obtain ⟨⟨t1, t2, t3, t4⟩, -, h5⟩ := h
  refine ⟨⟨by rw [x.1 44 2 rfl]; exact t1, t2, fun k hk => by rw [x.1 45 k rfl]; exact t3 k hk, t4⟩, ⟨h1, h2⟩, by rw [x.1 44 86 rfl]; exact h5⟩
/-- a step of the reference's reading -/
theorem md_must_eq {g : gm_T} {L : Nat} {t : Nat → Int} {a : Int} {p : Nat} {w : Bool} (h : isP g L t a p w) (hp : p ≤ L) {c : Int} (hc : rg c) : ∃ g2, md_must g c = some g2 ∧ exc W_ps nob g g2 ∧ isP g2 L t a (if w = true then p else if t p = c then p + 1 else p) (if w = true then true else if t p = c then false else true) := by
  have hb := isT_b1 h.1 p
  have h40 := h.2.1.1
  have h41 := h.2.1.2
  have L240 := h.1.2.1
  unfold md_must
  cases w with
  | true =>
    have x : exc W_ps nob g (gm_wI (gm_wI g 44 41 1) 44 40 ((p : Int) + 0)) := exc_wI (exc_wI exc_rf rfl) rfl
    refine ⟨_, ?_, x, isP_w h x ?_ ?_⟩
    · rw [h41, wI1_t, jg_pos (rgk rfl), if_neg n10, jb1_some, jg_pos (Or.inr rfl), jl_eq, gI_eq, jg_pos (rgk rfl), if_neg n10, jl_eq, gI_ne (by decide), h40]
    · rw [gI_eq, if_pos rfl, Int.add_zero]
    · rw [gI_ne (by decide), gI_eq, if_pos rfl]
      rfl
  | false =>
    rw [h41, wI1_f, jg_pos (rgk rfl), if_pos rfl, md_byteAt_eq h.1 h40 hp, jb1_some, jg_pos ⟨⟨by omega, by omega⟩, hc⟩]
    by_cases e : t p = c
    · have x : exc W_ps nob g (gm_wI (gm_wI g 44 41 0) 44 40 ((p : Int) + 1)) := exc_wI (exc_wI exc_rf rfl) rfl
      refine ⟨_, ?_, x, isP_w h x ?_ ?_⟩
      · rw [if_pos e, jb1_some, jg_pos (Or.inl rfl), jl_eq, gI_eq, jg_pos (rgk rfl), if_pos rfl, jl_eq, gI_ne (by decide), h40]
      · rw [gI_eq, if_neg (by decide), if_pos e]
        rfl
      · rw [gI_ne (by decide), gI_eq, if_neg (by decide), if_pos e]
        rfl
    · have x : exc W_ps nob g (gm_wI (gm_wI g 44 41 1) 44 40 ((p : Int) + 0)) := exc_wI (exc_wI exc_rf rfl) rfl
      refine ⟨_, ?_, x, isP_w h x ?_ ?_⟩
      · rw [if_neg e, jb1_some, jg_pos (Or.inr rfl), jl_eq, gI_eq, jg_pos (rgk rfl), if_neg n10, jl_eq, gI_ne (by decide), h40]
      · rw [gI_eq, if_neg (by decide), if_neg e, Int.add_zero]
      · rw [gI_ne (by decide), gI_eq, if_neg (by decide), if_neg e]
        rfl
theorem md_digit_eq {g : gm_T} {L : Nat} {t : Nat → Int} {a : Int} {p : Nat} {w : Bool} (h : isP g L t a p w) (hp : p ≤ L) : ∃ g2 v, md_digit g = some (v, g2) ∧ exc W_ps nob g g2 ∧ ((w = false ∧ isDg (t p) ∧ v = t p - 48 ∧ isP g2 L t a (p + 1) false) ∨ (¬ (w = false ∧ isDg (t p)) ∧ v = 0 ∧ isP g2 L t a p true)) := by
  have hb := isT_b1 h.1 p
  have h40 := h.2.1.1
  have h41 := h.2.1.2
  have L240 := h.1.2.1
  have bad : ¬ (w = false ∧ isDg (t p)) → (jg (rg (gm_I g 44 41)) (if (gm_I g 44 41) = 0 then (jb1 (md_isDigit g) fun (v3 : Int) => jg (rg v3) (if v3 = 0 then (some (1 : Int)) else (some 0))) else (some 1))) = some 1 → ∃ g2 v, md_digit g = some (v, g2) ∧ exc W_ps nob g g2 ∧ ((w = false ∧ isDg (t p) ∧ v = t p - 48 ∧ isP g2 L t a (p + 1) false) ∨ (¬ (w = false ∧ isDg (t p)) ∧ v = 0 ∧ isP g2 L t a p true)) := fun hn e => by
    have x : exc W_ps nob g (gm_wI (gm_wI g 44 41 1) 44 40 ((p : Int) + 0)) := exc_wI (exc_wI exc_rf rfl) rfl
    refine ⟨_, 0, ?_, x, Or.inr ⟨hn, rfl, isP_w h x (by rw [gI_eq, Int.add_zero]) (by rw [gI_ne (by decide), gI_eq]; rfl)⟩⟩
    unfold md_digit
    rw [e, jb1_some, jg_pos (Or.inr rfl), jl_eq, gI_eq, jg_pos (rgk rfl), if_neg n10, jb1_some, jg_pos (rgk rfl), if_neg n10, jl_eq, gI_ne (by decide), h40]
  cases w with
  | true => exact bad (fun z => by cases z.1) (by rw [h41, wI1_t, jg_pos (rgk rfl), if_neg n10])
  | false =>
    by_cases d : isDg (t p)
    · have d2 : 48 ≤ t p ∧ t p ≤ 57 := d
      have x1 : exc W_ps nob g (gm_wI g 44 41 0) := exc_wI exc_rf rfl
      have x : exc W_ps nob g (gm_wI (gm_wI g 44 41 0) 44 40 ((p : Int) + 1)) := exc_wI x1 rfl
      have h2 := isP_w h x1 (q := p) (u := false) (by rw [gI_ne (by decide)]; exact h40) (by rw [gI_eq]; rfl)
      refine ⟨_, _, ?_, x, Or.inl ⟨rfl, d, rfl, isP_w h x (by rw [gI_eq]; rfl) (by rw [gI_ne (by decide), gI_eq]; rfl)⟩⟩
      unfold md_digit
      rw [h41, wI1_f, jg_pos (rgk rfl), if_pos rfl, md_isDigit_eq h.1 h40 hp, if_pos d2, jb1_some, jg_pos (rgk rfl), if_neg n10, jb1_some, jg_pos (Or.inl rfl), jl_eq, gI_eq, jg_pos (rgk rfl), if_pos rfl, md_byteAt_eq h2.1 h2.2.1.1 hp, jb1_some, jb1_some, jg_pos (rgk rfl), if_pos rfl, jl_eq, gI_ne (by decide), h40]
    · have d2 : ¬ (48 ≤ t p ∧ t p ≤ 57) := d
      exact bad (fun z => d z.2) (by rw [h41, wI1_f, jg_pos (rgk rfl), if_pos rfl, md_isDigit_eq h.1 h40 hp, if_neg d2, jb1_some, jg_pos (rgk rfl), if_pos rfl])
theorem md_isLetter_eq {g : gm_T} {c : Int} (hc : rg c) : md_isLetter g c = some (@ite _ (isLt c) (gd _) 1 0) := by
  unfold md_isLetter
  rw [jg_pos hc]
  by_cases h : isLt c
  · rw [@if_pos _ (gd _) h]
    unfold isLt at h
    (repeat' split) <;> first | rfl | (exfalso; omega)
  · rw [@if_neg _ (gd _) h]
    unfold isLt at h
    (repeat' split) <;> first | rfl | (exfalso; omega)
/-- what a comparison gives for a bit (-1: none) -/
def evl (lv : Int → Int → Int) (a c o v : Int) : Bool := if a = -1 then false else if o = 60 then decide (lv a c < v) else if o = 61 then decide (lv a c = v) else decide (v < lv a c)
theorem md_l117_eq {t : Nat → Int} {L : Nat} (hE : endT t L) {a c20 c21 : Int} {g : gm_T} {p : Nat} (h : isP g L t a (p + 3) false) (hd : isDg (t (p + 2))) (hp : p + 3 ≤ L) : ∃ g2, md_test_l117 c20 c21 fz (t (p + 2) - 48) 0 g = some ((cqn t p).1, g2) ∧ exc W_ps nob g g2 ∧ isP g2 L t a (cqn t p).2 false ∧ 0 ≤ (cqn t p).1 ∧ (cqn t p).1 ≤ 999 := by
  have d0 : 48 ≤ t (p + 2) ∧ t (p + 2) ≤ 57 := hd
  have L240 := h.1.2.1
  rw [show fz = 99997 + 1 + 1 + 1 from rfl]
  have r1 : md_test_l117 c20 c21 (99997 + 1 + 1 + 1) (t (p + 2) - 48) 0 g = if t (p + 2) - 48 ≤ 0 then some (t (p + 2) - 48, g) else jb1 (md_isDigit g) (fun (v31 : Int) => jg (rg v31) (if v31 = 0 then (some (t (p + 2) - 48, g)) else (jb2 (md_digit g) fun (v33 : Int) (g34 : gm_T) => jl (((10 * (t (p + 2) - 48)) + v33)) fun (v35 : Int) => md_test_l117 c20 c21 (99997 + 1 + 1) v35 (0 + 1) g34))) := by
    conv => lhs; unfold md_test_l117
    rw [jg_pos (rgk rfl), if_pos (by decide), h.2.1.2, wI1_f, jg_pos (rgk rfl), if_pos rfl, jg_pos ⟨by omega, by omega⟩]
  rw [r1]
  unfold cqn
  by_cases c1 : t (p + 2) - 48 ≤ 0
  · rw [if_pos c1, @if_neg _ (gd _) (fun z => by omega)]
    exact ⟨g, rfl, exc_rf, h, by dsimp only; omega, by dsimp only; omega⟩
  · rw [if_neg c1, md_isDigit_eq h.1 h.2.1.1 hp]
    by_cases c2 : isDg (t (p + 3))
    · have c22 : 48 ≤ t (p + 3) ∧ t (p + 3) ≤ 57 := c2
      have l3 := qlt_L hE (p := p + 3) (by omega)
      obtain ⟨g2, v, k1, k2, k3⟩ := md_digit_eq h hp
      rcases k3 with ⟨-, -, k4, k5⟩ | ⟨k4, -⟩
      rotate_left
      · exact absurd ⟨rfl, c2⟩ k4
      have r2 : md_test_l117 c20 c21 (99997 + 1 + 1) (10 * (t (p + 2) - 48) + v) (0 + 1) g2 = jb1 (md_isDigit g2) (fun (v31 : Int) => jg (rg v31) (if v31 = 0 then (some (10 * (t (p + 2) - 48) + v, g2)) else (jb2 (md_digit g2) fun (v33 : Int) (g34 : gm_T) => jl (((10 * (10 * (t (p + 2) - 48) + v)) + v33)) fun (v35 : Int) => md_test_l117 c20 c21 (99997 + 1) v35 (0 + 1 + 1) g34))) := by
        conv => lhs; unfold md_test_l117
        rw [jg_pos (rgk rfl), if_pos (by decide), k5.2.1.2, wI1_f, jg_pos (rgk rfl), if_pos rfl, jg_pos ⟨by omega, by omega⟩, if_neg (by omega)]
      rw [if_pos c22, jb1_some, jg_pos (rgk rfl), if_neg n10, k1, jb2_some, jl_eq, @if_pos _ (gd _) ⟨show 0 < t (p + 2) - 48 by omega, c2⟩, r2, md_isDigit_eq k5.1 k5.2.1.1 (by omega)]
      by_cases c3 : isDg (t (p + 4))
      · have c33 : 48 ≤ t (p + 4) ∧ t (p + 4) ≤ 57 := c3
        have l4 := qlt_L hE (p := p + 4) (by omega)
        obtain ⟨g3, v2, m1, m2, m3⟩ := md_digit_eq k5 (by omega)
        rcases m3 with ⟨-, -, m4, m5⟩ | ⟨m4, -⟩
        rotate_left
        · exact absurd ⟨rfl, c3⟩ m4
        have r3 : md_test_l117 c20 c21 (99997 + 1) (10 * (10 * (t (p + 2) - 48) + v) + v2) (0 + 1 + 1) g3 = some (10 * (10 * (t (p + 2) - 48) + v) + v2, g3) := by
          conv => lhs; unfold md_test_l117
          rw [jg_pos (rgk rfl), if_neg (by decide)]
        rw [if_pos (show 48 ≤ t (p + 3 + 1) ∧ t (p + 3 + 1) ≤ 57 from c33), jb1_some, jg_pos (rgk rfl), if_neg n10, m1, jb2_some, jl_eq, r3, @if_pos _ (gd _) c3, k4, m4]
        exact ⟨g3, rfl, exc_tr k2 m2, m5, by dsimp only; omega, by dsimp only; omega⟩
      · have c33 : ¬ (48 ≤ t (p + 4) ∧ t (p + 4) ≤ 57) := c3
        rw [if_neg (show ¬ (48 ≤ t (p + 3 + 1) ∧ t (p + 3 + 1) ≤ 57) from c33), jb1_some, jg_pos (rgk rfl), if_pos rfl, @if_neg _ (gd _) c3, k4]
        exact ⟨g2, rfl, k2, k5, by dsimp only; omega, by dsimp only; omega⟩
    · have c22 : ¬ (48 ≤ t (p + 3) ∧ t (p + 3) ≤ 57) := c2
      rw [if_neg c22, jb1_some, jg_pos (rgk rfl), if_pos rfl, @if_neg _ (gd _) (fun z => c2 z.2)]
      exact ⟨g, rfl, exc_rf, h, by dsimp only; omega, by dsimp only; omega⟩
