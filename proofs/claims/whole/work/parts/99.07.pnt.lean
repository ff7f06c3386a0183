/-! A bit's text: a point with its colour, on both sides. -/
/-- a point at p, c between it and its colour: it and where it ends, or where it is wrong -/
noncomputable def pnt (c : Int) (t : Nat → Int) (p : Nat) : Option (Int × Int × Int) × Nat := match crd t p with
  | (none, e) => (none, e)
  | (some x, e) => if t e = 44 then (match crd t (e + 1) with
    | (none, e2) => (none, e2)
    | (some y, e2) => if t e2 = c then @ite _ (isDg (t (e2 + 1))) (gd _) (some (x, y, t (e2 + 1) - 48), e2 + 2) (none, e2 + 1) else (none, e2)) else (none, e)
def mst (t : Nat → Int) (c : Int) (s : Nat × Bool) : Nat × Bool := if s.2 = true then s else if t s.1 = c then (s.1 + 1, false) else (s.1, true)
noncomputable def plcs (t : Nat → Int) (s : Nat × Bool) : Nat × Bool := if s.2 = true then s else ((crd t s.1).2, !(crd t s.1).1.isSome)
noncomputable def dgt (t : Nat → Int) (s : Nat × Bool) : Nat × Bool := if s.2 = true then s else @ite _ (isDg (t s.1)) (gd _) (s.1 + 1, false) (s.1, true)
theorem mst_t {t : Nat → Int} {c : Int} {p : Nat} : mst t c (p, true) = (p, true) := rfl
theorem plcs_t {t : Nat → Int} {p : Nat} : plcs t (p, true) = (p, true) := rfl
theorem dgt_t {t : Nat → Int} {p : Nat} : dgt t (p, true) = (p, true) := rfl
theorem mst_p {t : Nat → Int} {c : Int} {p : Nat} (h : t p = c) : mst t c (p, false) = (p + 1, false) := if_pos h
theorem mst_n {t : Nat → Int} {c : Int} {p : Nat} (h : ¬ t p = c) : mst t c (p, false) = (p, true) := if_neg h
theorem plcs_f {t : Nat → Int} {p : Nat} : plcs t (p, false) = ((crd t p).2, !(crd t p).1.isSome) := rfl
theorem dgt_p {t : Nat → Int} {p : Nat} (h : isDg (t p)) : dgt t (p, false) = (p + 1, false) := @if_pos _ (gd _) h _ _ _
theorem dgt_n {t : Nat → Int} {p : Nat} (h : ¬ isDg (t p)) : dgt t (p, false) = (p, true) := @if_neg _ (gd _) h _ _ _
/-- all ways through a point -/
theorem pnt_ways (c : Int) (t : Nat → Int) (p : Nat) : (∃ x y f f2, crd t p = (some x, f) ∧ t f = 44 ∧ crd t (f + 1) = (some y, f2) ∧ t f2 = c ∧ isDg (t (f2 + 1)) ∧ pnt c t p = (some (x, y, t (f2 + 1) - 48), f2 + 2)) ∨ (∃ f, crd t p = (none, f) ∧ pnt c t p = (none, f)) ∨ (∃ x f, crd t p = (some x, f) ∧ ¬ t f = 44 ∧ pnt c t p = (none, f)) ∨ (∃ x f f2, crd t p = (some x, f) ∧ t f = 44 ∧ crd t (f + 1) = (none, f2) ∧ pnt c t p = (none, f2)) ∨ (∃ x y f f2, crd t p = (some x, f) ∧ t f = 44 ∧ crd t (f + 1) = (some y, f2) ∧ ¬ t f2 = c ∧ pnt c t p = (none, f2)) ∨ (∃ x y f f2, crd t p = (some x, f) ∧ t f = 44 ∧ crd t (f + 1) = (some y, f2) ∧ t f2 = c ∧ ¬ isDg (t (f2 + 1)) ∧ pnt c t p = (none, f2 + 1)) := by
  rcases hr : crd t p with ⟨_ | x, f⟩
  · exact Or.inr (Or.inl ⟨f, rfl, by unfold pnt; rw [hr]⟩)
  · by_cases c1 : t f = 44
    · rcases hr2 : crd t (f + 1) with ⟨_ | y, f2⟩
      · exact Or.inr (Or.inr (Or.inr (Or.inl ⟨x, f, f2, rfl, c1, hr2, by unfold pnt; rw [hr]; dsimp only; rw [if_pos c1, hr2]⟩)))
      · by_cases c2 : t f2 = c
        · by_cases d : isDg (t (f2 + 1))
          · exact Or.inl ⟨x, y, f, f2, rfl, c1, hr2, c2, d, by unfold pnt; rw [hr]; dsimp only; rw [if_pos c1, hr2]; dsimp only; rw [if_pos c2, @if_pos _ (gd _) d]⟩
          · exact Or.inr (Or.inr (Or.inr (Or.inr (Or.inr ⟨x, y, f, f2, rfl, c1, hr2, c2, d, by unfold pnt; rw [hr]; dsimp only; rw [if_pos c1, hr2]; dsimp only; rw [if_pos c2, @if_neg _ (gd _) d]⟩))))
        · exact Or.inr (Or.inr (Or.inr (Or.inr (Or.inl ⟨x, y, f, f2, rfl, c1, hr2, c2, by unfold pnt; rw [hr]; dsimp only; rw [if_pos c1, hr2]; dsimp only; rw [if_neg c2]⟩))))
    · exact Or.inr (Or.inr (Or.inl ⟨x, f, rfl, c1, by unfold pnt; rw [hr]; dsimp only; rw [if_neg c1]⟩))
theorem pnt_ok {c : Int} {t : Nat → Int} {L p : Nat} (h : endT t L) (hp : p ≤ L) (hc : c ≠ -1) : (p ≤ (pnt c t p).2 ∧ (pnt c t p).2 ≤ L) ∧ (∀ x y d, (pnt c t p).1 = some (x, y, d) → (-20 ≤ x ∧ x ≤ 20) ∧ (-20 ≤ y ∧ y ≤ 20) ∧ 0 ≤ d ∧ d ≤ 9) ∧ ((pnt c t p).1.isSome = true → p < (pnt c t p).2) := by
  have o1 := crd_ok h hp
  have o2 : ∀ f, f ≤ L → t f = 44 → _ := fun f _ e => crd_ok h (p := f + 1) (qlt_L h (by omega))
  rcases pnt_ways c t p with ⟨x, y, f, f2, e1, c1, e2, c2, d, e⟩ | ⟨f, e1, e⟩ | ⟨x, f, e1, c1, e⟩ | ⟨x, f, f2, e1, c1, e2, e⟩ | ⟨x, y, f, f2, e1, c1, e2, c2, e⟩ | ⟨x, y, f, f2, e1, c1, e2, c2, d, e⟩
  · rw [e1] at o1
    have w := o2 f o1.1.2 c1
    rw [e2] at w
    have b0 := o1.1.1
    have b1 := w.1.1
    have b2 : f2 + 1 < L := qlt_L h (by unfold isDg at d; omega)
    dsimp only at b0 b1
    rw [e]
    refine ⟨⟨by show p ≤ f2 + 2; omega, by show f2 + 2 ≤ L; omega⟩, fun x' y' d' k => ?_, fun _ => by show p < f2 + 2; omega⟩
    cases k
    have d2 : 48 ≤ t (f2 + 1) ∧ t (f2 + 1) ≤ 57 := d
    exact ⟨o1.2.1 _ rfl, w.2.1 _ rfl, by omega, by omega⟩
  · rw [e1] at o1; rw [e]
    exact ⟨o1.1, (fun _ _ _ k => by cases k), (fun k => by cases k)⟩
  · rw [e1] at o1; rw [e]
    exact ⟨o1.1, (fun _ _ _ k => by cases k), (fun k => by cases k)⟩
  · rw [e1] at o1
    have w := o2 f o1.1.2 c1
    rw [e2] at w; rw [e]
    exact ⟨⟨by have := o1.1.1; have := w.1.1; dsimp only at *; omega, w.1.2⟩, (fun _ _ _ k => by cases k), (fun k => by cases k)⟩
  · rw [e1] at o1
    have w := o2 f o1.1.2 c1
    rw [e2] at w; rw [e]
    exact ⟨⟨by have := o1.1.1; have := w.1.1; dsimp only at *; omega, w.1.2⟩, (fun _ _ _ k => by cases k), (fun k => by cases k)⟩
  · rw [e1] at o1
    have w := o2 f o1.1.2 c1
    rw [e2] at w; rw [e]
    have b2 : f2 < L := qlt_L h (by rw [c2]; exact hc)
    exact ⟨⟨by have := o1.1.1; have := w.1.1; show p ≤ f2 + 1; dsimp only at *; omega, b2⟩, (fun _ _ _ k => by cases k), (fun k => by cases k)⟩
theorem pnt_st (c : Int) (t : Nat → Int) (p : Nat) : dgt t (mst t c (plcs t (mst t 44 (plcs t (p, false))))) = ((pnt c t p).2, !(pnt c t p).1.isSome) := by
  rcases pnt_ways c t p with ⟨x, y, f, f2, e1, c1, e2, c2, d, e⟩ | ⟨f, e1, e⟩ | ⟨x, f, e1, c1, e⟩ | ⟨x, f, f2, e1, c1, e2, e⟩ | ⟨x, y, f, f2, e1, c1, e2, c2, e⟩ | ⟨x, y, f, f2, e1, c1, e2, c2, d, e⟩
  · rw [e, plcs_f, e1]
    show dgt t (mst t c (plcs t (mst t 44 (f, false)))) = _
    rw [mst_p c1, plcs_f, e2]
    show dgt t (mst t c (f2, false)) = _
    rw [mst_p c2, dgt_p d]
    rfl
  · rw [e, plcs_f, e1]
    rfl
  · rw [e, plcs_f, e1]
    show dgt t (mst t c (plcs t (mst t 44 (f, false)))) = _
    rw [mst_n c1]
    rfl
  · rw [e, plcs_f, e1]
    show dgt t (mst t c (plcs t (mst t 44 (f, false)))) = _
    rw [mst_p c1, plcs_f, e2]
    rfl
  · rw [e, plcs_f, e1]
    show dgt t (mst t c (plcs t (mst t 44 (f, false)))) = _
    rw [mst_p c1, plcs_f, e2]
    show dgt t (mst t c (f2, false)) = _
    rw [mst_n c2]
    rfl
  · rw [e, plcs_f, e1]
    show dgt t (mst t c (plcs t (mst t 44 (f, false)))) = _
    rw [mst_p c1, plcs_f, e2]
    show dgt t (mst t c (f2, false)) = _
    rw [mst_p c2, dgt_n d]
    rfl
def W_p4 (k a j : Nat) : Bool := (a == 3 && (j == 1 || j == 2)) || ((a == 4 || a == 5 || a == 6) && j == k)
theorem W_p4_r {k : Nat} {g g2 : gm_T} (x : exc W_rc nob g g2) : exc (W_p4 k) nob g g2 := exc_mono x (fun a j q => by
  unfold W_rc at q
  unfold W_p4
  rw [q]; rfl) (fun a j q => by cases q)
theorem W_p4_a {k : Nat} : W_p4 k 4 k = true := by unfold W_p4; simp
theorem W_p4_b {k : Nat} : W_p4 k 5 k = true := by unfold W_p4; simp
theorem W_p4_c {k : Nat} : W_p4 k 6 k = true := by unfold W_p4; simp
theorem ck_readPoint_4_eq {g : gm_T} {L : Nat} {t : Nat → Int} {p : Nat} (hT : isTc g L t) (h1 : gm_I g 3 1 = (p : Int)) (hp : p ≤ L) {c : Int} (hc : rg c) (hc1 : c ≠ -1) {k : Nat} (hk : k < 8) : ∃ g2, ck_readPoint_4 g c (k : Int) = some (if (pnt c t p).1.isSome = true then 1 else 0, g2) ∧ exc (W_p4 k) nob g g2 ∧ gm_I g2 3 1 = ((pnt c t p).2 : Int) ∧ ∀ x y d, (pnt c t p).1 = some (x, y, d) → gm_I g2 4 k = x ∧ gm_I g2 5 k = y ∧ gm_I g2 6 k = d := by
  have hE := hT.2.2.2
  obtain ⟨g2, e2, x2, y2, z2⟩ := ck_readCoordinate_eq hT h1 hp
  have o1 := crd_ok hE hp
  have X2 : exc (W_p4 k) nob g g2 := W_p4_r x2
  unfold ck_readPoint_4
  rcases hr : crd t p with ⟨_ | x, f⟩
  · have ep : pnt c t p = (none, f) := by unfold pnt; rw [hr]
    rw [hr] at e2 y2
    replace e2 : ck_readCoordinate g = some (0, g2) := e2
    rw [e2, jb2_some, jg_pos (rgk rfl), if_pos rfl, ep]
    exact ⟨g2, rfl, X2, y2, fun _ _ _ q => by cases q⟩
  rw [hr] at e2 y2 z2 o1
  replace e2 : ck_readCoordinate g = some (1, g2) := e2
  replace y2 : gm_I g2 3 1 = (f : Int) := y2
  have z2 := z2 x rfl
  have fL : f ≤ L := o1.1.2
  rw [e2, jb2_some, jg_pos (rgk rfl), if_neg n10, jg_pos (by omega), jl_eq, z2, Int.toNat_natCast]
  have X4 : exc (W_p4 k) nob g (gm_wI g2 4 k x) := exc_wI X2 W_p4_a
  have T4 : isTc (gm_wI g2 4 k x) L t := isTc_rc (W := W_p4 k) (fun _ => rfl) rfl X4 hT
  rw [ck_skip_eq T4 (p := f) (by rw [gI_oth (by decide)]; exact y2) fL (rgk rfl), jb2_some]
  by_cases c1 : t f = 44
  rotate_left
  · have ep : pnt c t p = (none, f) := by unfold pnt; rw [hr]; dsimp only; rw [if_neg c1]
    rw [if_neg c1, if_neg c1, jg_pos (rgk rfl), if_pos rfl, ep]
    exact ⟨_, rfl, X4, by rw [gI_oth (by decide)]; exact y2, fun _ _ _ q => by cases q⟩
  have f1 : f + 1 ≤ L := qlt_L hE (p := f) (by omega)
  rw [if_pos c1, if_pos c1, jg_pos (rgk rfl), if_neg n10]
  have X7 : exc (W_p4 k) nob g (gm_wI (gm_wI g2 4 k x) 3 1 ((f : Int) + 1)) := exc_wI X4 rfl
  have T7 := isTc_rc (W := W_p4 k) (fun _ => rfl) rfl X7 hT
  have a7 : gm_I (gm_wI (gm_wI g2 4 k x) 3 1 ((f : Int) + 1)) 4 k = x := by rw [gI_oth (by decide), gI_eq]
  obtain ⟨g10, e10, x10, y10, z10⟩ := ck_readCoordinate_eq T7 (p := f + 1) gI_eq f1
  have o2 := crd_ok hE f1
  have X10 : exc (W_p4 k) nob g g10 := exc_tr X7 (W_p4_r x10)
  have a10 : gm_I g10 4 k = x := by rw [x10.1 4 k rfl]; exact a7
  rcases hr2 : crd t (f + 1) with ⟨_ | y, f2⟩
  · have ep : pnt c t p = (none, f2) := by unfold pnt; rw [hr]; dsimp only; rw [if_pos c1, hr2]
    rw [hr2] at e10 y10
    replace e10 : ck_readCoordinate (gm_wI (gm_wI g2 4 k x) 3 1 ((f : Int) + 1)) = some (0, g10) := e10
    rw [e10, jb2_some, jg_pos (rgk rfl), if_pos rfl, ep]
    exact ⟨g10, rfl, X10, y10, fun _ _ _ q => by cases q⟩
  rw [hr2] at e10 y10 z10 o2
  replace e10 : ck_readCoordinate (gm_wI (gm_wI g2 4 k x) 3 1 ((f : Int) + 1)) = some (1, g10) := e10
  replace y10 : gm_I g10 3 1 = (f2 : Int) := y10
  have z10 := z10 y rfl
  have fL2 : f2 ≤ L := o2.1.2
  rw [e10, jb2_some, jg_pos (rgk rfl), if_neg n10, jl_eq, z10]
  have X12 : exc (W_p4 k) nob g (gm_wI g10 5 k y) := exc_wI X10 W_p4_b
  have T12 := isTc_rc (W := W_p4 k) (fun _ => rfl) rfl X12 hT
  rw [ck_skip_eq T12 (p := f2) (by rw [gI_oth (by decide)]; exact y10) fL2 hc, jb2_some]
  by_cases c2 : t f2 = c
  rotate_left
  · have ep : pnt c t p = (none, f2) := by unfold pnt; rw [hr]; dsimp only; rw [if_pos c1, hr2]; dsimp only; rw [if_neg c2]
    rw [if_neg c2, if_neg c2, jg_pos (rgk rfl), if_pos rfl, ep]
    exact ⟨_, rfl, X12, by rw [gI_oth (by decide)]; exact y10, fun _ _ _ q => by cases q⟩
  have f3 : f2 + 1 ≤ L := qlt_L hE (p := f2) (by rw [c2]; exact hc1)
  rw [if_pos c2, if_pos c2, jg_pos (rgk rfl), if_neg n10]
  have X14 : exc (W_p4 k) nob g (gm_wI (gm_wI g10 5 k y) 3 1 ((f2 : Int) + 1)) := exc_wI X12 rfl
  have T14 := isTc_rc (W := W_p4 k) (fun _ => rfl) rfl X14 hT
  have b14 := isT_b2 T14 (f2 + 1)
  have y14 : gm_I (gm_wI (gm_wI g10 5 k y) 3 1 ((f2 : Int) + 1)) 3 1 = ((f2 + 1 : Nat) : Int) := gI_eq
  rw [y14, ct_digit_eq T14 f3, jb1_some]
  by_cases d : isDg (t (f2 + 1))
  · have d2 : 48 ≤ t (f2 + 1) ∧ t (f2 + 1) ≤ 57 := d
    have ep : pnt c t p = (some (x, y, t (f2 + 1) - 48), f2 + 2) := by unfold pnt; rw [hr]; dsimp only; rw [if_pos c1, hr2]; dsimp only; rw [if_pos c2, @if_pos _ (gd _) d]
    rw [if_pos d2, jg_pos ⟨by omega, by omega⟩, if_neg (by omega), jb1_some, jl_eq, jl_eq, gI_oth (by decide), y14, ep]
    refine ⟨_, rfl, exc_wI (exc_wI X14 W_p4_c) rfl, gI_eq, fun x' y' d' q => ?_⟩
    cases q
    refine ⟨?_, ?_, ?_⟩
    · rw [gI_oth (by decide), gI_oth (by decide), gI_oth (by decide), gI_oth (by decide)]; exact a10
    · rw [gI_oth (by decide), gI_oth (by decide), gI_oth (by decide), gI_eq]
    · rw [gI_oth (by decide), gI_eq]
  · have d2 : ¬ (48 ≤ t (f2 + 1) ∧ t (f2 + 1) ≤ 57) := d
    have ep : pnt c t p = (none, f2 + 1) := by unfold pnt; rw [hr]; dsimp only; rw [if_pos c1, hr2]; dsimp only; rw [if_pos c2, @if_neg _ (gd _) d]
    rw [if_neg d2, jg_pos (rgk rfl), if_pos (by decide), ep]
    exact ⟨_, rfl, X14, y14, fun _ _ _ q => by cases q⟩
def W_p7 (k a j : Nat) : Bool := (a == 3 && (j == 1 || j == 2)) || ((a == 7 || a == 8 || a == 9) && j == k)
theorem W_p7_r {k : Nat} {g g2 : gm_T} (x : exc W_rc nob g g2) : exc (W_p7 k) nob g g2 := exc_mono x (fun a j q => by
  unfold W_rc at q
  unfold W_p7
  rw [q]; rfl) (fun a j q => by cases q)
theorem W_p7_a {k : Nat} : W_p7 k 7 k = true := by unfold W_p7; simp
theorem W_p7_b {k : Nat} : W_p7 k 8 k = true := by unfold W_p7; simp
theorem W_p7_c {k : Nat} : W_p7 k 9 k = true := by unfold W_p7; simp
theorem ck_readPoint_7_eq {g : gm_T} {L : Nat} {t : Nat → Int} {p : Nat} (hT : isTc g L t) (h1 : gm_I g 3 1 = (p : Int)) (hp : p ≤ L) {c : Int} (hc : rg c) (hc1 : c ≠ -1) {k : Nat} (hk : k < 5) : ∃ g2, ck_readPoint_7 g c (k : Int) = some (if (pnt c t p).1.isSome = true then 1 else 0, g2) ∧ exc (W_p7 k) nob g g2 ∧ gm_I g2 3 1 = ((pnt c t p).2 : Int) ∧ ∀ x y d, (pnt c t p).1 = some (x, y, d) → gm_I g2 7 k = x ∧ gm_I g2 8 k = y ∧ gm_I g2 9 k = d := by
  have hE := hT.2.2.2
  obtain ⟨g2, e2, x2, y2, z2⟩ := ck_readCoordinate_eq hT h1 hp
  have o1 := crd_ok hE hp
  have X2 : exc (W_p7 k) nob g g2 := W_p7_r x2
  unfold ck_readPoint_7
  rcases hr : crd t p with ⟨_ | x, f⟩
  · have ep : pnt c t p = (none, f) := by unfold pnt; rw [hr]
    rw [hr] at e2 y2
    replace e2 : ck_readCoordinate g = some (0, g2) := e2
    rw [e2, jb2_some, jg_pos (rgk rfl), if_pos rfl, ep]
    exact ⟨g2, rfl, X2, y2, fun _ _ _ q => by cases q⟩
  rw [hr] at e2 y2 z2 o1
  replace e2 : ck_readCoordinate g = some (1, g2) := e2
  replace y2 : gm_I g2 3 1 = (f : Int) := y2
  have z2 := z2 x rfl
  have fL : f ≤ L := o1.1.2
  rw [e2, jb2_some, jg_pos (rgk rfl), if_neg n10, jg_pos (by omega), jl_eq, z2, Int.toNat_natCast]
  have X4 : exc (W_p7 k) nob g (gm_wI g2 7 k x) := exc_wI X2 W_p7_a
  have T4 : isTc (gm_wI g2 7 k x) L t := isTc_rc (W := W_p7 k) (fun _ => rfl) rfl X4 hT
  rw [ck_skip_eq T4 (p := f) (by rw [gI_oth (by decide)]; exact y2) fL (rgk rfl), jb2_some]
  by_cases c1 : t f = 44
  rotate_left
  · have ep : pnt c t p = (none, f) := by unfold pnt; rw [hr]; dsimp only; rw [if_neg c1]
    rw [if_neg c1, if_neg c1, jg_pos (rgk rfl), if_pos rfl, ep]
    exact ⟨_, rfl, X4, by rw [gI_oth (by decide)]; exact y2, fun _ _ _ q => by cases q⟩
  have f1 : f + 1 ≤ L := qlt_L hE (p := f) (by omega)
  rw [if_pos c1, if_pos c1, jg_pos (rgk rfl), if_neg n10]
  have X7 : exc (W_p7 k) nob g (gm_wI (gm_wI g2 7 k x) 3 1 ((f : Int) + 1)) := exc_wI X4 rfl
  have T7 := isTc_rc (W := W_p7 k) (fun _ => rfl) rfl X7 hT
  have a7 : gm_I (gm_wI (gm_wI g2 7 k x) 3 1 ((f : Int) + 1)) 7 k = x := by rw [gI_oth (by decide), gI_eq]
  obtain ⟨g10, e10, x10, y10, z10⟩ := ck_readCoordinate_eq T7 (p := f + 1) gI_eq f1
  have o2 := crd_ok hE f1
  have X10 : exc (W_p7 k) nob g g10 := exc_tr X7 (W_p7_r x10)
  have a10 : gm_I g10 7 k = x := by rw [x10.1 7 k rfl]; exact a7
  rcases hr2 : crd t (f + 1) with ⟨_ | y, f2⟩
  · have ep : pnt c t p = (none, f2) := by unfold pnt; rw [hr]; dsimp only; rw [if_pos c1, hr2]
    rw [hr2] at e10 y10
    replace e10 : ck_readCoordinate (gm_wI (gm_wI g2 7 k x) 3 1 ((f : Int) + 1)) = some (0, g10) := e10
    rw [e10, jb2_some, jg_pos (rgk rfl), if_pos rfl, ep]
    exact ⟨g10, rfl, X10, y10, fun _ _ _ q => by cases q⟩
  rw [hr2] at e10 y10 z10 o2
  replace e10 : ck_readCoordinate (gm_wI (gm_wI g2 7 k x) 3 1 ((f : Int) + 1)) = some (1, g10) := e10
  replace y10 : gm_I g10 3 1 = (f2 : Int) := y10
  have z10 := z10 y rfl
  have fL2 : f2 ≤ L := o2.1.2
  rw [e10, jb2_some, jg_pos (rgk rfl), if_neg n10, jl_eq, z10]
  have X12 : exc (W_p7 k) nob g (gm_wI g10 8 k y) := exc_wI X10 W_p7_b
  have T12 := isTc_rc (W := W_p7 k) (fun _ => rfl) rfl X12 hT
  rw [ck_skip_eq T12 (p := f2) (by rw [gI_oth (by decide)]; exact y10) fL2 hc, jb2_some]
  by_cases c2 : t f2 = c
  rotate_left
  · have ep : pnt c t p = (none, f2) := by unfold pnt; rw [hr]; dsimp only; rw [if_pos c1, hr2]; dsimp only; rw [if_neg c2]
    rw [if_neg c2, if_neg c2, jg_pos (rgk rfl), if_pos rfl, ep]
    exact ⟨_, rfl, X12, by rw [gI_oth (by decide)]; exact y10, fun _ _ _ q => by cases q⟩
  have f3 : f2 + 1 ≤ L := qlt_L hE (p := f2) (by rw [c2]; exact hc1)
  rw [if_pos c2, if_pos c2, jg_pos (rgk rfl), if_neg n10]
  have X14 : exc (W_p7 k) nob g (gm_wI (gm_wI g10 8 k y) 3 1 ((f2 : Int) + 1)) := exc_wI X12 rfl
  have T14 := isTc_rc (W := W_p7 k) (fun _ => rfl) rfl X14 hT
  have b14 := isT_b2 T14 (f2 + 1)
  have y14 : gm_I (gm_wI (gm_wI g10 8 k y) 3 1 ((f2 : Int) + 1)) 3 1 = ((f2 + 1 : Nat) : Int) := gI_eq
  rw [y14, ct_digit_eq T14 f3, jb1_some]
  by_cases d : isDg (t (f2 + 1))
  · have d2 : 48 ≤ t (f2 + 1) ∧ t (f2 + 1) ≤ 57 := d
    have ep : pnt c t p = (some (x, y, t (f2 + 1) - 48), f2 + 2) := by unfold pnt; rw [hr]; dsimp only; rw [if_pos c1, hr2]; dsimp only; rw [if_pos c2, @if_pos _ (gd _) d]
    rw [if_pos d2, jg_pos ⟨by omega, by omega⟩, if_neg (by omega), jb1_some, jl_eq, jl_eq, gI_oth (by decide), y14, ep]
    refine ⟨_, rfl, exc_wI (exc_wI X14 W_p7_c) rfl, gI_eq, fun x' y' d' q => ?_⟩
    cases q
    refine ⟨?_, ?_, ?_⟩
    · rw [gI_oth (by decide), gI_oth (by decide), gI_oth (by decide), gI_oth (by decide)]; exact a10
    · rw [gI_oth (by decide), gI_oth (by decide), gI_oth (by decide), gI_eq]
    · rw [gI_oth (by decide), gI_eq]
  · have d2 : ¬ (48 ≤ t (f2 + 1) ∧ t (f2 + 1) ≤ 57) := d
    have ep : pnt c t p = (none, f2 + 1) := by unfold pnt; rw [hr]; dsimp only; rw [if_pos c1, hr2]; dsimp only; rw [if_pos c2, @if_neg _ (gd _) d]
    rw [if_neg d2, jg_pos (rgk rfl), if_pos (by decide), ep]
    exact ⟨_, rfl, X14, y14, fun _ _ _ q => by cases q⟩
