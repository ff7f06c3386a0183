/-! The photograph's rows: the class's fault, the reference's reading. -/
def isc (v : Int) : Bool := decide (v = 46 ∨ (48 ≤ v ∧ v ≤ 57))
def cvl (v : Int) : Int := if v = 46 then -1 else v - 48
theorem isc_iff {v : Int} : isc v = true ↔ v = 46 ∨ (48 ≤ v ∧ v ≤ 57) := by
  unfold isc
  exact decide_eq_true_iff
def isT (g : gm_T) (L : Nat) (t : Nat → Int) : Prop := gm_I g 44 2 = (L : Int) ∧ L ≤ 240 ∧ (∀ k, k < L → gm_I g 45 k = t k ∧ 0 ≤ t k ∧ t k ≤ 255) ∧ ∀ k, L ≤ k → t k = -1
def isTc (g : gm_T) (L : Nat) (t : Nat → Int) : Prop := gm_I g 1 0 = (L : Int) ∧ L ≤ 240 ∧ (∀ k, k < L → zA (gm_I g 2 k) 255 = t k ∧ 0 ≤ t k ∧ t k ≤ 255) ∧ ∀ k, L ≤ k → t k = -1
theorem isT_of {g : gm_T} (V : V_tape g) : ∃ (L : Nat) (t : Nat → Int), isT g L t ∧ isTc g L t := by
  obtain ⟨⟨v1, v2, v3⟩, v4⟩ := V
  obtain ⟨L, hL⟩ : ∃ L : Nat, gm_I g 44 2 = (L : Int) := ⟨_, (Int.toNat_of_nonneg v2).symm⟩
  rw [hL] at v1 v3 v4
  refine ⟨L, fun k => if k < L then gm_I g 45 k else -1, ⟨hL, by omega, fun k hk => ?_, fun k hk => if_neg (by omega)⟩, v1, by omega, fun k hk => ?_, fun k hk => if_neg (by omega)⟩
  · have := v4 k (by omega)
    dsimp only
    rw [if_pos hk]
    exact ⟨rfl, this.2.1, this.2.2⟩
  · have := v4 k (by omega)
    dsimp only
    rw [if_pos hk]
    exact this
theorem isT_b {L : Nat} {t : Nat → Int} (h : (∀ k, k < L → 0 ≤ t k ∧ t k ≤ 255) ∧ ∀ k, L ≤ k → t k = -1) (p : Nat) : -1 ≤ t p ∧ t p ≤ 255 := by
  by_cases c : p < L
  · have := h.1 p c
    omega
  · have := h.2 p (by omega)
    omega
theorem md_byteAt_eq {g : gm_T} {L : Nat} {t : Nat → Int} (h : isT g L t) {p : Nat} (hp : gm_I g 44 40 = (p : Int)) (hl : p ≤ L) : md_byteAt g = some (t p) := by
  have l2 := h.2.1
  unfold md_byteAt
  rw [hp, h.1, jg_pos ⟨rgn (by omega), rgn (by omega)⟩]
  by_cases c : p < L
  · rw [if_pos (by omega), jg_pos (by omega), Int.toNat_natCast, (h.2.2.1 p c).1]
  · rw [if_neg (by omega), h.2.2.2 p (by omega)]
theorem isT_b1 {g : gm_T} {L : Nat} {t : Nat → Int} (h : isT g L t) (p : Nat) : -1 ≤ t p ∧ t p ≤ 255 := isT_b ⟨fun k hk => (h.2.2.1 k hk).2, h.2.2.2⟩ p
theorem isT_b2 {g : gm_T} {L : Nat} {t : Nat → Int} (h : isTc g L t) (p : Nat) : -1 ≤ t p ∧ t p ≤ 255 := isT_b ⟨fun k hk => (h.2.2.1 k hk).2, h.2.2.2⟩ p
theorem md_isDigit_eq {g : gm_T} {L : Nat} {t : Nat → Int} (h : isT g L t) {p : Nat} (hp : gm_I g 44 40 = (p : Int)) (hl : p ≤ L) : md_isDigit g = some (if 48 ≤ t p ∧ t p ≤ 57 then 1 else 0) := by
  have hb := isT_b1 h p
  unfold md_isDigit
  rw [md_byteAt_eq h hp hl, jb1_some, md_in_eq ⟨by omega, by omega⟩ (rgk rfl) (rgk rfl), jb1_some, jg_pos]
  by_cases c : 48 ≤ t p ∧ t p ≤ 57
  · exact Or.inr (if_pos c)
  · exact Or.inl (if_neg c)
theorem ct_peek_eq {g : gm_T} {L : Nat} {t : Nat → Int} (h : isTc g L t) {p : Nat} (hl : p ≤ L) : ct_peek g (p : Int) = some (t p) := by
  have l2 := h.2.1
  unfold ct_peek
  rw [jg_pos (rgn (by omega)), if_neg (by omega), h.1, jg_pos (rgn (by omega))]
  by_cases c : p < L
  · rw [if_pos (by omega), jg_pos (by omega), Int.toNat_natCast, (h.2.2.1 p c).1]
  · rw [if_neg (by omega), h.2.2.2 p (by omega)]
theorem ct_digit_eq {g : gm_T} {L : Nat} {t : Nat → Int} (h : isTc g L t) {p : Nat} (hl : p ≤ L) : ct_digit g (p : Int) = some (if 48 ≤ t p ∧ t p ≤ 57 then t p - 48 else -1) := by
  have hb := isT_b2 h p
  unfold ct_digit
  rw [ct_peek_eq h hl, jb1_some, jg_pos ⟨by omega, by omega⟩]
  by_cases c1 : t p < 48
  · rw [if_pos c1, if_neg (by omega)]
  · by_cases c2 : t p ≤ 57
    · rw [if_neg c1, if_pos c2, if_pos (by omega)]
    · rw [if_neg c1, if_neg c2, if_neg (by omega)]
theorem cp_isWhole_eq (g : gm_T) {r x w : Nat} (hr : r ≤ 300) (hx : x ≤ 300) (hw' : w ≤ 300) : cp_isWhole g (r : Int) (x : Int) (w : Int) = some (if (if r = 0 then 0 < x else x = w) then 1 else 0) := by
  unfold cp_isWhole
  rw [jg_pos (rgn (by omega))]
  by_cases c : r = 0
  · rw [if_pos (by omega), jg_pos (rgn (by omega))]
    by_cases c2 : 0 < x
    · simp [c, c2]
      omega
    · simp [c, c2]
      omega
  · rw [if_neg (by omega), jg_pos ⟨rgn (by omega), rgn (by omega)⟩]
    by_cases c2 : x = w
    · simp [c, c2]
    · rw [if_neg (by omega)]
      simp [c, c2]
def W_rd (a k : Nat) : Bool := a == 89 || (a == 44 && (k == 40 || k == 41 || k == 66 || k == 67))
def W_rw (a k : Nat) : Bool := a == 89 || (a == 44 && k == 40)
theorem scr_rd {g g2 : gm_T} (h : exc W_rd nob g g2) : exc scr scrJ g g2 := exc_mono h (fun a k q => by
  simp only [W_rd, Bool.or_eq_true, Bool.and_eq_true, beq_iff_eq] at q
  rcases q with rfl | ⟨rfl, ((rfl | rfl) | rfl) | rfl⟩ <;> rfl) (fun _ _ q => by cases q)
theorem isT_tr {g g2 : gm_T} (x : exc W_rd nob g g2) {L : Nat} {t : Nat → Int} (h : isT g L t) : isT g2 L t := ⟨by rw [x.1 44 2 rfl]; exact h.1, h.2.1, fun k hk => by rw [x.1 45 k rfl]; exact h.2.2.1 k hk, h.2.2.2⟩
theorem rd_rw {g g2 : gm_T} (h : exc W_rw nob g g2) : exc W_rd nob g g2 := exc_mono h (fun a k q => by
  simp only [W_rw, Bool.or_eq_true, Bool.and_eq_true, beq_iff_eq] at q
  rcases q with rfl | ⟨rfl, rfl⟩ <;> rfl) (fun _ _ q => q)
/-- one step of a row of the reference -/
theorem md_rr_st {g : gm_T} {L : Nat} {t : Nat → Int} (h : isT g L t) {p r x lim W : Nat} (hp : gm_I g 44 40 = (p : Int)) (hl : p ≤ L) (h67 : gm_I g 44 67 = (r : Int)) (hr : r < 16) (h66 : r ≠ 0 → gm_I g 44 66 = (W : Int)) (hlim : lim = if r = 0 then 16 else W) (hW : lim ≤ 16) (hx : x ≤ 16) (f : Nat) : md_readsRows_l28 (f + 1) (x : Int) g = if x < lim ∧ isc (t p) = true then md_readsRows_l28 f ((x : Int) + 1) (gm_wI (gm_wI g 89 (16 * r + x) (cvl (t p))) 44 40 ((p : Int) + 1)) else some ((x : Int), g) := by
  have hb := isT_b1 h p
  have B := md_byteAt_eq h hp hl
  have D : (jg (rg (gm_I g 44 67)) (if (gm_I g 44 67) = 0 then (some (16 : Int)) else (some (gm_I g 44 66)))) = some (lim : Int) := by
    rw [h67, jg_pos (rgn (by omega)), hlim]
    by_cases c : r = 0
    · rw [if_pos (by omega), if_pos c]
      rfl
    · rw [if_neg (by omega), if_neg c, h66 c]
  have hrb : rg (t p) := ⟨by omega, by omega⟩
  have e89 : ((16 * (r : Int)) + (x : Int)).toNat = 16 * r + x := by omega
  conv => lhs; unfold md_readsRows_l28
  rw [md_isDigit_eq h hp hl, jb_tst, B, D]
  simp only [jb1_some]
  by_cases c1 : 48 ≤ t p ∧ t p ≤ 57
  · rw [if_pos c1, jg_pos ⟨rgn (by omega), rgn (by omega)⟩]
    by_cases c2 : x < lim
    · have hcv : cvl (t p) = t p - 48 := if_neg (by omega)
      rw [if_pos (by omega), jg_pos hrb, if_neg (by omega), jb1_some, h67, jg_pos (by omega), jl_eq, jl_eq, e89, if_pos ⟨c2, isc_iff.mpr (Or.inr c1)⟩, hcv, gI_oth (by decide), hp]
    · rw [if_neg (by omega), if_neg (by omega)]
  · rw [if_neg c1, jg_pos hrb]
    by_cases c3 : t p = 46
    · rw [if_pos c3, jg_pos ⟨rgn (by omega), rgn (by omega)⟩]
      by_cases c2 : x < lim
      · have hcv : cvl (t p) = -1 := if_pos c3
        rw [if_pos (by omega), jg_pos hrb, if_pos c3, jb1_some, h67, jg_pos (by omega), jl_eq, jl_eq, e89, if_pos ⟨c2, isc_iff.mpr (Or.inl c3)⟩, hcv, gI_oth (by decide), hp]
      · rw [if_neg (by omega), if_neg (by omega)]
    · rw [if_neg c3, if_neg (fun z => by
        have := isc_iff.mp z.2
        omega)]
theorem md_rr_lp {g0 : gm_T} {L : Nat} {t : Nat → Int} (h : isT g0 L t) {p r lim W : Nat} (h67 : gm_I g0 44 67 = (r : Int)) (hr : r < 16) (h66 : r ≠ 0 → gm_I g0 44 66 = (W : Int)) (hlim : lim = if r = 0 then 16 else W) (hW : lim ≤ 16) : ∀ (d x fuel : Nat) (g : gm_T), x + d = lim → d < fuel → exc W_rw nob g0 g → gm_I g 44 40 = ((p + x : Nat) : Int) → p + x ≤ L → ∃ (x2 : Nat) (g2 : gm_T), md_readsRows_l28 fuel (x : Int) g = some ((x2 : Int), g2) ∧ x ≤ x2 ∧ x2 ≤ lim ∧ p + x2 ≤ L ∧ (∀ i, x ≤ i → i < x2 → isc (t (p + i)) = true ∧ gm_I g2 89 (16 * r + i) = cvl (t (p + i))) ∧ (x2 < lim → isc (t (p + x2)) = false) ∧ exc W_rw nob g0 g2 ∧ gm_I g2 44 40 = ((p + x2 : Nat) : Int) ∧ ∀ k, k < 16 * r + x → gm_I g2 89 k = gm_I g 89 k := by
  intro d
  induction d with
  | zero =>
    intro x fuel g hd hf hx hp hl
    obtain ⟨f, rfl⟩ : ∃ f, fuel = f + 1 := ⟨fuel - 1, by omega⟩
    have st := md_rr_st (isT_tr (rd_rw hx) h) (p := p + x) (r := r) (x := x) (lim := lim) (W := W) hp hl (by rw [hx.1 44 67 rfl]; exact h67) hr (fun z => by rw [hx.1 44 66 rfl]; exact h66 z) hlim hW (by omega) f
    rw [if_neg (by omega)] at st
    exact ⟨x, g, st, by omega, by omega, hl, fun i h1 h2 => by omega, fun z => by omega, hx, hp, fun k hk => rfl⟩
  | succ d ih =>
    intro x fuel g hd hf hx hp hl
    obtain ⟨f, rfl⟩ : ∃ f, fuel = f + 1 := ⟨fuel - 1, by omega⟩
    have st := md_rr_st (isT_tr (rd_rw hx) h) (p := p + x) (r := r) (x := x) (lim := lim) (W := W) hp hl (by rw [hx.1 44 67 rfl]; exact h67) hr (fun z => by rw [hx.1 44 66 rfl]; exact h66 z) hlim hW (by omega) f
    by_cases c : isc (t (p + x)) = true
    · have hlt : p + x < L := by
        by_cases z : p + x < L
        · exact z
        · rw [h.2.2.2 (p + x) (by omega)] at c
          exact absurd c (by decide)
      rw [if_pos ⟨by omega, c⟩] at st
      obtain ⟨x2, g2, r1, r2, r3, r4, r5, r6, r7, r8, r9⟩ := ih (x + 1) f (gm_wI (gm_wI g 89 (16 * r + x) (cvl (t (p + x)))) 44 40 (((p + x : Nat) : Int) + 1)) (by omega) (by omega) (exc_wI (exc_wI hx rfl) rfl) (by rw [gI_eq]; omega) (by omega)
      rw [st]
      refine ⟨x2, g2, r1, by omega, r3, r4, fun i h1 h2 => ?_, r6, r7, r8, fun k hk => ?_⟩
      · by_cases z : i = x
        · rw [z]
          refine ⟨c, ?_⟩
          rw [r9 (16 * r + x) (by omega), gI_oth (by decide), gI_eq]
        · exact r5 i (by omega) h2
      · rw [r9 k (by omega), gI_oth (by decide), gI_ne (by omega)]
    · rw [if_neg (fun z => c z.2)] at st
      exact ⟨x, g, st, by omega, by omega, hl, fun i h1 h2 => by omega, fun _ => by
        cases q : isc (t (p + x)) with
        | false => rfl
        | true => exact absurd q c, hx, hp, fun k hk => rfl⟩
/-- cells of a row of the class -/
theorem cp_row {g : gm_T} {L : Nat} {t : Nat → Int} (h : isTc g L t) {r lim : Nat} (hlim : lim ≤ 300) : ∀ (d x p fuel : Nat), x + d ≤ lim → (∀ i, i < d → isc (t (p + i)) = true) → cp_faultOf_l11 g (fuel + d) (r : Int) (x : Int) (lim : Int) (p : Int) = cp_faultOf_l11 g fuel (r : Int) ((x + d : Nat) : Int) (lim : Int) ((p + d : Nat) : Int) := by
  have l2 := h.2.1
  intro d
  induction d with
  | zero =>
    intro x p fuel _ _
    rfl
  | succ d ih =>
    intro x p fuel hx hi
    have c := hi 0 (by omega)
    rw [Nat.add_zero] at c
    have hb := isT_b2 h p
    have hlt : p < L := by
      by_cases z : p < L
      · exact z
      · rw [h.2.2.2 p (by omega)] at c
        exact absurd c (by decide)
    have next := ih (x + 1) (p + 1) fuel (by omega) (fun i hi2 => by
      have := hi (i + 1) (by omega)
      rw [show p + 1 + i = p + (i + 1) by omega]
      exact this)
    rw [show x + 1 + d = x + (d + 1) by omega, show p + 1 + d = p + (d + 1) by omega] at next
    rw [← next, show fuel + (d + 1) = (fuel + d) + 1 by omega]
    conv => lhs; unfold cp_faultOf_l11
    have hc := isc_iff.mp c
    rw [h.1, jg_pos ⟨rgn (by omega), rgn (by omega)⟩, if_pos (by omega), ct_peek_eq h (by omega), jb1_some, jg_pos ⟨by omega, by omega⟩, ct_digit_eq h (by omega), jb1_some]
    by_cases z : t p = 46
    · rw [if_pos z, jg_pos ⟨rgn (by omega), rgn (by omega)⟩, if_neg (by omega)]
      rfl
    · rw [if_neg z, if_pos (by omega), jg_pos ⟨by omega, by omega⟩, if_neg (by omega), jg_pos ⟨rgn (by omega), rgn (by omega)⟩, if_neg (by omega)]
      rfl
