/-! Shares: the most that hands can have together; the class. -/
/-- the best of having none or one of the first boxes -/
def bmx (V : Nat → Int) (W : Nat → Int) (gone : Nat) : Nat → Int
  | 0 => V gone
  | x + 1 => if gone.testBit x = true then bmx V W gone x else zmax (bmx V W gone x) (W x + V (gone ||| 2 ^ x))
/-- the most of the last r hands -/
def mvf (W : Nat → Nat → Int) : Nat → Nat → Int
  | 0, _ => 0
  | r + 1, gone => bmx (mvf W r) (W (5 - r)) gone 10
theorem zmax_cs (a b : Int) : (zmax a b = a ∧ b ≤ a) ∨ (zmax a b = b ∧ a < b) := by
  unfold zmax
  by_cases c : a < b
  · rw [if_pos c]
    exact Or.inr ⟨rfl, c⟩
  · rw [if_neg c]
    exact Or.inl ⟨rfl, by omega⟩
theorem bmx_b {V W : Nat → Int} {C D : Int} (hV : ∀ s, 0 ≤ V s ∧ V s ≤ C) (hW : ∀ x, x < 10 → 0 ≤ W x ∧ W x ≤ D) (hD : 0 ≤ D) (gone : Nat) : ∀ x, x ≤ 10 → 0 ≤ bmx V W gone x ∧ bmx V W gone x ≤ C + D
  | 0, _ => by
    have := hV gone
    unfold bmx
    omega
  | x + 1, hx => by
    have h1 := bmx_b hV hW hD gone x (by omega)
    have h2 := hV (gone ||| 2 ^ x)
    have h3 := hW x (by omega)
    unfold bmx
    split
    · exact h1
    · rcases zmax_cs (bmx V W gone x) (W x + V (gone ||| 2 ^ x)) with ⟨q, -⟩ | ⟨q, -⟩ <;> (rw [q]; omega)
/-- the best is had by none, or by some box -/
theorem bmx_w {V W : Nat → Int} (gone : Nat) : ∀ x, bmx V W gone x = V gone ∨ ∃ y, y < x ∧ gone.testBit y = false ∧ W y + V (gone ||| 2 ^ y) = bmx V W gone x
  | 0 => Or.inl rfl
  | x + 1 => by
    have h1 := bmx_w (V := V) (W := W) gone x
    have keep : bmx V W gone (x + 1) = bmx V W gone x → bmx V W gone (x + 1) = V gone ∨ ∃ y, y < x + 1 ∧ gone.testBit y = false ∧ W y + V (gone ||| 2 ^ y) = bmx V W gone (x + 1) := fun e => by
      rw [e]
      rcases h1 with h1 | ⟨y, y1, y2, y3⟩
      · exact Or.inl h1
      · exact Or.inr ⟨y, by omega, y2, y3⟩
    cases hb : gone.testBit x with
    | true =>
      refine keep ?_
      show (if gone.testBit x = true then bmx V W gone x else zmax (bmx V W gone x) (W x + V (gone ||| 2 ^ x))) = _
      rw [if_pos hb]
    | false =>
      have e : bmx V W gone (x + 1) = zmax (bmx V W gone x) (W x + V (gone ||| 2 ^ x)) := by
        show (if gone.testBit x = true then bmx V W gone x else zmax (bmx V W gone x) (W x + V (gone ||| 2 ^ x))) = _
        rw [if_neg (by rw [hb]; decide)]
      rcases zmax_cs (bmx V W gone x) (W x + V (gone ||| 2 ^ x)) with ⟨q, -⟩ | ⟨q, -⟩
      · exact keep (e.trans q)
      · exact Or.inr ⟨x, by omega, hb, (e.trans q).symm⟩
theorem mvf_b {W : Nat → Nat → Int} (hW : ∀ h x, h < 6 → x < 10 → 0 ≤ W h x ∧ W h x ≤ 300) : ∀ (r gone : Nat), 0 ≤ mvf W r gone ∧ mvf W r gone ≤ 300 * (r : Int)
  | 0, _ => by
    unfold mvf
    omega
  | r + 1, gone => by
    have h1 := bmx_b (V := mvf W r) (W := W (5 - r)) (C := 300 * (r : Int)) (D := 300) (mvf_b hW r) (fun x hx => hW (5 - r) x (by omega) hx) (by decide) gone 10 (Nat.le_refl _)
    show 0 ≤ bmx (mvf W r) (W (5 - r)) gone 10 ∧ bmx (mvf W r) (W (5 - r)) gone 10 ≤ 300 * ((r + 1 : Nat) : Int)
    omega
theorem or_1024 {s x : Nat} (hs : s < 1024) (hx : x < 10) : s ||| 2 ^ x < 1024 := Nat.or_lt_two_pow (n := 10) hs (Nat.pow_lt_pow_right (by decide) hx)
theorem ct_10 {s : Nat} (hs : s < 1024) : ct s.testBit 31 = ct s.testBit 10 := ct_more (fun i hi => Nat.testBit_lt_two_pow (Nat.lt_of_lt_of_le hs (Nat.pow_le_pow_right (n := 2) (i := 10) (by decide) hi))) 31 (by decide)
theorem ct_or10 {s x : Nat} (hx : x < 10) (hb : s.testBit x = false) : ct (s ||| 2 ^ x).testBit 10 = ct s.testBit 10 + 1 := by
  rw [ct_or1, if_pos ⟨hx, hb⟩]
/-- the class's table for a hand -/
def M38 (W : Nat → Nat → Int) (h : Nat) (g : gm_T) : Prop := ∀ s, s < 1024 → ct s.testBit 10 ≤ h → gm_I g 38 (1024 * h + s) = mvf W (6 - h) s
def isW37 (W : Nat → Nat → Int) (g : gm_T) : Prop := ∀ h x : Nat, h < 6 → x < 10 → gm_I g 37 (10 * h + x) = W h x
theorem cx_with_eq {W : Nat → Nat → Int} {g : gm_T} (hw : isW37 W g) {h : Nat} (hh : h < 6) (hM : M38 W (h + 1) g) {s x : Nat} (hs : s < 1024) (hc : ct s.testBit 10 ≤ h) (hx : x < 10) (hb : s.testBit x = false) : cx_worthWith g (h : Int) (x : Int) (s : Int) = some (W h x + mvf W (5 - h) (s ||| 2 ^ x)) := by
  have ho := or_1024 hs hx
  have hp : 2 ^ x < 2 ^ 10 := Nat.pow_lt_pow_right (by decide) hx
  unfold cx_worthWith
  rw [zSl_1 (by omega), zO_n (by omega) (by omega), jg_pos (by omega), jg_pos (by omega), show ((h : Int) * 10 + (x : Int)).toNat = 10 * h + x by omega, show (((h : Int) + 1) * 1024 + ((s ||| 2 ^ x : Nat) : Int)).toNat = 1024 * (h + 1) + (s ||| 2 ^ x) by omega, hw h x hh hx, hM _ ho (by rw [ct_or10 hx hb]; omega), show 6 - (h + 1) = 5 - h by omega]
theorem cx_most_lp {W : Nat → Nat → Int} (hW : ∀ h x, h < 6 → x < 10 → 0 ≤ W h x ∧ W h x ≤ 300) {g : gm_T} (hw : isW37 W g) {h : Nat} (hh : h < 6) (hM : M38 W (h + 1) g) {s : Nat} (hs : s < 1024) (hc : ct s.testBit 10 ≤ h) : ∀ (d x fuel : Nat), x + d = 10 → d < fuel → cx_mostFor_l18 g (h : Int) (s : Int) fuel (bmx (mvf W (5 - h)) (W h) s x) (x : Int) = some (bmx (mvf W (5 - h)) (W h) s 10) := by
  intro d
  induction d with
  | zero =>
    intro x fuel hd hf
    obtain ⟨f, rfl⟩ : ∃ f, fuel = f + 1 := ⟨fuel - 1, by omega⟩
    unfold cx_mostFor_l18
    rw [jg_pos (rgn (by omega)), if_neg (by omega), show x = 10 by omega]
  | succ d ih =>
    intro x fuel hd hf
    obtain ⟨f, rfl⟩ : ∃ f, fuel = f + 1 := ⟨fuel - 1, by omega⟩
    have next := ih (x + 1) f (by omega) (by omega)
    have hb1 := bmx_b (V := mvf W (5 - h)) (W := W h) (C := 300 * ((5 - h : Nat) : Int)) (D := 300) (mvf_b hW (5 - h)) (fun x hx => hW h x hh hx) (by decide) s x (by omega)
    have hb2 := mvf_b hW (5 - h) (s ||| 2 ^ x)
    have hb3 := hW h x hh (by omega)
    unfold cx_mostFor_l18
    rw [jg_pos (rgn (by omega)), if_pos (by omega), zbit (by omega) (by omega)]
    cases hb : s.testBit x with
    | true =>
      have e : bmx (mvf W (5 - h)) (W h) s (x + 1) = bmx (mvf W (5 - h)) (W h) s x := by
        show (if s.testBit x = true then bmx (mvf W (5 - h)) (W h) s x else zmax (bmx (mvf W (5 - h)) (W h) s x) (W h x + mvf W (5 - h) (s ||| 2 ^ x))) = _
        rw [if_pos hb]
      rw [e] at next
      rw [if_pos rfl, if_neg n10]
      exact next
    | false =>
      have e : bmx (mvf W (5 - h)) (W h) s (x + 1) = zmax (bmx (mvf W (5 - h)) (W h) s x) (W h x + mvf W (5 - h) (s ||| 2 ^ x)) := by
        show (if s.testBit x = true then bmx (mvf W (5 - h)) (W h) s x else zmax (bmx (mvf W (5 - h)) (W h) s x) (W h x + mvf W (5 - h) (s ||| 2 ^ x))) = _
        rw [if_neg (by rw [hb]; decide)]
      rw [e] at next
      rw [if_pos (by decide), cx_with_eq hw hh hM hs hc (by omega) hb, jb1_some, jg_pos ⟨⟨by omega, by omega⟩, by omega, by omega⟩, jl_eq]
      exact next
theorem cx_mostFor_eq {W : Nat → Nat → Int} (hW : ∀ h x, h < 6 → x < 10 → 0 ≤ W h x ∧ W h x ≤ 300) {g : gm_T} (hw : isW37 W g) {h : Nat} (hh : h < 6) (hM : M38 W (h + 1) g) {s : Nat} (hs : s < 1024) (hc : ct s.testBit 10 ≤ h) : cx_mostFor g (h : Int) (s : Int) = some (mvf W (6 - h) s) := by
  have r1 := cx_most_lp hW hw hh hM hs hc 10 0 fz (by omega) (fz_gt rfl)
  have e1 : mvf W (6 - h) s = bmx (mvf W (5 - h)) (W h) s 10 := by
    rw [show 6 - h = (5 - h) + 1 by omega]
    show bmx (mvf W (5 - h)) (W (5 - (5 - h))) s 10 = _
    rw [show 5 - (5 - h) = h by omega]
  unfold cx_mostFor
  rw [jg_pos (by omega), jl_eq, show (((h : Int) + 1) * 1024 + (s : Int)).toNat = 1024 * (h + 1) + s by omega, hM s hs (by omega), show 6 - (h + 1) = 5 - h by omega, show cx_mostFor_l18 g (h : Int) (s : Int) fz (mvf W (5 - h) s) 0 = _ from r1, jb1_some, e1]
def W_38 (h a k : Nat) : Bool := a == 38 && k / 1024 == h
theorem W38_in {h s : Nat} (hs : s < 1024) : W_38 h 38 (1024 * h + s) = true := by
  unfold W_38
  rw [show (1024 * h + s) / 1024 = h by omega]
  simp
theorem M38_tr {W : Nat → Nat → Int} {h h2 : Nat} (hh : h2 ≠ h) {g g2 : gm_T} (x : exc (W_38 h) nob g g2) (H : M38 W h2 g) : M38 W h2 g2 := fun s hs hc => by
  rw [x.1 38 (1024 * h2 + s) (by
    unfold W_38
    rw [show (1024 * h2 + s) / 1024 = h2 by omega, beq_false_of_ne hh]
    rfl)]
  exact H s hs hc
theorem isW37_tr {W : Nat → Nat → Int} {h : Nat} {g g2 : gm_T} (x : exc (W_38 h) nob g g2) (H : isW37 W g) : isW37 W g2 := fun a b ha hb => by
  rw [x.1 37 _ rfl]
  exact H a b ha hb
theorem cx_l13_lp {n : Nat} {W : Nat → Nat → Int} (hW : ∀ h x, h < 6 → x < 10 → 0 ≤ W h x ∧ W h x ≤ 300) {g1 : gm_T} (hw : isW37 W g1) {h : Nat} (hh : h < 6) (hM : M38 W (h + 1) g1) : ∀ (d s fuel : Nat) (g : gm_T), s + d = 1024 → d < fuel → exc (W_38 h) nob g1 g → (∀ u, u < s → ct u.testBit 10 ≤ h → gm_I g 38 (1024 * h + u) = mvf W (6 - h) u) → ∃ g2, cx_shareOut_l13 n (h : Int) fuel (s : Int) g = some g2 ∧ exc (W_38 h) nob g1 g2 ∧ M38 W h g2 := by
  intro d
  induction d with
  | zero =>
    intro s fuel g hd hf x H
    obtain ⟨f, rfl⟩ : ∃ f, fuel = f + 1 := ⟨fuel - 1, by omega⟩
    unfold cx_shareOut_l13
    rw [jg_pos (rgn (by omega)), if_neg (by omega)]
    exact ⟨g, rfl, x, fun u hu => H u (by omega)⟩
  | succ d ih =>
    intro s fuel g hd hf x H
    obtain ⟨f, rfl⟩ : ∃ f, fuel = f + 1 := ⟨fuel - 1, by omega⟩
    have hle := ct_le s.testBit 10
    unfold cx_shareOut_l13
    rw [jg_pos (rgn (by omega)), if_pos (by omega), jd_bitCount_n g (by omega), jb1_some, ct_10 (by omega), jg_pos ⟨rgn (by omega), rgn (by omega)⟩]
    by_cases c : ct s.testBit 10 ≤ h
    · obtain ⟨g2, r1, r2, r3⟩ := ih (s + 1) f (gm_wI g 38 (1024 * h + s) (mvf W (6 - h) s)) (by omega) (by omega) (exc_wI x (W38_in (by omega))) (fun u hu hc => by
        by_cases z : u = s
        · rw [z, gI_eq]
        · rw [gI_ne (by omega)]
          exact H u (by omega) hc)
      rw [if_pos (by omega), cx_mostFor_eq hW (isW37_tr x hw) hh (M38_tr (by omega) x hM) (by omega) c, jb1_some, jg_pos (by omega), jl_eq, show ((h : Int) * 1024 + (s : Int)).toNat = 1024 * h + s by omega]
      exact ⟨g2, r1, r2, r3⟩
    · obtain ⟨g2, r1, r2, r3⟩ := ih (s + 1) f g (by omega) (by omega) x (fun u hu hc => by
        by_cases z : u = s
        · rw [z] at hc
          exact absurd hc c
        · exact H u (by omega) hc)
      rw [if_neg (by omega)]
      exact ⟨g2, r1, r2, r3⟩
def W_38l (a k : Nat) : Bool := a == 38 && Nat.blt k 6144
theorem W38_l {h : Nat} (hh : h < 6) {g g2 : gm_T} (x : exc (W_38 h) nob g g2) : exc W_38l nob g g2 := exc_mono x (fun a k q => by
  simp only [W_38, Bool.and_eq_true, beq_iff_eq] at q
  unfold W_38l
  rw [q.1, show Nat.blt k 6144 = true from Nat.ble_eq_true_of_le (by omega)]
  rfl) (fun _ _ q => q)
theorem cx_l7_lp {n : Nat} {W : Nat → Nat → Int} (hW : ∀ h x, h < 6 → x < 10 → 0 ≤ W h x ∧ W h x ≤ 300) {g1 : gm_T} (hw : isW37 W g1) : ∀ (d fuel : Nat) (g : gm_T), d ≤ 6 → d < fuel → exc W_38l nob g1 g → (∀ h, d ≤ h → h ≤ 6 → M38 W h g) → ∃ g2, cx_shareOut_l7 n fuel ((d : Int) - 1) g = some g2 ∧ exc W_38l nob g1 g2 ∧ ∀ h, h ≤ 6 → M38 W h g2 := by
  intro d
  induction d with
  | zero =>
    intro fuel g hd hf x H
    obtain ⟨f, rfl⟩ : ∃ f, fuel = f + 1 := ⟨fuel - 1, by omega⟩
    unfold cx_shareOut_l7
    rw [jg_pos ⟨by omega, by omega⟩, if_pos (by omega)]
    exact ⟨g, rfl, x, fun h hh => H h (by omega) hh⟩
  | succ d ih =>
    intro fuel g hd hf x H
    obtain ⟨f, rfl⟩ : ∃ f, fuel = f + 1 := ⟨fuel - 1, by omega⟩
    have hwg : isW37 W g := fun a b ha hb => by
      rw [x.1 37 _ rfl]
      exact hw a b ha hb
    obtain ⟨g2, r1, r2, r3⟩ := cx_l13_lp (n := n) hW hwg (h := d) (by omega) (H (d + 1) (by omega) (by omega)) 1024 0 fz g (by omega) (fz_gt rfl) exc_rf (fun u hu => by omega)
    obtain ⟨g3, u1, u2, u3⟩ := ih f g2 (by omega) (by omega) (exc_tr x (W38_l (by omega) r2)) (fun h h1 h2 => by
      by_cases z : h = d
      · rw [z]
        exact r3
      · exact M38_tr z r2 (H h (by omega) h2))
    unfold cx_shareOut_l7
    rw [show ((d + 1 : Nat) : Int) - 1 = (d : Int) by omega, jg_pos (rgn (by omega)), if_neg (by omega), show cx_shareOut_l13 n (d : Int) fz 0 g = _ from r1, jb1_some, show (d : Int) + -1 = (d : Int) - 1 by omega]
    exact ⟨g3, u1, u2, u3⟩
/-- the first box by which a hand has the most; 10: none -/
def chx (W : Nat → Nat → Int) (h s : Nat) (b : Nat) : Prop := (b < 10 ∧ s.testBit b = false ∧ W h b + mvf W (5 - h) (s ||| 2 ^ b) = mvf W (6 - h) s ∧ ∀ y, y < b → s.testBit y = false → W h y + mvf W (5 - h) (s ||| 2 ^ y) ≠ mvf W (6 - h) s) ∨ (b = 10 ∧ ∀ y, y < 10 → s.testBit y = false → W h y + mvf W (5 - h) (s ||| 2 ^ y) ≠ mvf W (6 - h) s)
theorem chx_u {W : Nat → Nat → Int} {h s b b2 : Nat} (h1 : chx W h s b) (h2 : chx W h s b2) : b = b2 := by
  rcases h1 with ⟨a1, a2, a3, a4⟩ | ⟨a1, a4⟩
  · rcases h2 with ⟨c1, c2, c3, c4⟩ | ⟨c1, c4⟩
    · rcases Nat.lt_trichotomy b b2 with q | q | q
      · exact absurd a3 (c4 b q a2)
      · exact q
      · exact absurd c3 (a4 b2 q c2)
    · exact absurd a3 (c4 b a1 a2)
  · rcases h2 with ⟨c1, c2, c3, c4⟩ | ⟨c1, c4⟩
    · exact absurd c3 (a4 b2 c1 c2)
    · rw [a1, c1]
theorem cx_choose_lp {W : Nat → Nat → Int} (hW : ∀ h x, h < 6 → x < 10 → 0 ≤ W h x ∧ W h x ≤ 300) {g : gm_T} (hw : isW37 W g) {h : Nat} (hh : h < 6) (hM : ∀ h, h ≤ 6 → M38 W h g) {s : Nat} (hs : s < 1024) (hc : ct s.testBit 10 ≤ h) : ∀ (d x fuel : Nat), x + d = 10 → d < fuel → (∀ y, y < x → s.testBit y = false → W h y + mvf W (5 - h) (s ||| 2 ^ y) ≠ mvf W (6 - h) s) → ∃ b, chx W h s b ∧ cx_choose_l2 g (h : Int) (s : Int) fuel (x : Int) = some (if b = 10 then -1 else (b : Int)) := by
  intro d
  induction d with
  | zero =>
    intro x fuel hd hf H
    obtain ⟨f, rfl⟩ : ∃ f, fuel = f + 1 := ⟨fuel - 1, by omega⟩
    unfold cx_choose_l2
    rw [jg_pos (rgn (by omega)), if_neg (by omega)]
    have e : x = 10 := by omega
    rw [e] at H
    exact ⟨10, Or.inr ⟨rfl, H⟩, rfl⟩
  | succ d ih =>
    intro x fuel hd hf H
    obtain ⟨f, rfl⟩ : ∃ f, fuel = f + 1 := ⟨fuel - 1, by omega⟩
    have b1 := mvf_b hW (6 - h) s
    have b2 := mvf_b hW (5 - h) (s ||| 2 ^ x)
    have b3 := hW h x hh (by omega)
    unfold cx_choose_l2
    rw [jg_pos (rgn (by omega)), if_pos (by omega), zbit (by omega) (by omega)]
    cases hb : s.testBit x with
    | true =>
      rw [if_pos rfl, if_neg n10]
      exact ih (x + 1) f (by omega) (by omega) (fun y hy hyb => by
        by_cases z : y = x
        · rw [z, hb] at hyb
          cases hyb
        · exact H y (by omega) hyb)
    | false =>
      rw [if_pos (by decide), cx_with_eq hw hh (hM (h + 1) (by omega)) hs hc (by omega) hb, jb1_some, jg_pos (by omega), show ((h : Int) * 1024 + (s : Int)).toNat = 1024 * h + s by omega, hM h (by omega) s hs hc, jg_pos ⟨⟨by omega, by omega⟩, by omega, by omega⟩]
      by_cases c : W h x + mvf W (5 - h) (s ||| 2 ^ x) = mvf W (6 - h) s
      · rw [if_pos c]
        exact ⟨x, Or.inl ⟨by omega, hb, c, H⟩, by rw [if_neg (by omega)]⟩
      · rw [if_neg c]
        exact ih (x + 1) f (by omega) (by omega) (fun y hy hyb => by
          by_cases z : y = x
          · rw [z]
            exact c
          · exact H y (by omega) hyb)
/-- what the hands get, one after another: the boxes, and what is gone behind each hand -/
def shr (W : Nat → Nat → Int) (bo go : Nat → Nat) : Prop := go 0 = 0 ∧ ∀ h, h < 6 → chx W h (go h) (bo h) ∧ go (h + 1) = if bo h = 10 then go h else go h ||| 2 ^ bo h
theorem shr_go {W : Nat → Nat → Int} {bo go : Nat → Nat} (H : shr W bo go) : ∀ h, h ≤ 6 → go h < 1024 ∧ ct (go h).testBit 10 ≤ h
  | 0, _ => by
    rw [H.1]
    decide
  | h + 1, hh => by
    obtain ⟨h1, h2⟩ := shr_go H h (by omega)
    obtain ⟨h3, h4⟩ := H.2 h (by omega)
    rw [h4]
    by_cases z : bo h = 10
    · rw [if_pos z]
      exact ⟨h1, by omega⟩
    · rw [if_neg z]
      rcases h3 with ⟨a1, a2, -⟩ | ⟨a1, -⟩
      · exact ⟨or_1024 h1 a1, by rw [ct_or10 a1 a2]; omega⟩
      · exact absurd a1 z
def shp (W : Nat → Nat → Int) (h : Nat) (bo go : Nat → Nat) : Prop := go 0 = 0 ∧ ∀ i, i < h → chx W i (go i) (bo i) ∧ go (i + 1) = if bo i = 10 then go i else go i ||| 2 ^ bo i
theorem shp_go {W : Nat → Nat → Int} {h : Nat} (h6 : h ≤ 6) {bo go : Nat → Nat} (H : shp W h bo go) : ∀ i, i ≤ h → go i < 1024 ∧ ct (go i).testBit 10 ≤ i
  | 0, _ => by
    rw [H.1]
    decide
  | i + 1, hh => by
    obtain ⟨h1, h2⟩ := shp_go h6 H i (by omega)
    obtain ⟨h3, h4⟩ := H.2 i (by omega)
    rw [h4]
    by_cases z : bo i = 10
    · rw [if_pos z]
      exact ⟨h1, by omega⟩
    · rw [if_neg z]
      rcases h3 with ⟨a1, a2, -⟩ | ⟨a1, -⟩
      · exact ⟨or_1024 h1 a1, by rw [ct_or10 a1 a2]; omega⟩
      · exact absurd a1 z
def W_39 (a k : Nat) : Bool := a == 39
theorem cx_l62_lp {n : Nat} {W : Nat → Nat → Int} (hW : ∀ h x, h < 6 → x < 10 → 0 ≤ W h x ∧ W h x ≤ 300) {g1 : gm_T} (hw : isW37 W g1) (hM : ∀ h, h ≤ 6 → M38 W h g1) : ∀ (d h fuel : Nat) (g : gm_T) (bo go : Nat → Nat), h + d = 6 → d < fuel → exc W_39 nob g1 g → shp W h bo go → (∀ i, i < h → gm_I g 39 i = if bo i = 10 then -1 else ((bo i : Nat) : Int)) → ∃ g2 bo2 go2, cx_shareOut_l62 n fuel ((go h : Nat) : Int) (h : Int) g = some g2 ∧ exc W_39 nob g1 g2 ∧ shp W 6 bo2 go2 ∧ ∀ i, i < 6 → gm_I g2 39 i = if bo2 i = 10 then -1 else ((bo2 i : Nat) : Int) := by
  intro d
  induction d with
  | zero =>
    intro h fuel g bo go hd hf x S H
    obtain ⟨f, rfl⟩ : ∃ f, fuel = f + 1 := ⟨fuel - 1, by omega⟩
    unfold cx_shareOut_l62
    rw [jg_pos (rgn (by omega)), if_neg (by omega)]
    have e : h = 6 := by omega
    rw [e] at S H
    exact ⟨g, bo, go, rfl, x, S, H⟩
  | succ d ih =>
    intro h fuel g bo go hd hf x S H
    obtain ⟨f, rfl⟩ : ∃ f, fuel = f + 1 := ⟨fuel - 1, by omega⟩
    obtain ⟨s1, s2⟩ := shp_go (by omega) S h (Nat.le_refl h)
    have hwg : isW37 W g := fun a b ha hb => by
      rw [x.1 37 _ rfl]
      exact hw a b ha hb
    have hMg : ∀ h, h ≤ 6 → M38 W h g := fun h hh s hs hc => by
      rw [x.1 38 _ rfl]
      exact hM h hh s hs hc
    obtain ⟨b, b1, b2⟩ := cx_choose_lp hW hwg (h := h) (by omega) hMg s1 s2 10 0 fz (by omega) (fz_gt rfl) (fun y hy => by omega)
    have hcho : cx_choose g (h : Int) ((go h : Nat) : Int) = some (if b = 10 then -1 else (b : Int)) := b2
    have hb10 : b ≤ 10 := by
      rcases b1 with ⟨q, -⟩ | ⟨q, -⟩ <;> omega
    obtain ⟨bo', hbo⟩ : ∃ bo' : Nat → Nat, bo' = fun i => if i = h then b else bo i := ⟨_, rfl⟩
    obtain ⟨go', hgo⟩ : ∃ go' : Nat → Nat, go' = fun i => if i = h + 1 then (if b = 10 then go h else go h ||| 2 ^ b) else go i := ⟨_, rfl⟩
    have eb : bo' h = b := by rw [hbo]; exact if_pos rfl
    have eg : go' (h + 1) = if b = 10 then go h else go h ||| 2 ^ b := by rw [hgo]; exact if_pos rfl
    have ob : ∀ i, i ≠ h → bo' i = bo i := fun i hi => by rw [hbo]; exact if_neg hi
    have og : ∀ i, i ≠ h + 1 → go' i = go i := fun i hi => by rw [hgo]; exact if_neg hi
    have S2 : shp W (h + 1) bo' go' := ⟨by rw [og 0 (by omega)]; exact S.1, fun i hi => by
      by_cases z : i = h
      · rw [z, eb, eg, og h (by omega)]
        exact ⟨b1, rfl⟩
      · rw [ob i z, og i (by omega), og (i + 1) (by omega)]
        exact S.2 i (by omega)⟩
    have hg3 : ∀ v, v = (if b = 10 then (-1 : Int) else (b : Int)) → ∀ i, i < h + 1 → gm_I (gm_wI g 39 h v) 39 i = if bo' i = 10 then -1 else ((bo' i : Nat) : Int) := fun v hv i hi => by
      by_cases z : i = h
      · rw [z, gI_eq, eb, hv]
      · rw [gI_ne z, ob i z]
        exact H i (by omega)
    obtain ⟨g2, bo2, go2, r1, r2, r3, r4⟩ := ih (h + 1) f (gm_wI g 39 h (if b = 10 then (-1 : Int) else (b : Int))) bo' go' (by omega) (by omega) (exc_wI x rfl) S2 (hg3 _ rfl)
    rw [eg] at r1
    unfold cx_shareOut_l62
    rw [jg_pos (rgn (by omega)), if_pos (by omega), hcho, jb1_some, jg_pos (by omega), jl_eq, Int.toNat_natCast]
    by_cases z : b = 10
    · rw [if_pos z] at r1 ⊢
      rw [if_pos z] at r1
      rw [jg_pos (rgk rfl), if_pos (by decide), jl_eq, show zO ((go h : Nat) : Int) 0 = ((go h : Nat) : Int) from by
        have := zO_n (a := go h) (b := 0) (by omega) (by decide)
        rw [Nat.or_zero] at this
        exact this]
      exact ⟨g2, bo2, go2, r1, r2, r3, r4⟩
    · have hp : 2 ^ b < 2 ^ 10 := Nat.pow_lt_pow_right (by decide) (by omega)
      rw [if_neg z] at r1 ⊢
      rw [if_neg z] at r1
      rw [jg_pos (rgn (by omega)), if_neg (by omega), jl_eq, zSl_1 (by omega), zO_n (by omega) (by omega)]
      exact ⟨g2, bo2, go2, r1, r2, r3, r4⟩
theorem shp_u {W : Nat → Nat → Int} {bo go bo2 go2 : Nat → Nat} (h1 : shp W 6 bo go) (h2 : shp W 6 bo2 go2) : ∀ i, i ≤ 6 → go i = go2 i ∧ (i < 6 → bo i = bo2 i)
  | 0, _ => by
    have e : go 0 = go2 0 := by rw [h1.1, h2.1]
    refine ⟨e, fun hi => ?_⟩
    have a := (h1.2 0 hi).1
    have b := (h2.2 0 hi).1
    rw [e] at a
    exact chx_u a b
  | i + 1, hi => by
    obtain ⟨e1, e2⟩ := shp_u h1 h2 i (by omega)
    have e : go (i + 1) = go2 (i + 1) := by rw [(h1.2 i (by omega)).2, (h2.2 i (by omega)).2, e1, e2 (by omega)]
    refine ⟨e, fun hi => ?_⟩
    have a := (h1.2 (i + 1) hi).1
    have b := (h2.2 (i + 1) hi).1
    rw [e] at a
    exact chx_u a b
