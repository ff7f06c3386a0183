/-! Shares: the reference; the operation share. -/
/-- the boxes that are gone, the free ones being told -/
def cpl (f : Nat) : Nat := ndf 1023 f
theorem cpl_bit (f i : Nat) : (cpl f).testBit i = (decide (i < 10) && !f.testBit i) := by
  unfold cpl
  rw [ndf_bit, show 1023 = 2 ^ 10 - 1 from rfl, Nat.testBit_two_pow_sub_one]
theorem cpl_lt (f : Nat) : cpl f < 1024 := Nat.lt_of_le_of_lt (ndf_le 1023 f) (by decide)
theorem cpl_take {f x : Nat} (hx : x < 10) (hb : f.testBit x = true) : cpl (ndf f (2 ^ x)) = cpl f ||| 2 ^ x := by
  apply Nat.eq_of_testBit_eq
  intro i
  rw [cpl_bit, ndf_bit, Nat.testBit_or, cpl_bit, Nat.testBit_two_pow]
  by_cases z : x = i
  · rw [← z, hb, decide_eq_true hx, decide_eq_true rfl]
    rfl
  · rw [decide_eq_false z, Bool.not_false, Bool.and_true, Bool.or_false]
theorem ndf_1024 {f x : Nat} (hf : f < 1024) : ndf f (2 ^ x) < 1024 := Nat.lt_of_le_of_lt (ndf_le _ _) hf
def M109 (W : Nat → Nat → Int) (h : Nat) (g : gm_T) : Prop := ∀ f, f < 1024 → gm_I g 109 (1024 * h + f) = mvf W (6 - h) (cpl f)
def isW108 (W : Nat → Nat → Int) (g : gm_T) : Prop := ∀ h x : Nat, h < 6 → x < 10 → gm_I g 108 (10 * h + x) = W h x
theorem md_on_10 {W : Nat → Nat → Int} {g : gm_T} {h : Nat} (hh : h < 6) (hM : M109 W (h + 1) g) {f : Nat} (hf : f < 1024) : md_goesOn g (h : Int) (f : Int) 10 = some (mvf W (5 - h) (cpl f)) := by
  unfold md_goesOn
  rw [jg_pos (rgk rfl), if_pos rfl, jg_pos (by omega), show (1024 * (h : Int) + 1024 + (f : Int)).toNat = 1024 * (h + 1) + f by omega, hM f hf, show 6 - (h + 1) = 5 - h by omega]
theorem md_on_no {g : gm_T} {h : Nat} {f x : Nat} (hf : f < 1024) (hx : x < 10) (hb : (cpl f).testBit x = true) : md_goesOn g (h : Int) (f : Int) (x : Int) = some (-1) := by
  have hb2 : f.testBit x = false := by
    rw [cpl_bit, decide_eq_true hx, Bool.true_and] at hb
    cases q : f.testBit x with
    | false => rfl
    | true =>
      rw [q] at hb
      cases hb
  unfold md_goesOn
  rw [jg_pos (rgn (by omega)), if_neg (by omega), zbit (by omega) (by omega), hb2, if_pos (by decide)]
theorem md_on_yes {W : Nat → Nat → Int} {g : gm_T} (hw : isW108 W g) {h : Nat} (hh : h < 6) (hM : M109 W (h + 1) g) {f x : Nat} (hf : f < 1024) (hx : x < 10) (hb : (cpl f).testBit x = false) : md_goesOn g (h : Int) (f : Int) (x : Int) = some (W h x + mvf W (5 - h) (cpl f ||| 2 ^ x)) ∧ f.testBit x = true := by
  have hb2 : f.testBit x = true := by
    rw [cpl_bit, decide_eq_true hx, Bool.true_and] at hb
    cases q : f.testBit x with
    | true => rfl
    | false =>
      rw [q] at hb
      cases hb
  have hl := ndf_1024 (x := x) hf
  refine ⟨?_, hb2⟩
  unfold md_goesOn
  rw [jg_pos (rgn (by omega)), if_neg (by omega), zbit (by omega) (by omega), hb2, if_neg (by decide), zSl_1 (by omega), zA_not (by omega), jg_pos (by omega), jg_pos (by omega), show (10 * (h : Int) + (x : Int)).toNat = 10 * h + x by omega, show (1024 * (h : Int) + 1024 + ((ndf f (2 ^ x) : Nat) : Int)).toNat = 1024 * (h + 1) + ndf f (2 ^ x) by omega, hw h x hh hx, hM _ hl, cpl_take hx hb2, show 6 - (h + 1) = 5 - h by omega]
theorem zmax_sw (a v b : Int) : zmax (zmax a v) b = zmax (zmax a b) v := by
  rcases zmax_cs a v with ⟨e1, h1⟩ | ⟨e1, h1⟩ <;> rcases zmax_cs a b with ⟨e2, h2⟩ | ⟨e2, h2⟩ <;> rw [e1, e2] <;> (unfold zmax; (repeat' split) <;> omega)
theorem zmax_le (a v : Int) : (if v ≤ a then a else v) = zmax a v := by
  unfold zmax
  by_cases c : v ≤ a
  · rw [if_pos c, if_neg (by omega)]
  · rw [if_neg c, if_pos (by omega)]
theorem mvf_h {W : Nat → Nat → Int} {h : Nat} (hh : h < 6) (s : Nat) : mvf W (6 - h) s = bmx (mvf W (5 - h)) (W h) s 10 := by
  rw [show 6 - h = (5 - h) + 1 by omega]
  show bmx (mvf W (5 - h)) (W (5 - (5 - h))) s 10 = _
  rw [show 5 - (5 - h) = h by omega]
theorem md_l145_lp {W : Nat → Nat → Int} (hW : ∀ h x, h < 6 → x < 10 → 0 ≤ W h x ∧ W h x ≤ 300) {g : gm_T} (hw : isW108 W g) {h : Nat} (hh : h < 6) (hM : M109 W (h + 1) g) {f : Nat} (hf : f < 1024) : ∀ (d x fuel : Nat) (acc : Int), x + d = 10 → d + 1 < fuel → (-1 ≤ acc ∧ acc ≤ 3000) → zmax acc (mvf W (5 - h) (cpl f)) = bmx (mvf W (5 - h)) (W h) (cpl f) x → md_shares_l145 g (h : Int) (f : Int) fuel acc (x : Int) = some (mvf W (6 - h) (cpl f)) := by
  have hb0 := mvf_b hW (5 - h) (cpl f)
  intro d
  induction d with
  | zero =>
    intro x fuel acc hd hf2 ha hz
    obtain ⟨fu, rfl⟩ : ∃ fu, fuel = fu + 1 + 1 := ⟨fuel - 2, by omega⟩
    have e : x = 10 := by omega
    have last : ∀ v, md_shares_l145 g (h : Int) (f : Int) (fu + 1) v 11 = some v := fun v => by
      unfold md_shares_l145
      rw [jg_pos (rgk rfl), if_neg (by decide)]
    rw [mvf_h hh, ← show x = 10 from e, ← hz]
    unfold md_shares_l145
    rw [jg_pos (rgn (by omega)), if_pos (by omega), e, show md_goesOn g (h : Int) (f : Int) ((10 : Nat) : Int) = _ from md_on_10 hh hM hf, jb1_some, jg_pos ⟨⟨by omega, by omega⟩, by omega, by omega⟩, show ((10 : Nat) : Int) + 1 = 11 from rfl, last, last, ite_some2, zmax_le]
  | succ d ih =>
    intro x fuel acc hd hf2 ha hz
    obtain ⟨fu, rfl⟩ : ∃ fu, fuel = fu + 1 := ⟨fuel - 1, by omega⟩
    unfold md_shares_l145
    rw [jg_pos (rgn (by omega)), if_pos (by omega)]
    cases hb : (cpl f).testBit x with
    | true =>
      have e : bmx (mvf W (5 - h)) (W h) (cpl f) (x + 1) = bmx (mvf W (5 - h)) (W h) (cpl f) x := by
        show (if (cpl f).testBit x = true then bmx (mvf W (5 - h)) (W h) (cpl f) x else zmax (bmx (mvf W (5 - h)) (W h) (cpl f) x) (W h x + mvf W (5 - h) (cpl f ||| 2 ^ x))) = _
        rw [if_pos hb]
      rw [md_on_no hf (by omega) hb, jb1_some, jg_pos ⟨rgk rfl, by omega, by omega⟩, if_pos ha.1]
      exact ih (x + 1) fu acc (by omega) (by omega) ha (by rw [e]; exact hz)
    | false =>
      have e : bmx (mvf W (5 - h)) (W h) (cpl f) (x + 1) = zmax (bmx (mvf W (5 - h)) (W h) (cpl f) x) (W h x + mvf W (5 - h) (cpl f ||| 2 ^ x)) := by
        show (if (cpl f).testBit x = true then bmx (mvf W (5 - h)) (W h) (cpl f) x else zmax (bmx (mvf W (5 - h)) (W h) (cpl f) x) (W h x + mvf W (5 - h) (cpl f ||| 2 ^ x))) = _
        rw [if_neg (by rw [hb]; decide)]
      have b2 := mvf_b hW (5 - h) (cpl f ||| 2 ^ x)
      have b3 := hW h x hh (by omega)
      rw [(md_on_yes hw hh hM hf (by omega) hb).1, jb1_some, jg_pos ⟨⟨by omega, by omega⟩, by omega, by omega⟩]
      by_cases c : W h x + mvf W (5 - h) (cpl f ||| 2 ^ x) ≤ acc
      · rw [if_pos c]
        have k : zmax acc (W h x + mvf W (5 - h) (cpl f ||| 2 ^ x)) = acc := by rw [← zmax_le, if_pos c]
        refine ih (x + 1) fu acc (by omega) (by omega) ha ?_
        rw [e, ← hz, ← zmax_sw, k]
      · rw [if_neg c]
        have k : zmax acc (W h x + mvf W (5 - h) (cpl f ||| 2 ^ x)) = W h x + mvf W (5 - h) (cpl f ||| 2 ^ x) := by rw [← zmax_le, if_neg c]
        refine ih (x + 1) fu _ (by omega) (by omega) (by omega) ?_
        rw [e, ← hz, ← zmax_sw, k]
def W_109 (h a k : Nat) : Bool := a == 109 && k / 1024 == h
theorem W109_in {h s : Nat} (hs : s < 1024) : W_109 h 109 (1024 * h + s) = true := by
  unfold W_109
  rw [show (1024 * h + s) / 1024 = h by omega]
  simp
theorem M109_tr {W : Nat → Nat → Int} {h h2 : Nat} (hh : h2 ≠ h) {g g2 : gm_T} (x : exc (W_109 h) nob g g2) (H : M109 W h2 g) : M109 W h2 g2 := fun s hs => by
  rw [x.1 109 (1024 * h2 + s) (by
    unfold W_109
    rw [show (1024 * h2 + s) / 1024 = h2 by omega, beq_false_of_ne hh]
    rfl)]
  exact H s hs
theorem isW108_tr {W : Nat → Nat → Int} {h : Nat} {g g2 : gm_T} (x : exc (W_109 h) nob g g2) (H : isW108 W g) : isW108 W g2 := fun a b ha hb => by
  rw [x.1 108 _ rfl]
  exact H a b ha hb
theorem md_l133_lp {W : Nat → Nat → Int} (hW : ∀ h x, h < 6 → x < 10 → 0 ≤ W h x ∧ W h x ≤ 300) {g1 : gm_T} (hw : isW108 W g1) {h : Nat} (hh : h < 6) (hM : M109 W (h + 1) g1) : ∀ (d s fuel : Nat) (g : gm_T), s + d = 1024 → d < fuel → exc (W_109 h) nob g1 g → (∀ u, u < s → gm_I g 109 (1024 * h + u) = mvf W (6 - h) (cpl u)) → ∃ g2, md_shares_l133 (h : Int) fuel (s : Int) g = some g2 ∧ exc (W_109 h) nob g1 g2 ∧ M109 W h g2 := by
  intro d
  induction d with
  | zero =>
    intro s fuel g hd hf x H
    obtain ⟨f, rfl⟩ : ∃ f, fuel = f + 1 := ⟨fuel - 1, by omega⟩
    unfold md_shares_l133
    rw [jg_pos (rgn (by omega)), if_neg (by omega)]
    exact ⟨g, rfl, x, fun u hu => H u (by omega)⟩
  | succ d ih =>
    intro s fuel g hd hf x H
    obtain ⟨f, rfl⟩ : ∃ f, fuel = f + 1 := ⟨fuel - 1, by omega⟩
    have hb0 := mvf_b hW (5 - h) (cpl s)
    have r0 := md_l145_lp hW (isW108_tr x hw) hh (M109_tr (by omega) x hM) (f := s) (by omega) 10 0 fz (-1) (by omega) (fz_gt rfl) (by decide) (by
      unfold bmx zmax
      rw [if_pos (by omega)])
    obtain ⟨g2, r1, r2, r3⟩ := ih (s + 1) f (gm_wI g 109 (1024 * h + s) (mvf W (6 - h) (cpl s))) (by omega) (by omega) (exc_wI x (W109_in (by omega))) (fun u hu => by
      by_cases z : u = s
      · rw [z, gI_eq]
      · rw [gI_ne (by omega)]
        exact H u (by omega))
    unfold md_shares_l133
    rw [jg_pos (rgn (by omega)), if_pos (by omega), show md_shares_l145 g (h : Int) (s : Int) fz (-1) 0 = _ from r0, jb1_some, jg_pos (by omega), jl_eq, show (1024 * (h : Int) + (s : Int)).toNat = 1024 * h + s by omega]
    exact ⟨g2, r1, r2, r3⟩
def W_109a (a k : Nat) : Bool := a == 109
theorem W109_a {h : Nat} {g g2 : gm_T} (x : exc (W_109 h) nob g g2) : exc W_109a nob g g2 := exc_mono x (fun a k q => by
  simp only [W_109, Bool.and_eq_true] at q
  exact q.1) (fun _ _ q => q)
theorem md_l127_lp {W : Nat → Nat → Int} (hW : ∀ h x, h < 6 → x < 10 → 0 ≤ W h x ∧ W h x ≤ 300) {g1 : gm_T} (hw : isW108 W g1) : ∀ (d fuel : Nat) (g : gm_T), d ≤ 6 → d < fuel → exc W_109a nob g1 g → (∀ h, d ≤ h → h ≤ 6 → M109 W h g) → ∃ g2, md_shares_l127 fuel ((d : Int) - 1) g = some g2 ∧ exc W_109a nob g1 g2 ∧ ∀ h, h ≤ 6 → M109 W h g2 := by
  intro d
  induction d with
  | zero =>
    intro fuel g hd hf x H
    obtain ⟨f, rfl⟩ : ∃ f, fuel = f + 1 := ⟨fuel - 1, by omega⟩
    unfold md_shares_l127
    rw [jg_pos ⟨by omega, by omega⟩, if_pos (by omega)]
    exact ⟨g, rfl, x, fun h hh => H h (by omega) hh⟩
  | succ d ih =>
    intro fuel g hd hf x H
    obtain ⟨f, rfl⟩ : ∃ f, fuel = f + 1 := ⟨fuel - 1, by omega⟩
    have hwg : isW108 W g := fun a b ha hb => by
      rw [x.1 108 _ rfl]
      exact hw a b ha hb
    obtain ⟨g2, r1, r2, r3⟩ := md_l133_lp hW hwg (h := d) (by omega) (H (d + 1) (by omega) (by omega)) 1024 0 fz g (by omega) (fz_gt rfl) exc_rf (fun u hu => by omega)
    obtain ⟨g3, u1, u2, u3⟩ := ih f g2 (by omega) (by omega) (exc_tr x (W109_a r2)) (fun h h1 h2 => by
      by_cases z : h = d
      · rw [z]
        exact r3
      · exact M109_tr z r2 (H h (by omega) h2))
    unfold md_shares_l127
    rw [show ((d + 1 : Nat) : Int) - 1 = (d : Int) by omega, jg_pos (rgn (by omega)), if_neg (by omega), show md_shares_l133 (d : Int) fz 0 g = _ from r1, jb1_some, show (d : Int) + -1 = (d : Int) - 1 by omega]
    exact ⟨g3, u1, u2, u3⟩
theorem md_l101_lp {g1 : gm_T} : ∀ (d s fuel : Nat) (g : gm_T), s + d = 1024 → d < fuel → exc W_109a nob g1 g → (∀ u, u < s → gm_I g 109 (6144 + u) = 0) → ∃ g2, md_shares_l101 fuel (s : Int) g = some g2 ∧ exc W_109a nob g1 g2 ∧ ∀ u, u < 1024 → gm_I g2 109 (6144 + u) = 0 := by
  intro d
  induction d with
  | zero =>
    intro s fuel g hd hf x H
    obtain ⟨f, rfl⟩ : ∃ f, fuel = f + 1 := ⟨fuel - 1, by omega⟩
    unfold md_shares_l101
    rw [jg_pos (rgn (by omega)), if_neg (by omega)]
    exact ⟨g, rfl, x, fun u hu => H u (by omega)⟩
  | succ d ih =>
    intro s fuel g hd hf x H
    obtain ⟨f, rfl⟩ : ∃ f, fuel = f + 1 := ⟨fuel - 1, by omega⟩
    obtain ⟨g2, r1, r2, r3⟩ := ih (s + 1) f (gm_wI g 109 (6144 + s) 0) (by omega) (by omega) (exc_wI x rfl) (fun u hu => by
      by_cases z : u = s
      · rw [z, gI_eq]
      · rw [gI_ne (by omega)]
        exact H u (by omega))
    unfold md_shares_l101
    rw [jg_pos (rgn (by omega)), if_pos (by omega), jg_pos (by omega), jl_eq, show (6144 + (s : Int)).toNat = 6144 + s by omega]
    exact ⟨g2, r1, r2, r3⟩
theorem md_l220_lp {W : Nat → Nat → Int} (hW : ∀ h x, h < 6 → x < 10 → 0 ≤ W h x ∧ W h x ≤ 300) {g : gm_T} (hw : isW108 W g) {h : Nat} (hh : h < 6) (hM : ∀ h, h ≤ 6 → M109 W h g) {s : Nat} (hs : s < 1024) : ∀ (d x fuel : Nat), x + d = 10 → d < fuel → (∀ y, y < x → (cpl s).testBit y = false → W h y + mvf W (5 - h) (cpl s ||| 2 ^ y) ≠ mvf W (6 - h) (cpl s)) → ∃ b, chx W h (cpl s) b ∧ md_shares_l220 g (s : Int) (h : Int) fuel (x : Int) = some (b : Int) := by
  have b1 := mvf_b hW (6 - h) (cpl s)
  have b0 := mvf_b hW (5 - h) (cpl s)
  intro d
  induction d with
  | zero =>
    intro x fuel hd hf H
    obtain ⟨f, rfl⟩ : ∃ f, fuel = f + 1 := ⟨fuel - 1, by omega⟩
    have e : x = 10 := by omega
    rw [e] at H ⊢
    have hq : mvf W (5 - h) (cpl s) = mvf W (6 - h) (cpl s) := by
      rw [mvf_h hh] at H ⊢
      rcases bmx_w (V := mvf W (5 - h)) (W := W h) (cpl s) 10 with q | ⟨y, y1, y2, y3⟩
      · exact q.symm
      · exact absurd y3 (H y y1 y2)
    unfold md_shares_l220
    rw [show md_goesOn g (h : Int) (s : Int) ((10 : Nat) : Int) = _ from md_on_10 hh (hM (h + 1) (by omega)) hs, jb1_some, jg_pos (by omega), show (1024 * (h : Int) + (s : Int)).toNat = 1024 * h + s by omega, hM h (by omega) s hs, jg_pos ⟨⟨by omega, by omega⟩, by omega, by omega⟩, if_pos hq]
    exact ⟨10, Or.inr ⟨rfl, H⟩, rfl⟩
  | succ d ih =>
    intro x fuel hd hf H
    obtain ⟨f, rfl⟩ : ∃ f, fuel = f + 1 := ⟨fuel - 1, by omega⟩
    have b2 := mvf_b hW (5 - h) (cpl s ||| 2 ^ x)
    have b3 := hW h x hh (by omega)
    unfold md_shares_l220
    cases hb : (cpl s).testBit x with
    | true =>
      rw [md_on_no hs (by omega) hb, jb1_some, jg_pos (by omega), show (1024 * (h : Int) + (s : Int)).toNat = 1024 * h + s by omega, hM h (by omega) s hs, jg_pos ⟨rgk rfl, by omega, by omega⟩, if_neg (by omega)]
      exact ih (x + 1) f (by omega) (by omega) (fun y hy hyb => by
        by_cases z : y = x
        · rw [z, hb] at hyb
          cases hyb
        · exact H y (by omega) hyb)
    | false =>
      rw [(md_on_yes hw hh (hM (h + 1) (by omega)) hs (by omega) hb).1, jb1_some, jg_pos (by omega), show (1024 * (h : Int) + (s : Int)).toNat = 1024 * h + s by omega, hM h (by omega) s hs, jg_pos ⟨⟨by omega, by omega⟩, by omega, by omega⟩]
      by_cases c : W h x + mvf W (5 - h) (cpl s ||| 2 ^ x) = mvf W (6 - h) (cpl s)
      · rw [if_pos c]
        exact ⟨x, Or.inl ⟨by omega, hb, c, H⟩, rfl⟩
      · rw [if_neg c]
        exact ih (x + 1) f (by omega) (by omega) (fun y hy hyb => by
          by_cases z : y = x
          · rw [z]
            exact c
          · exact H y (by omega) hyb)
def W_110 (a k : Nat) : Bool := a == 110
theorem md_l212_lp {W : Nat → Nat → Int} (hW : ∀ h x, h < 6 → x < 10 → 0 ≤ W h x ∧ W h x ≤ 300) {g1 : gm_T} (hw : isW108 W g1) (hM : ∀ h, h ≤ 6 → M109 W h g1) : ∀ (d h fuel : Nat) (g : gm_T) (s : Nat) (bo go : Nat → Nat), h + d = 6 → d < fuel → s < 1024 → cpl s = go h → exc W_110 nob g1 g → shp W h bo go → (∀ i, i < h → gm_I g 110 i = if bo i = 10 then -5 else ((bo i : Nat) : Int)) → ∃ g2 bo2 go2, md_shares_l212 fuel (s : Int) (h : Int) g = some g2 ∧ exc W_110 nob g1 g2 ∧ shp W 6 bo2 go2 ∧ ∀ i, i < 6 → gm_I g2 110 i = if bo2 i = 10 then -5 else ((bo2 i : Nat) : Int) := by
  intro d
  induction d with
  | zero =>
    intro h fuel g s bo go hd hf hs1 hcs x S H
    obtain ⟨f, rfl⟩ : ∃ f, fuel = f + 1 := ⟨fuel - 1, by omega⟩
    unfold md_shares_l212
    rw [jg_pos (rgn (by omega)), if_neg (by omega)]
    have e : h = 6 := by omega
    rw [e] at S H
    exact ⟨g, bo, go, rfl, x, S, H⟩
  | succ d ih =>
    intro h fuel g s bo go hd hf hs1 hcs x S H
    obtain ⟨f, rfl⟩ : ∃ f, fuel = f + 1 := ⟨fuel - 1, by omega⟩
    have hwg : isW108 W g := fun a b ha hb => by
      rw [x.1 108 _ rfl]
      exact hw a b ha hb
    have hMg : ∀ h, h ≤ 6 → M109 W h g := fun h hh s hs => by
      rw [x.1 109 _ rfl]
      exact hM h hh s hs
    obtain ⟨b, b1, b2⟩ := md_l220_lp hW hwg (h := h) (by omega) hMg hs1 10 0 fz (by omega) (fz_gt rfl) (fun y hy => by omega)
    rw [hcs] at b1
    have hb10 : b ≤ 10 := by
      rcases b1 with ⟨q, -⟩ | ⟨q, -⟩ <;> omega
    obtain ⟨bo', hbo⟩ : ∃ bo' : Nat → Nat, bo' = fun i => if i = h then b else bo i := ⟨_, rfl⟩
    obtain ⟨go', hgo⟩ : ∃ go' : Nat → Nat, go' = fun i => if i = h + 1 then (if b = 10 then go h else go h ||| 2 ^ b) else go i := ⟨_, rfl⟩
    have eb : bo' h = b := by rw [hbo]; exact if_pos rfl
    have eg : go' (h + 1) = if b = 10 then go h else go h ||| 2 ^ b := by rw [hgo]; exact if_pos rfl
    have ob : ∀ i, i ≠ h → bo' i = bo i := fun i hi => by rw [hbo]; exact if_neg hi
    have og : ∀ i, i ≠ h + 1 → go' i = go i := fun i hi => by rw [hgo]; exact if_neg hi
    have S2 : shp W (h + 1) bo' go' := ⟨by rw [og 0 (by omega)]; exact S.1, fun i hi => by
      by_cases z : i = h
      · rw [z, eb, eg, og h (by omega)]
        exact ⟨b1, rfl⟩
      · rw [ob i z, og i (by omega), og (i + 1) (by omega)]
        exact S.2 i (by omega)⟩
    have hg3 : ∀ v, v = (if b = 10 then (-5 : Int) else (b : Int)) → ∀ i, i < h + 1 → gm_I (gm_wI g 110 h v) 110 i = if bo' i = 10 then -5 else ((bo' i : Nat) : Int) := fun v hv i hi => by
      by_cases z : i = h
      · rw [z, gI_eq, eb, hv]
      · rw [gI_ne z, ob i z]
        exact H i (by omega)
    unfold md_shares_l212
    rw [jg_pos (rgn (by omega)), if_pos (by omega), show md_shares_l220 g (s : Int) (h : Int) fz 0 = _ from b2, jb1_some, jg_pos (rgn (by omega))]
    by_cases z : b = 10
    · obtain ⟨g2, bo2, go2, r1, r2, r3, r4⟩ := ih (h + 1) f (gm_wI g 110 h (-5)) s bo' go' (by omega) (by omega) hs1 (by rw [eg, if_pos z]; exact hcs) (exc_wI x rfl) S2 (hg3 _ (by rw [if_pos z]))
      rw [if_pos (by omega), jb1_some, jg_pos (by omega), jl_eq, Int.toNat_natCast, jg_pos (rgn (by omega)), if_pos (by omega)]
      exact ⟨g2, bo2, go2, r1, r2, r3, r4⟩
    · have hbx : b < 10 := by omega
      have hsb : s.testBit b = true := by
        rcases b1 with ⟨-, q2, -⟩ | ⟨q, -⟩
        · rw [← hcs, cpl_bit, decide_eq_true hbx, Bool.true_and] at q2
          cases q : s.testBit b with
          | true => rfl
          | false =>
            rw [q] at q2
            cases q2
        · exact absurd q z
      obtain ⟨g2, bo2, go2, r1, r2, r3, r4⟩ := ih (h + 1) f (gm_wI g 110 h (b : Int)) (ndf s (2 ^ b)) bo' go' (by omega) (by omega) (ndf_1024 hs1) (by rw [eg, if_neg z, cpl_take hbx hsb, hcs]) (exc_wI x rfl) S2 (hg3 _ (by rw [if_neg z]))
      rw [if_neg (by omega), jb1_some, jg_pos (by omega), jl_eq, Int.toNat_natCast, jg_pos (rgn (by omega)), if_neg (by omega), jl_eq, zSl_1 (by omega), zA_not (by omega)]
      exact ⟨g2, bo2, go2, r1, r2, r3, r4⟩
