/-! Rivals: the first other fit that is no worse. -/
/-- a fit of a's edge k that isn't (b, l) -/
def oth (n : Nat) (g : gm_T) (a k b l c t : Nat) : Prop := c < n ∧ (t : Int) < mE g c ∧ isF g a k c t ∧ ¬ (c = b ∧ t = l)
def rvs (n : Nat) (g : gm_T) (a k b l : Nat) (v r : Int) : Prop := (r = -1 ∧ ∀ c t, oth n g a k b l c t → scv g a k c t (tn g a k c t) < v) ∨ ∃ c t, oth n g a k b l c t ∧ v ≤ scv g a k c t (tn g a k c t) ∧ r = 10 * (c : Int) + (t : Int) ∧ ∀ c2 t2, oth n g a k b l c2 t2 → ky g a k c t ≤ ky g a k c2 t2
theorem rvs_uniq {n : Nat} {g : gm_T} (I : I_fit n g) {a k b l : Nat} (ha : a < n) (hk : (k : Int) < mE g a) {v r r2 : Int} (h : rvs n g a k b l v r) (h2 : rvs n g a k b l v r2) : r = r2 := by
  rcases h with ⟨rfl, h⟩ | ⟨c, t, o1, o2, rfl, o3⟩
  · rcases h2 with ⟨rfl, -⟩ | ⟨c, t, o1, o2, -, -⟩
    · rfl
    · have := h c t o1
      omega
  · rcases h2 with ⟨rfl, h2⟩ | ⟨c2, t2, p1, p2, rfl, p3⟩
    · have := h2 c t o1
      omega
    · have q1 := o3 c2 t2 p1
      have q2 := p3 c t o1
      have q3 := ky_inj I ha o1.1 p1.1 hk o1.2.1 p1.2.1 (by omega)
      rw [q3.1, q3.2]
theorem rvs_in {n : Nat} {g : gm_T} (I : I_fit n g) {a k b l : Nat} {v r : Int} (h : rvs n g a k b l v r) : -1 ≤ r ∧ r ≤ 999 := by
  have h30 := I.1.2.2
  rcases h with ⟨rfl, -⟩ | ⟨c, t, o1, -, rfl, -⟩
  · decide
  · have h8 := ((I.2.1) c o1.1).1.2.2
    obtain ⟨o1, o2, -⟩ := o1
    unfold mE at o2
    omega
/-- what first is, in the class's loops -/
def rvi (n : Nat) (g : gm_T) (a k b l B L : Nat) (W first : Int) : Prop := first ≤ W ∧ (∀ c t, seen B L c t → oth n g a k b l c t → first ≤ ky g a k c t) ∧ (first = W ∨ ∃ c t, oth n g a k b l c t ∧ first = ky g a k c t)
theorem seen_S {B L c t : Nat} (h : seen B (L + 1) c t) : seen B L c t ∨ (c = B ∧ t = L) := by
  rcases h with h | ⟨h1, h2⟩
  · exact Or.inl (Or.inl h)
  · by_cases he : t = L
    · exact Or.inr ⟨h1, he⟩
    · exact Or.inl (Or.inr ⟨h1, by omega⟩)
theorem rvi_in {n : Nat} {g : gm_T} (I : I_fit n g) {a k b l B L : Nat} (ha : a < n) (hk : (k : Int) < mE g a) {W first : Int} (hW : 0 ≤ W ∧ W ≤ 50000) (h : rvi n g a k b l B L W first) : 0 ≤ first ∧ first ≤ 50000 := by
  obtain ⟨h1, -, h3⟩ := h
  rcases h3 with rfl | ⟨c, t, o, rfl⟩
  · exact hW
  · have := (ky_in I ha o.1 hk o.2.1).1
    omega
theorem tf_tn {g : gm_T} {a k b l : Nat} (h : tn g a k b l ≠ -1) : tf g a k b l = tn g a k b l := by
  unfold tn at *
  split
  · rfl
  · rename_i q
    rw [if_neg q] at h
    exact absurd rfl h
theorem cf_rival_row {n : Nat} {g : gm_T} (I : I_fit n g) {a k b l B : Nat} (ha : a < n) (hk : (k : Int) < mE g a) (hb : b < n) (hl : (l : Int) < mE g b) (hB : B < n) {own W c32 : Int} (hown : own = (40 - scv g a k b l (tf g a k b l)) * 1000 + 10 * (b : Int) + (l : Int)) (hW : 0 ≤ W ∧ W ≤ 50000) : ∀ (d L fuel : Nat) (first : Int), ((L + d : Nat) : Int) = mE g B → d < fuel → rvi n g a k b l B L W first → ∃ f2, cf_rivalOf_l78 n g (a : Int) (k : Int) own c32 (B : Int) fuel first (L : Int) = some f2 ∧ rvi n g a k b l (B + 1) 0 W f2 := by
  have h30 := I.1.2.2
  have hB8 := ((I.2.1) B hB).1
  have hb8 := ((I.2.1) b hb).1.2.2
  have hEB : mE g B = gm_I g 46 B := rfl
  have hEb : mE g b = gm_I g 46 b := rfl
  have hso := scv_in I.2.1 I.2.2.2.2.1 ha hb hk hl (tf g a k b l)
  intro d
  induction d with
  | zero =>
    intro L fuel first hd hf hR
    obtain ⟨f, rfl⟩ : ∃ f, fuel = f + 1 := ⟨fuel - 1, by omega⟩
    unfold cf_rivalOf_l78
    rw [jg_pos (by omega), Int.toNat_natCast, hB8.1, jg_pos ⟨⟨by omega, by omega⟩, by omega, by omega⟩, if_neg (by omega)]
    refine ⟨first, rfl, hR.1, fun c t hs ho => hR.2.1 c t ?_ ho, hR.2.2⟩
    have := ho.2.1
    rcases hs with hs | hs
    · by_cases he : c = B
      · subst he; exact Or.inr ⟨rfl, by omega⟩
      · exact Or.inl (by omega)
    · omega
  | succ d ih =>
    intro L fuel first hd hf hR
    obtain ⟨f, rfl⟩ : ∃ f, fuel = f + 1 := ⟨fuel - 1, by omega⟩
    have hlt : (L : Int) < mE g B := by omega
    have hsc := scv_in I.2.1 I.2.2.2.2.1 ha hB hk hlt (tf g a k B L)
    have hfi := rvi_in I ha hk hW hR
    have next : ∀ f', rvi n g a k b l B (L + 1) W f' → ∃ f2, cf_rivalOf_l78 n g (a : Int) (k : Int) own c32 (B : Int) f f' ((L : Int) + 1) = some f2 ∧ rvi n g a k b l (B + 1) 0 W f2 := fun f' hf' => ih (L + 1) f f' (by omega) (by omega) hf'
    have stay : (oth n g a k b l B L → first ≤ ky g a k B L) → rvi n g a k b l B (L + 1) W first := fun hq => ⟨hR.1, fun c t hs ho => by
      rcases seen_S hs with hs | ⟨rfl, rfl⟩
      · exact hR.2.1 c t hs ho
      · exact hq ho, hR.2.2⟩
    unfold cf_rivalOf_l78
    rw [jg_pos (by omega), Int.toNat_natCast, hB8.1, jg_pos ⟨⟨by omega, by omega⟩, by omega, by omega⟩, if_pos (show (L : Int) < gm_I g 46 B from hlt), jg_pos (by omega), jg_pos (by omega), Int.toNat_natCast, cb_turnFor_eq I.2.1 ha hB hk hlt, jb1_some, cf_scoreOf_eq I.2.1 I.2.2.2.2.1 ha hB hk hlt, jb1_some]
    unfold cf_keyOf
    rw [jb1_some]
    generalize hkey : (40 - scv g a k B L (tf g a k B L)) * 1000 + 10 * (B : Int) + (L : Int) = key
    rw [jg_pos ⟨⟨by omega, by omega⟩, by omega, by omega⟩]
    have hkk : isF g a k B L → key = ky g a k B L := fun hF => by
      rw [← hkey, tf_tn hF.2.1]
      rfl
    by_cases c1 : key = own
    · rw [if_pos c1]
      refine next first (stay fun ho => ?_)
      have : B = b ∧ L = l := by omega
      exact absurd this ho.2.2.2
    · rw [if_neg c1, jg_pos ⟨by omega, by omega⟩]
      by_cases c2 : key < first
      · rw [if_pos c2]
        by_cases hF : isF g a k B L
        · obtain ⟨q1, q2, -⟩ := cf_fit_p I ha hB hk hlt hF
          rw [q1, jb1_some, if_neg q2]
          refine next key ⟨by have := hR.1; omega, fun c t hs ho => ?_, Or.inr ⟨B, L, ⟨hB, hlt, hF, ?_⟩, hkk hF⟩⟩
          · rcases seen_S hs with hs | ⟨rfl, rfl⟩
            · have := hR.2.1 c t hs ho
              omega
            · rw [hkk hF]
              exact Int.le_refl _
          · rintro ⟨rfl, rfl⟩
            exact c1 (by omega)
        · rw [cf_fit_n I ha hB hk hlt hF, jb1_some, if_pos lC_m1]
          exact next first (stay fun ho => absurd ho.2.2.1 hF)
      · rw [if_neg c2]
        exact next first (stay fun ho => by rw [← hkk ho.2.2.1]; omega)
theorem cf_rival_lp {n : Nat} {g : gm_T} (I : I_fit n g) {a k b l : Nat} (ha : a < n) (hk : (k : Int) < mE g a) (hb : b < n) (hl : (l : Int) < mE g b) {own W c14 : Int} (hown : own = (40 - scv g a k b l (tf g a k b l)) * 1000 + 10 * (b : Int) + (l : Int)) (hW : 0 ≤ W ∧ W ≤ 50000) : ∀ (d B fuel : Nat) (first : Int), B + d = n → d < fuel → rvi n g a k b l B 0 W first → ∃ f2, cf_rivalOf_l66 n g (a : Int) (k : Int) own c14 fuel first (B : Int) = some f2 ∧ rvi n g a k b l n 0 W f2 := by
  have h30 := I.1.2.2
  intro d
  induction d with
  | zero =>
    intro B fuel first hd hf hR
    obtain ⟨f, rfl⟩ : ∃ f, fuel = f + 1 := ⟨fuel - 1, by omega⟩
    unfold cf_rivalOf_l66
    rw [I.1.1, jg_pos ⟨rgn (by omega), rgn (by omega)⟩, if_neg (by omega)]
    have hBn : B = n := by omega
    subst hBn
    exact ⟨first, rfl, hR⟩
  | succ d ih =>
    intro B fuel first hd hf hR
    obtain ⟨f, rfl⟩ : ∃ f, fuel = f + 1 := ⟨fuel - 1, by omega⟩
    have hB8 := ((I.2.1) B (by omega)).1.2
    have hE : mE g B = gm_I g 46 B := rfl
    unfold cf_rivalOf_l66
    rw [I.1.1, jg_pos ⟨rgn (by omega), rgn (by omega)⟩, if_pos (by omega)]
    obtain ⟨f2, r1, r2⟩ := cf_rival_row I ha hk hb hl (show B < n by omega) (c32 := c14) hown hW (mE g B).toNat 0 fz first (by omega) (Nat.lt_of_le_of_lt (show (mE g B).toNat ≤ 8 by omega) (fz_gt rfl)) hR
    rw [show ((0 : Nat) : Int) = 0 from rfl] at r1
    rw [r1, jb1_some]
    exact ih (B + 1) f f2 (by omega) (by omega) r2
theorem cf_rivalOf_eq {n : Nat} {g : gm_T} (I : I_fit n g) {a k b l : Nat} (ha : a < n) (hk : (k : Int) < mE g a) (hb : b < n) (hl : (l : Int) < mE g b) : ∃ r, cf_rivalOf n g (a : Int) (k : Int) (b : Int) (l : Int) = some r ∧ rvs n g a k b l (scv g a k b l (tf g a k b l)) r := by
  have h30 := I.1.2.2
  have hb8 := ((I.2.1) b hb).1.2.2
  have hEb : mE g b = gm_I g 46 b := rfl
  have hso := scv_in I.2.1 I.2.2.2.2.1 ha hb hk hl (tf g a k b l)
  unfold cf_rivalOf
  rw [jg_pos (by omega), jg_pos (by omega), Int.toNat_natCast, Int.toNat_natCast, cb_turnFor_eq I.2.1 ha hb hk hl, jb1_some, cf_scoreOf_eq I.2.1 I.2.2.2.2.1 ha hb hk hl, jb1_some]
  unfold cf_keyOf
  rw [jb1_some]
  generalize hv : scv g a k b l (tf g a k b l) = v at *
  generalize hown : (40 - v) * 1000 + 10 * (b : Int) + (l : Int) = own
  have hd : own / 1000 = 40 - v := by omega
  rw [jg_pos (by omega), jl_eq, jl_eq, hd]
  obtain ⟨f2, r1, r2, r3, r4⟩ := cf_rival_lp I ha hk hb hl (own := own) (W := (40 - v) * 1000 + 1000) (c14 := (40 - v) * 1000 + 1000 - 1) (by rw [hv, hown]) (by omega) n 0 fz ((40 - v) * 1000 + 1000) (by omega) (Nat.lt_of_le_of_lt h30 (fz_gt rfl)) ⟨Int.le_refl _, fun c t hs => by rcases hs with hs | hs <;> omega, Or.inl rfl⟩
  rw [show ((0 : Nat) : Int) = 0 from rfl] at r1
  rw [show (40 - v) * 1000 + 1000 - 1 + 1 = (40 - v) * 1000 + 1000 by omega, r1, jb1_some]
  have hfi := rvi_in I ha hk (show 0 ≤ (40 - v) * 1000 + 1000 ∧ (40 - v) * 1000 + 1000 ≤ 50000 by omega) ⟨r2, r3, r4⟩
  rw [jg_pos ⟨⟨by omega, by omega⟩, by omega, by omega⟩]
  have hall : ∀ c t, oth n g a k b l c t → f2 ≤ ky g a k c t := fun c t ho => r3 c t (Or.inl ho.1) ho
  by_cases c1 : f2 ≤ (40 - v) * 1000 + 1000 - 1
  · rw [if_pos c1, jg_pos (by omega)]
    rcases r4 with r4 | ⟨c, t, o, r4⟩
    · omega
    · obtain ⟨y1, y2, y3⟩ := ky_in I ha o.1 hk o.2.1
      refine ⟨_, rfl, Or.inr ⟨c, t, o, ?_, ?_, fun c2 t2 o2 => by rw [← r4]; exact hall c2 t2 o2⟩⟩
      · have hz : ky g a k c t = (40 - scv g a k c t (tn g a k c t)) * 1000 + 10 * (c : Int) + (t : Int) := rfl
        have hc0 : (0 : Int) ≤ 10 * (c : Int) + (t : Int) := by omega
        omega
      · rw [r4, y2]
  · rw [if_neg c1]
    refine ⟨-1, rfl, Or.inl ⟨rfl, fun c t o => ?_⟩⟩
    have h1 := hall c t o
    obtain ⟨y1, y2, y3⟩ := ky_in I ha o.1 hk o.2.1
    have hc30 := o.1
    have hz : ky g a k c t = (40 - scv g a k c t (tn g a k c t)) * 1000 + 10 * (c : Int) + (t : Int) := rfl
    omega
theorem md_other_lp {n : Nat} {g : gm_T} (I : I_fit n g) {a k b l : Nat} (ha : a < n) (hk : (k : Int) < mE g a) (hb : b < n) (hl : (l : Int) < mE g b) {v : Int} (hv : 0 ≤ v ∧ v ≤ 32) {g1 : gm_T} {m : Nat} (h42 : gm_I g1 44 42 = (m : Int)) (hL : lS (fitP g a k n 0) m (kf g1)) (hM : lM g a k n 0 m g1) (hm : m ≤ 240) : ∀ (d i fuel : Nat), i + d = m → d < fuel → (∀ j, j < i → gm_I g1 76 j = 10 * (b : Int) + (l : Int)) → ∃ r, md_other_l9 g1 (b : Int) (l : Int) v fuel (i : Int) = some (r, g1) ∧ rvs n g a k b l v r := by
  have h30 := I.1.2.2
  have hb8 := ((I.2.1) b hb).1.2.2
  have hEb : mE g b = gm_I g 46 b := rfl
  have hix : ∀ c t, oth n g a k b l c t → ∃ j, j < m ∧ kf g1 j = ky g a k c t ∧ gm_I g1 76 j = 10 * (c : Int) + (t : Int) ∧ gm_I g1 77 j = scv g a k c t (tn g a k c t) := by
    intro c t o
    obtain ⟨j, hj, e⟩ := hL.2.2 (ky g a k c t) ⟨c, t, Or.inl o.1, o.2.1, o.2.2.1, rfl⟩
    obtain ⟨c2, t2, s1, s2, s3, s4, s5⟩ := hM j hj
    have hkj : kf g1 j = ky g a k c2 t2 := by
      unfold kf ky
      rw [s4, s5]
      omega
    have hcn : c2 < n := by rcases s1 with s1 | s1 <;> omega
    have := ky_inj I ha hcn o.1 hk s2 o.2.1 (by rw [← hkj, e])
    obtain ⟨rfl, rfl⟩ := this
    exact ⟨j, hj, e, s4, s5⟩
  have hnoth : ∀ j, j < m → gm_I g1 76 j ≠ 10 * (b : Int) + (l : Int) → ∃ c t, oth n g a k b l c t ∧ gm_I g1 76 j = 10 * (c : Int) + (t : Int) ∧ gm_I g1 77 j = scv g a k c t (tn g a k c t) ∧ kf g1 j = ky g a k c t := by
    intro j hj hne
    obtain ⟨c2, t2, s1, s2, s3, s4, s5⟩ := hM j hj
    have hcn : c2 < n := by rcases s1 with s1 | s1 <;> omega
    refine ⟨c2, t2, ⟨hcn, s2, s3, ?_⟩, s4, s5, ?_⟩
    · rintro ⟨rfl, rfl⟩
      exact hne s4
    · unfold kf ky
      rw [s4, s5]
      omega
  have hne8 : ∀ c t, oth n g a k b l c t → 10 * (c : Int) + (t : Int) ≠ 10 * (b : Int) + (l : Int) := by
    intro c t o he
    have hc8 := ((I.2.1) c o.1).1.2.2
    have hEc : mE g c = gm_I g 46 c := rfl
    have := o.2.1
    exact o.2.2.2 ⟨by omega, by omega⟩
  intro d
  induction d with
  | zero =>
    intro i fuel hd hf hown
    obtain ⟨f, rfl⟩ : ∃ f, fuel = f + 1 := ⟨fuel - 1, by omega⟩
    unfold md_other_l9
    rw [h42, jg_pos ⟨rgn (by omega), rgn (by omega)⟩, if_neg (by omega)]
    refine ⟨-1, rfl, Or.inl ⟨rfl, fun c t o => ?_⟩⟩
    obtain ⟨j, hj, -, e, -⟩ := hix c t o
    exact absurd (by rw [← e, hown j (by omega)]) (hne8 c t o)
  | succ d ih =>
    intro i fuel hd hf hown
    obtain ⟨f, rfl⟩ : ∃ f, fuel = f + 1 := ⟨fuel - 1, by omega⟩
    obtain ⟨c0, t0, u1, u2, u3, u4, u5⟩ := hM i (by omega)
    have hc0 : c0 < n := by rcases u1 with u1 | u1 <;> omega
    have hs0 := scv_in I.2.1 I.2.2.2.2.1 ha hc0 hk u2 (tn g a k c0 t0)
    have hc8 := ((I.2.1) c0 hc0).1.2.2
    have hEc : mE g c0 = gm_I g 46 c0 := rfl
    unfold md_other_l9
    rw [h42, jg_pos ⟨rgn (by omega), rgn (by omega)⟩, if_pos (by omega), jg_pos (by omega), Int.toNat_natCast, jg_pos ⟨⟨by omega, by omega⟩, by omega, by omega⟩]
    by_cases c1 : gm_I g1 77 i < v
    · rw [if_pos c1]
      refine ⟨-1, rfl, Or.inl ⟨rfl, fun c t o => ?_⟩⟩
      obtain ⟨j, hj, e1, e2, e3⟩ := hix c t o
      have hji : i ≤ j := by
        rcases Nat.lt_or_ge j i with q | q
        · exact absurd (by rw [← e2, hown j q]) (hne8 c t o)
        · exact q
      by_cases he : j = i
      · rw [← e3, he]; exact c1
      · have h1 := hL.1 i j (by omega) hj
        have hc30 := o.1
        have h8c := ((I.2.1) c o.1).1.2.2
        have hEc2 : mE g c = gm_I g 46 c := rfl
        have := o.2.1
        unfold kf at h1
        rw [e2, e3] at h1
        omega
    · rw [if_neg c1, jg_pos ⟨⟨by omega, by omega⟩, by omega, by omega⟩]
      by_cases c2 : gm_I g1 76 i = 10 * (b : Int) + (l : Int)
      · rw [if_pos c2]
        exact ih (i + 1) f (by omega) (by omega) (fun j hj => by
          by_cases he : j = i
          · rw [he]; exact c2
          · exact hown j (by omega))
      · rw [if_neg c2]
        obtain ⟨c, t, o, e1, e2, e3⟩ := hnoth i (by omega) c2
        refine ⟨_, rfl, Or.inr ⟨c, t, o, by omega, e1, fun c3 t3 o3 => ?_⟩⟩
        obtain ⟨j, hj, v1, v2, v3⟩ := hix c3 t3 o3
        have hji : i ≤ j := by
          rcases Nat.lt_or_ge j i with q | q
          · exact absurd (by rw [← v2, hown j q]) (hne8 c3 t3 o3)
          · exact q
        rw [← e3, ← v1]
        by_cases he : j = i
        · rw [he]; exact Int.le_refl _
        · have := hL.1 i j (by omega) hj
          omega
theorem md_other_eq {n : Nat} {g : gm_T} (I : I_fit n g) {a k b l : Nat} (ha : a < n) (hk : (k : Int) < mE g a) (hb : b < n) (hl : (l : Int) < mE g b) {v : Int} (hv : 0 ≤ v ∧ v ≤ 32) : ∃ r g2, md_other g (a : Int) (k : Int) (b : Int) (l : Int) v = some (r, g2) ∧ rvs n g a k b l v r ∧ exc W_list nob g g2 := by
  obtain ⟨m, g1, r1, r2, r3, r4, r5, r6⟩ := md_lists_eq I ha hk
  obtain ⟨r, s1, s2⟩ := md_other_lp I ha hk hb hl hv r2 r3 r4 r5 m 0 fz (by omega) (Nat.lt_of_le_of_lt r5 (fz_gt rfl)) (fun j hj => by omega)
  unfold md_other
  rw [r1, jb1_some]
  exact ⟨r, g1, s1, s2, r6⟩
-- both ways: the score is the same
theorem tf_inv (g : gm_T) (a k b l : Nat) : tf g b l a k = if tf g a k b l = -1 then -1 else (4 - tf g a k b l) % 4 := by
  unfold tf
  generalize wX g a k = x
  generalize wY g a k = y
  generalize wX g b l = u
  generalize wY g b l = v
  by_cases h0 : u = -x ∧ v = -y
  · rw [if_pos h0, if_pos (show x = -u ∧ y = -v by omega)]
    decide
  · rw [if_neg h0, if_neg (show ¬ (x = -u ∧ y = -v) by omega)]
    by_cases h1 : -v = -x ∧ u = -y
    · rw [if_pos h1]
      by_cases q1 : -y = -u ∧ x = -v
      · exact absurd (show u = -x ∧ v = -y by omega) h0
      · by_cases q2 : -x = -u ∧ -y = -v
        · exact absurd (show u = -x ∧ v = -y by omega) h0
        · rw [if_neg q1, if_neg q2, if_pos (show y = -u ∧ -x = -v by omega)]
          decide
    · rw [if_neg h1]
      by_cases h2 : -u = -x ∧ -v = -y
      · rw [if_pos h2]
        by_cases q1 : -y = -u ∧ x = -v
        · exact absurd (show u = -x ∧ v = -y by omega) h0
        · rw [if_neg q1, if_pos (show -x = -u ∧ -y = -v by omega)]
          decide
      · rw [if_neg h2]
        by_cases h3 : v = -x ∧ -u = -y
        · rw [if_pos h3, if_pos (show -y = -u ∧ x = -v by omega)]
          decide
        · rw [if_neg h3, if_neg (show ¬ (-y = -u ∧ x = -v) by omega), if_neg (show ¬ (-x = -u ∧ -y = -v) by omega), if_neg (show ¬ (y = -u ∧ -x = -v) by omega)]
          decide
theorem tn_inv (g : gm_T) (a k b l : Nat) : tn g b l a k = if tn g a k b l = -1 then -1 else (4 - tn g a k b l) % 4 := by
  unfold tn
  by_cases h : gm_I g 56 a = gm_I g 56 b
  · rw [if_pos h, if_pos h.symm]
    exact tf_inv g a k b l
  · rw [if_neg h, if_neg (fun q => h q.symm)]
    rfl
theorem scv_sym {n : Nat} {g : gm_T} (I : I_fit n g) {a k b l : Nat} (ha : a < n) (hk : (k : Int) < mE g a) (hb : b < n) (hl : (l : Int) < mE g b) (ht : tn g a k b l ≠ -1) : scv g b l a k (tf g b l a k) = scv g a k b l (tn g a k b l) := by
  have htf := tf_tn ht
  have hti := tn_in g a k b l
  have h1 := tf_inv g a k b l
  rw [htf, if_neg ht] at h1
  rw [h1]
  obtain ⟨-, hv, -, -, hlk, -, hsy⟩ := I
  obtain ⟨-, c4, -, -, ⟨-, t1, t2⟩, ⟨-, s1, s2⟩, -⟩ := hv a ha
  obtain ⟨-, d4, -, -, ⟨-, u1, u2⟩, ⟨-, v1, v2⟩, -⟩ := hv b hb
  obtain ⟨-, -, ⟨-, c5, c6⟩⟩ := c4 k hk
  obtain ⟨-, -, ⟨-, d5, d6⟩⟩ := d4 l hl
  have hs := hsy (mC g a k).toNat (mC g b l).toNat (by unfold mC; omega) (by unfold mC; omega)
  unfold scv
  have e1 : (10 * mC g a k + mC g b l).toNat = 10 * (mC g a k).toNat + (mC g b l).toNat := by unfold mC; omega
  have e2 : (10 * mC g b l + mC g a k).toNat = 10 * (mC g b l).toNat + (mC g a k).toNat := by unfold mC; omega
  rw [e1, e2, hs]
  have e3 : zabs (gm_I g 54 b - gm_I g 54 a) = zabs (gm_I g 54 a - gm_I g 54 b) := by
    unfold zabs
    split <;> split <;> omega
  rw [e3]
  congr 1
  by_cases q : gm_I g 55 a < 0 ∨ gm_I g 55 b < 0
  · rw [if_pos q, if_pos q.symm]
  · rw [if_neg q, if_neg (fun z => q z.symm), zA_3 (by omega), zA_3 (by omega)]
    by_cases q2 : gm_I g 55 a = (gm_I g 55 b + 2 * tn g a k b l) % 4
    · rw [if_pos q2, if_pos (by omega)]
    · rw [if_neg q2, if_neg (by omega)]
theorem md_rivalOf_eq {n : Nat} {g : gm_T} (I : I_fit n g) {a k b l : Nat} (ha : a < n) (hk : (k : Int) < mE g a) (hb : b < n) (hl : (l : Int) < mE g b) (hF : isF g a k b l) : ∃ r1 r2 g2, md_rivalOf g (a : Int) (k : Int) (b : Int) (l : Int) = some (if r1 = -1 then (if r2 = -1 then -5 else 1000 * (b : Int) + r2) else 1000 * (a : Int) + r1, g2) ∧ rvs n g a k b l (scv g a k b l (tn g a k b l)) r1 ∧ rvs n g b l a k (scv g a k b l (tn g a k b l)) r2 ∧ exc W_list nob g g2 := by
  have h30 := I.1.2.2
  have hs := scv_in I.2.1 I.2.2.2.2.1 ha hb hk hl (tn g a k b l)
  obtain ⟨r1, g1, e1, e2, e3⟩ := md_other_eq I ha hk hb hl hs
  have e := keepF_list e3
  have I1 := I_fit_tr e I
  obtain ⟨r2, g2, f1, f2, f3⟩ := md_other_eq I1 hb (show (l : Int) < mE g1 b by rw [k_mE e]; exact hl) ha (show (k : Int) < mE g1 a by rw [k_mE e]; exact hk) hs
  have f2' : rvs n g b l a k (scv g a k b l (tn g a k b l)) r2 := by
    unfold rvs oth ky at *
    simp only [k_mE e, k_isF e, k_scv e, k_tn e] at f2
    exact f2
  have b1 := rvs_in I e2
  have b2 := rvs_in I f2'
  unfold md_rivalOf
  rw [md_scoreOf_eq h30 I.2.1 I.2.2.2.2.1 I.2.2.2.2.2.1 ha hb hF.1 hk hl hF.2.1, jb1_some, e1, jb2_some]
  by_cases c1 : r1 = -1
  · rw [if_pos c1, jg_pos ⟨by omega, by omega⟩, f1, jb2_some, jb2_some, jg_pos ⟨by omega, by omega⟩, if_pos c1, jg_pos ⟨by omega, by omega⟩]
    refine ⟨r1, r2, g2, ?_, e2, f2', exc_tr e3 f3⟩
    rw [if_pos c1]
    by_cases c2 : r2 = -1
    · rw [if_pos c2, if_pos c2]
    · rw [if_neg c2, if_neg c2]
  · rw [if_neg c1, jg_pos ⟨by omega, by omega⟩, jb2_some, jg_pos ⟨by omega, by omega⟩, if_neg c1]
    exact ⟨r1, r2, g1, by rw [if_neg c1], e2, f2', e3⟩
theorem op_rival {n : Nat} {g : gm_T} (I : I_fit n g) {a e b f : Int} (ha : rg a) (he : rg e) (hb : rg b) (hf : rg f) : ∃ r g2, cw_rival n g a e b f = some r ∧ md_rival g a e b f = some (r, g2) ∧ exc W_list nob g g2 := by
  have hn := I.1
  have hv := I.2.1
  unfold cw_rival md_rival
  simp only [md_isEdge_eq hn hv ha he, md_isEdge_eq hn hv hb hf, jb_tst]
  by_cases h : isE n g a e ∧ isE n g b f
  · obtain ⟨h1, h2⟩ := h
    rw [cw_refuse_p I ha he hb hf h1 h2, if_pos h1, if_pos h2, jg_pos ⟨ha, hb⟩, jb1_some]
    by_cases hab : a = b
    · rw [if_pos hab, if_pos hab, jg_pos (rgk rfl), if_neg (by decide)]
      exact ⟨_, g, rfl, rfl, exc_rf⟩
    · rw [if_neg hab, if_neg hab, jg_pos (rgk rfl), if_pos rfl]
      obtain ⟨c, k, rfl, rfl, hc, hk⟩ := isE_nat h1
      obtain ⟨d, l, rfl, rfl, hd, hl⟩ := isE_nat h2
      by_cases hF : isF g c k d l
      · obtain ⟨q1, q2, q3⟩ := cf_fit_p I hc hd hk hl hF
        obtain ⟨r1, r2, g2, m1, m2, m3, m4⟩ := md_rivalOf_eq I hc hk hd hl hF
        obtain ⟨s1, p1, p2⟩ := cf_rivalOf_eq I hc hk hd hl
        obtain ⟨s2, p3, p4⟩ := cf_rivalOf_eq I hd hl hc hk
        rw [tf_tn hF.2.1] at p2
        rw [scv_sym I hc hk hd hl hF.2.1] at p4
        have e1 := rvs_uniq I hc hk p2 m2
        have e2 := rvs_uniq I hd hl p4 m3
        subst e1 e2
        have b1 := rvs_in I p2
        have b2 := rvs_in I p4
        rw [q1, jb1_some, if_neg q2, p1, jb1_some, jg_pos ⟨by omega, by omega⟩, md_fit_p I hc hd hk hl hF, jb1_some, jg_pos (rgk rfl), if_neg n10, m1, jb2_some]
        by_cases c1 : s1 = -1
        · rw [if_pos (show s1 < 0 by omega), if_pos c1, p3, jb1_some, jg_pos ⟨by omega, by omega⟩]
          by_cases c2 : s2 = -1
          · rw [if_pos (show s2 < 0 by omega), if_pos c2]
            exact ⟨_, g2, rfl, rfl, m4⟩
          · rw [if_neg (show ¬ s2 < 0 by omega), if_neg c2]
            exact ⟨_, g2, rfl, rfl, m4⟩
        · rw [if_neg (show ¬ s1 < 0 by omega), if_neg c1]
          exact ⟨_, g2, rfl, rfl, m4⟩
      · rw [cf_fit_n I hc hd hk hl hF, jb1_some, if_pos lC_m1, md_fit_n I hc hd hk hl hF, jb1_some, jg_pos (rgk rfl), if_pos rfl]
        exact ⟨_, g, rfl, rfl, exc_rf⟩
  · rw [cw_refuse_n I ha he hb hf h, jb1_some, jg_pos (rgk rfl), if_neg (by decide)]
    refine ⟨_, g, rfl, ?_, exc_rf⟩
    by_cases h1 : isE n g a e
    · rw [if_pos h1, if_neg (fun q => h ⟨h1, q⟩)]
    · rw [if_neg h1]
/-- best both ways -/
def isB (n : Nat) (g : gm_T) (a k b l : Nat) : Prop := isF g a k b l ∧ rvs n g a k b l (scv g a k b l (tn g a k b l)) (-1) ∧ rvs n g b l a k (scv g a k b l (tn g a k b l)) (-1)
theorem cf_best_eq {n : Nat} {g : gm_T} (I : I_fit n g) {a k b l : Nat} (ha : a < n) (hk : (k : Int) < mE g a) (hb : b < n) (hl : (l : Int) < mE g b) : cf_isBestBothWays n g (a : Int) (k : Int) (b : Int) (l : Int) = some (@ite _ (isB n g a k b l) (gd _) 1 0) := by
  unfold cf_isBestBothWays
  by_cases hF : isF g a k b l
  · obtain ⟨q1, q2, q3⟩ := cf_fit_p I ha hb hk hl hF
    obtain ⟨s1, p1, p2⟩ := cf_rivalOf_eq I ha hk hb hl
    obtain ⟨s2, p3, p4⟩ := cf_rivalOf_eq I hb hl ha hk
    rw [tf_tn hF.2.1] at p2
    rw [scv_sym I ha hk hb hl hF.2.1] at p4
    have b1 := rvs_in I p2
    have b2 := rvs_in I p4
    rw [q1, jb1_some, if_neg q2, p1, jb1_some, jg_pos ⟨by omega, by omega⟩]
    by_cases c1 : s1 = -1
    · rw [if_pos (show s1 < 0 by omega), p3, jb1_some, jg_pos ⟨by omega, by omega⟩]
      by_cases c2 : s2 = -1
      · rw [if_pos (show s2 < 0 by omega), @if_pos _ (gd _) ⟨hF, c1 ▸ p2, c2 ▸ p4⟩]
      · rw [if_neg (show ¬ s2 < 0 by omega), @if_neg _ (gd _) (fun q => c2 (rvs_uniq I hb hl p4 q.2.2))]
    · rw [if_neg (show ¬ s1 < 0 by omega), @if_neg _ (gd _) (fun q => c1 (rvs_uniq I ha hk p2 q.2.1))]
  · rw [cf_fit_n I ha hb hk hl hF, jb1_some, if_pos lC_m1, @if_neg _ (gd _) (fun q => hF q.1)]
theorem md_best_eq {n : Nat} {g : gm_T} (I : I_fit n g) {j : Int} (hj : 0 ≤ j ∧ j < 60) {a k b l : Nat} (ha : a < n) (hk : (k : Int) < mE g a) (hb : b < n) (hl : (l : Int) < mE g b) (e1 : gm_I g 65 j.toNat = (a : Int)) (e2 : gm_I g 66 j.toNat = (k : Int)) (e3 : gm_I g 67 j.toNat = (b : Int)) (e4 : gm_I g 68 j.toNat = (l : Int)) : ∃ g2, md_isBestNow g j = some (@ite _ (isB n g a k b l) (gd _) 1 0, g2) ∧ exc W_list nob g g2 := by
  have h30 := I.1.2.2
  unfold md_isBestNow
  rw [jg_pos hj, e1, e2, e3, e4]
  by_cases hF : isF g a k b l
  · obtain ⟨r1, r2, g2, m1, m2, m3, m4⟩ := md_rivalOf_eq I ha hk hb hl hF
    have b1 := rvs_in I m2
    have b2 := rvs_in I m3
    rw [md_fit_p I ha hb hk hl hF, jb1_some, jg_pos (rgk rfl), if_neg n10, m1, jb2_some]
    by_cases c1 : r1 = -1
    · rw [if_pos c1]
      by_cases c2 : r2 = -1
      · rw [if_pos c2, jg_pos (rgk rfl), if_pos rfl, @if_pos _ (gd _) ⟨hF, c1 ▸ m2, c2 ▸ m3⟩]
        exact ⟨g2, rfl, m4⟩
      · rw [if_neg c2, jg_pos ⟨by omega, by omega⟩, if_neg (by omega), @if_neg _ (gd _) (fun q => c2 (rvs_uniq I hb hl m3 q.2.2))]
        exact ⟨g2, rfl, m4⟩
    · rw [if_neg c1, jg_pos ⟨by omega, by omega⟩, if_neg (by omega), @if_neg _ (gd _) (fun q => c1 (rvs_uniq I ha hk m2 q.2.1))]
      exact ⟨g2, rfl, m4⟩
  · rw [md_fit_n I ha hb hk hl hF, jb1_some, jg_pos (rgk rfl), if_pos rfl, @if_neg _ (gd _) (fun q => hF q.1)]
    exact ⟨g, rfl, exc_rf⟩
