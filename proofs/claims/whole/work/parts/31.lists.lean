/-! Lists of fits, sorted: collect of the class, lists of the reference; fits, fit. -/
def W_list (a k : Nat) : Bool := a == 13 || (a == 44 && k == 42) || a == 76 || a == 77
theorem keepF_list {g g2 : gm_T} (h : exc W_list nob g g2) : keepF g2 = keepF g := keepF_exc h (fun a k hq => by
  cases hw : W_list a k with
  | false => rfl
  | true =>
    exfalso
    unfold W_list at hw
    simp only [Bool.or_eq_true, Bool.and_eq_true, beq_iff_eq] at hw
    rcases hw with ((rfl | ⟨rfl, rfl⟩) | rfl) | rfl <;> exact Bool.noConfusion (show false = true from hq)) (fun _ _ _ => rfl)
def seen (B L b l : Nat) : Prop := b < B ∨ (b = B ∧ l < L)
def ky (g : gm_T) (a k b l : Nat) : Int := (40 - scv g a k b l (tn g a k b l)) * 1000 + 10 * (b : Int) + (l : Int)
def fitP (g : gm_T) (a k B L : Nat) (x : Int) : Prop := ∃ b l, seen B L b l ∧ (l : Int) < mE g b ∧ isF g a k b l ∧ x = ky g a k b l
/-- a sorted list of all that P tells -/
def lS (P : Int → Prop) (m : Nat) (f : Nat → Int) : Prop := (∀ i j, i < j → j < m → f i < f j) ∧ (∀ i, i < m → P (f i)) ∧ ∀ x, P x → ∃ i, i < m ∧ f i = x
def insf (p : Nat) (x : Int) (f : Nat → Int) (i : Nat) : Int := if i < p then f i else if i = p then x else f (i - 1)
theorem lS_cong {P Q : Int → Prop} {m : Nat} {f h : Nat → Int} (hq : ∀ x, Q x ↔ P x) (he : ∀ i, i < m → h i = f i) (H : lS P m f) : lS Q m h := by
  obtain ⟨h1, h2, h3⟩ := H
  refine ⟨fun i j hi hj => ?_, fun i hi => ?_, fun x hx => ?_⟩
  · rw [he i (by omega), he j hj]
    exact h1 i j hi hj
  · rw [he i hi, hq]
    exact h2 i hi
  · obtain ⟨i, hi, e⟩ := h3 x ((hq x).mp hx)
    exact ⟨i, hi, by rw [he i hi, e]⟩
theorem lS_ins {P Q : Int → Prop} {m p : Nat} {f : Nat → Int} {x : Int} (H : lS P m f) (hp : p ≤ m) (h1 : p = 0 ∨ f (p - 1) < x) (h2 : ∀ i, p ≤ i → i < m → x < f i) (hq : ∀ y, Q y ↔ P y ∨ y = x) : lS Q (m + 1) (insf p x f) := by
  obtain ⟨a1, a2, a3⟩ := H
  have low : ∀ i, i < p → f i < x := by
    intro i hi
    rcases h1 with h1 | h1
    · omega
    · by_cases he : i = p - 1
      · rw [he]; exact h1
      · have := a1 i (p - 1) (by omega) (by omega)
        omega
  refine ⟨fun i j hi hj => ?_, fun i hi => ?_, fun y hy => ?_⟩
  · unfold insf
    by_cases c1 : j < p
    · rw [if_pos (show i < p by omega), if_pos c1]
      exact a1 i j hi (by omega)
    · rw [if_neg c1]
      by_cases c2 : j = p
      · rw [if_pos c2, if_pos (show i < p by omega)]
        exact low i (by omega)
      · rw [if_neg c2]
        by_cases c3 : i < p
        · rw [if_pos c3]
          have := low i c3
          have := h2 (j - 1) (by omega) (by omega)
          omega
        · rw [if_neg c3]
          by_cases c4 : i = p
          · rw [if_pos c4]
            exact h2 (j - 1) (by omega) (by omega)
          · rw [if_neg c4]
            exact a1 (i - 1) (j - 1) (by omega) (by omega)
  · rw [hq]
    unfold insf
    split
    · exact Or.inl (a2 i (by omega))
    · split
      · exact Or.inr rfl
      · exact Or.inl (a2 (i - 1) (by omega))
  · rcases (hq y).mp hy with hy | hy
    · obtain ⟨i, hi, e⟩ := a3 y hy
      by_cases c : i < p
      · exact ⟨i, by omega, by unfold insf; rw [if_pos c, e]⟩
      · refine ⟨i + 1, by omega, ?_⟩
        unfold insf
        rw [if_neg (by omega), if_neg (by omega), Nat.add_sub_cancel, e]
    · exact ⟨p, by omega, by unfold insf; rw [if_neg (by omega), if_pos rfl, hy]⟩
theorem lS_uniq {P : Int → Prop} {m m2 : Nat} {f h : Nat → Int} (H : lS P m f) (H2 : lS P m2 h) : m = m2 ∧ ∀ i, i < m → f i = h i := by
  obtain ⟨a1, a2, a3⟩ := H
  obtain ⟨b1, b2, b3⟩ := H2
  have key : ∀ i, i < m → i < m2 → f i = h i := by
    intro i
    induction i using Nat.strongRecOn with
    | _ i ih =>
      intro hi hi2
      rcases Int.lt_trichotomy (f i) (h i) with c | c | c
      · obtain ⟨j, hj, e⟩ := b3 (f i) (a2 i hi)
        have hji : j < i := by
          rcases Nat.lt_trichotomy j i with q | q | q
          · exact q
          · rw [q] at e; omega
          · have := b1 i j q hj; omega
        have e2 := ih j hji (by omega) hj
        have := a1 j i hji hi
        omega
      · exact c
      · obtain ⟨j, hj, e⟩ := a3 (h i) (b2 i hi2)
        have hji : j < i := by
          rcases Nat.lt_trichotomy j i with q | q | q
          · exact q
          · rw [q] at e; omega
          · have := a1 i j q hj; omega
        have e2 := ih j hji hj (by omega)
        have := b1 j i hji hi2
        omega
  have hm : m = m2 := by
    rcases Nat.lt_trichotomy m m2 with c | c | c
    · obtain ⟨j, hj, e⟩ := a3 (h m) (b2 m c)
      have e2 := key j hj (by omega)
      have := b1 j m hj c
      omega
    · exact c
    · obtain ⟨j, hj, e⟩ := b3 (f m2) (a2 m2 c)
      have e2 := key j (by omega) hj
      have := a1 j m2 hj c
      omega
  exact ⟨hm, fun i hi => key i hi (by omega)⟩
theorem ins_at (f : Nat → Int) (x : Int) : ∀ m, ∃ p, p ≤ m ∧ (p = 0 ∨ f (p - 1) ≤ x) ∧ ∀ i, p ≤ i → i < m → x < f i
  | 0 => ⟨0, by omega, Or.inl rfl, fun i _ hi => by omega⟩
  | m + 1 => by
    by_cases h : f m ≤ x
    · exact ⟨m + 1, Nat.le_refl _, Or.inr h, fun i h1 h2 => by omega⟩
    · obtain ⟨p, h1, h2, h3⟩ := ins_at f x m
      refine ⟨p, by omega, h2, fun i hi hm => ?_⟩
      by_cases he : i = m
      · rw [he]; omega
      · exact h3 i hi (by omega)
theorem fitP_no {g : gm_T} {a k B L : Nat} (hF : ¬ isF g a k B L) (x : Int) : fitP g a k B (L + 1) x ↔ fitP g a k B L x := by
  constructor
  · rintro ⟨b, l, h1, h2, h3, h4⟩
    refine ⟨b, l, ?_, h2, h3, h4⟩
    rcases h1 with h1 | ⟨h1, h5⟩
    · exact Or.inl h1
    · by_cases he : l = L
      · subst h1 he; exact absurd h3 hF
      · exact Or.inr ⟨h1, by omega⟩
  · rintro ⟨b, l, h1, h2⟩
    refine ⟨b, l, ?_, h2⟩
    rcases h1 with h1 | ⟨h1, h5⟩
    · exact Or.inl h1
    · exact Or.inr ⟨h1, by omega⟩
theorem fitP_yes {g : gm_T} {a k B L : Nat} (hL : (L : Int) < mE g B) (hF : isF g a k B L) (x : Int) : fitP g a k B (L + 1) x ↔ fitP g a k B L x ∨ x = ky g a k B L := by
  constructor
  · rintro ⟨b, l, h1, h2, h3, h4⟩
    rcases h1 with h1 | ⟨h1, h5⟩
    · exact Or.inl ⟨b, l, Or.inl h1, h2, h3, h4⟩
    · by_cases he : l = L
      · subst h1 he; exact Or.inr h4
      · exact Or.inl ⟨b, l, Or.inr ⟨h1, by omega⟩, h2, h3, h4⟩
  · rintro (⟨b, l, h1, h2⟩ | h)
    · refine ⟨b, l, ?_, h2⟩
      rcases h1 with h1 | ⟨h1, h5⟩
      · exact Or.inl h1
      · exact Or.inr ⟨h1, by omega⟩
    · exact ⟨B, L, Or.inr ⟨rfl, by omega⟩, hL, hF, h⟩
theorem fitP_row {g : gm_T} {a k B L : Nat} (hL : ¬ (L : Int) < mE g B) (x : Int) : fitP g a k (B + 1) 0 x ↔ fitP g a k B L x := by
  constructor
  · rintro ⟨b, l, h1, h2, h3⟩
    refine ⟨b, l, ?_, h2, h3⟩
    rcases h1 with h1 | ⟨h1, h5⟩
    · by_cases he : b = B
      · subst he; exact Or.inr ⟨rfl, by omega⟩
      · exact Or.inl (by omega)
    · omega
  · rintro ⟨b, l, h1, h2⟩
    refine ⟨b, l, Or.inl ?_, h2⟩
    rcases h1 with h1 | ⟨h1, h5⟩ <;> omega
-- the class
theorem cf_insert_lp (key : Int) (hk : rg key) (p : Nat) : ∀ (v fuel : Nat) (g : gm_T), p ≤ v → v < 240 → v < fuel → (p = 0 ∨ gm_I g 13 (p - 1) ≤ key) → (∀ i, p ≤ i → i < v → key < gm_I g 13 i) → (∀ i, i < v → rg (gm_I g 13 i)) → ∃ g2, cf_insert_l2 key fuel (v : Int) g = some ((p : Int), g2) ∧ (∀ i, gm_I g2 13 i = if p < i ∧ i ≤ v then gm_I g 13 (i - 1) else gm_I g 13 i) ∧ exc W_list nob g g2 := by
  intro v
  induction v with
  | zero =>
    intro fuel g hp hv hf h1 h2 h3
    obtain ⟨f, rfl⟩ : ∃ f, fuel = f + 1 := ⟨fuel - 1, by omega⟩
    have hp0 : p = 0 := by omega
    subst hp0
    unfold cf_insert_l2
    refine ⟨g, ?_, fun i => ?_, exc_rf⟩
    · rw [jg_pos (rgk rfl), if_pos (by decide)]
    · rw [if_neg (by omega)]
  | succ v ih =>
    intro fuel g hp hv hf h1 h2 h3
    obtain ⟨f, rfl⟩ : ∃ f, fuel = f + 1 := ⟨fuel - 1, by omega⟩
    unfold cf_insert_l2
    rw [jg_pos ⟨by omega, by omega⟩, if_neg (by omega), jg_pos (by omega), show (((v + 1 : Nat) : Int) - 1).toNat = v by omega, jg_pos ⟨h3 v (by omega), hk⟩]
    by_cases hq : p = v + 1
    · subst hq
      have h1' : gm_I g 13 v ≤ key := by
        rcases h1 with h1 | h1
        · omega
        · exact h1
      rw [if_pos h1']
      exact ⟨g, rfl, fun i => by rw [if_neg (by omega)], exc_rf⟩
    · have h2' := h2 v (by omega) (by omega)
      rw [if_neg (by omega), jg_pos (by omega)]
      simp only [jl_eq, Int.toNat_natCast]
      obtain ⟨g2, e1, e2, e3⟩ := ih f (gm_wI g 13 (v + 1) (gm_I g 13 v)) (by omega) (by omega) (by omega) (by
        rcases h1 with h1 | h1
        · exact Or.inl h1
        · exact Or.inr (by rw [gI_ne (by omega)]; exact h1)) (fun i q1 q2 => by rw [gI_ne (by omega)]; exact h2 i q1 (by omega)) (fun i q => by rw [gI_ne (by omega)]; exact h3 i (by omega))
      refine ⟨g2, ?_, fun i => ?_, exc_tr (exc_wI exc_rf rfl) e3⟩
      · rw [show ((v + 1 : Nat) : Int) + -1 = (v : Int) by omega]
        exact e1
      · rw [e2 i]
        by_cases c : p < i ∧ i ≤ v
        · rw [if_pos c, if_pos (by omega), gI_ne (by omega)]
        · rw [if_neg c]
          by_cases c2 : i = v + 1
          · subst c2
            rw [if_pos (by omega), gI_eq, Nat.add_sub_cancel]
          · rw [if_neg (by omega), gI_ne c2]
theorem cf_insert_eq {g : gm_T} {m p : Nat} {key : Int} (hm : m < 240) (hk : rg key) (hp : p ≤ m) (h1 : p = 0 ∨ gm_I g 13 (p - 1) ≤ key) (h2 : ∀ i, p ≤ i → i < m → key < gm_I g 13 i) (h3 : ∀ i, i < m → rg (gm_I g 13 i)) : ∃ g2, cf_insert g (m : Int) key = some g2 ∧ (∀ i, i ≤ m → gm_I g2 13 i = insf p key (gm_I g 13) i) ∧ exc W_list nob g g2 := by
  obtain ⟨g2, e1, e2, e3⟩ := cf_insert_lp key hk p m fz g hp hm (Nat.lt_trans hm (fz_gt rfl)) h1 h2 h3
  unfold cf_insert
  rw [e1, jb2_some, jg_pos (by omega)]
  simp only [jl_eq, Int.toNat_natCast]
  refine ⟨_, rfl, fun i hi => ?_, exc_tr e3 (exc_wI exc_rf rfl)⟩
  unfold insf
  by_cases c : i < p
  · rw [if_pos c, gI_ne (by omega), e2, if_neg (by omega)]
  · rw [if_neg c]
    by_cases c2 : i = p
    · rw [if_pos c2, c2, gI_eq]
    · rw [if_neg c2, gI_ne c2, e2, if_pos (by omega)]
theorem ky_in {n : Nat} {g : gm_T} (I : I_fit n g) {a k b l : Nat} (ha : a < n) (hb : b < n) (hk : (k : Int) < mE g a) (hl : (l : Int) < mE g b) : (0 ≤ ky g a k b l ∧ ky g a k b l ≤ 41000) ∧ ky g a k b l % 1000 = 10 * (b : Int) + (l : Int) ∧ l < 8 := by
  obtain ⟨hn, hv, -, -, hlk, -, -⟩ := I
  have h1 := scv_in hv hlk ha hb hk hl (tn g a k b l)
  have h2 := (hv b hb).1.2.2
  have h30 := hn.2.2
  unfold mE at hl
  unfold ky
  omega
theorem ky_inj {n : Nat} {g : gm_T} (I : I_fit n g) {a k b l c t : Nat} (ha : a < n) (hb : b < n) (hc : c < n) (hk : (k : Int) < mE g a) (hl : (l : Int) < mE g b) (ht : (t : Int) < mE g c) (h : ky g a k b l = ky g a k c t) : b = c ∧ l = t := by
  obtain ⟨-, h1, h2⟩ := ky_in I ha hb hk hl
  obtain ⟨-, h3, h4⟩ := ky_in I ha hc hk ht
  rw [h] at h1
  omega
theorem seen_lt {n : Nat} {B L b l : Nat} (hB : B < n) (h : seen B L b l) : b < n := by
  rcases h with h | h <;> omega
theorem cf_collect_row {n : Nat} {g : gm_T} (I : I_fit n g) {a k B : Nat} (ha : a < n) (hk : (k : Int) < mE g a) (hB : B < n) : ∀ (d L fuel m : Nat) (g1 : gm_T), ((L + d : Nat) : Int) = mE g B → d < fuel → exc W_list nob g g1 → lS (fitP g a k B L) m (gm_I g1 13) → m ≤ 8 * B + L → ∃ (m2 : Nat) (g2 : gm_T), cf_collect_l17 n (a : Int) (k : Int) (B : Int) fuel (m : Int) (L : Int) g1 = some ((m2 : Int), g2) ∧ lS (fitP g a k (B + 1) 0) m2 (gm_I g2 13) ∧ m2 ≤ 8 * (B + 1) ∧ exc W_list nob g g2 := by
  have h30 := I.1.2.2
  have hB8 := ((I.2.1) B hB).1.2.2
  intro d
  induction d with
  | zero =>
    intro L fuel m g1 hd hf he hL hm
    obtain ⟨f, rfl⟩ : ∃ f, fuel = f + 1 := ⟨fuel - 1, by omega⟩
    have e := keepF_list he
    have I1 := I_fit_tr e I
    have c1 := ((I1.2.1) B hB).1
    have c2 : gm_I g1 46 B = mE g B := k_mE e B
    unfold mE at hd c2
    unfold cf_collect_l17
    rw [jg_pos (by omega), Int.toNat_natCast, c1.1, c2, jg_pos ⟨⟨by omega, by omega⟩, by omega, by omega⟩, if_neg (by omega)]
    exact ⟨m, g1, rfl, lS_cong (fitP_row (by unfold mE; omega)) (fun _ _ => rfl) hL, by omega, he⟩
  | succ d ih =>
    intro L fuel m g1 hd hf he hL hm
    obtain ⟨f, rfl⟩ : ∃ f, fuel = f + 1 := ⟨fuel - 1, by omega⟩
    have e := keepF_list he
    have I1 := I_fit_tr e I
    have c1 := ((I1.2.1) B hB).1
    have c2 : gm_I g1 46 B = mE g B := k_mE e B
    have hlt : (L : Int) < mE g B := by omega
    have hk1 : (k : Int) < mE g1 a := by rw [k_mE e]; exact hk
    have hl1 : (L : Int) < mE g1 B := by rw [k_mE e]; exact hlt
    unfold cf_collect_l17
    rw [jg_pos (by omega), Int.toNat_natCast, c1.1, c2, jg_pos ⟨⟨by omega, by omega⟩, by omega, by have hd' : mE g B ≤ 8 := hB8; omega⟩, if_pos hlt]
    by_cases hF : isF g a k B L
    · have hF1 : isF g1 a k B L := by rw [k_isF e]; exact hF
      obtain ⟨q1, q2, q3⟩ := cf_fit_p I1 ha hB hk1 hl1 hF1
      rw [q1, jb1_some, if_neg q2, q3, jb1_some, cf_scoreOf_eq I1.2.1 I1.2.2.2.2.1 ha hB hk1 hl1, jb1_some]
      unfold cf_keyOf
      rw [jb1_some, k_tn e, k_scv e]
      show ∃ (m2 : Nat) (g2 : gm_T), jb1 (cf_insert g1 (m : Int) (ky g a k B L)) _ = some ((m2 : Int), g2) ∧ _
      obtain ⟨y1, y2, y3⟩ := ky_in I ha hB hk hlt
      have hno : ¬ fitP g a k B L (ky g a k B L) := by
        rintro ⟨b, l, s1, s2, s3, s4⟩
        have := ky_inj I ha hB (seen_lt hB s1) hk hlt s2 s4
        rcases s1 with s1 | s1 <;> omega
      obtain ⟨p, p1, p2, p3⟩ := ins_at (gm_I g1 13) (ky g a k B L) m
      have hin : ∀ i, i < m → rg (gm_I g1 13 i) := by
        intro i hi
        obtain ⟨b, l, s1, s2, s3, s4⟩ := hL.2.1 i hi
        have := (ky_in I ha (seen_lt hB s1) hk s2).1
        rw [s4]
        exact ⟨by omega, by omega⟩
      obtain ⟨g2, f1, f2, f3⟩ := cf_insert_eq (g := g1) (m := m) (p := p) (key := ky g a k B L) (by omega) ⟨by omega, by omega⟩ p1 p2 p3 hin
      rw [f1, jb1_some]
      have hL2 : lS (fitP g a k B (L + 1)) (m + 1) (gm_I g2 13) := by
        refine lS_cong (fun _ => Iff.rfl) (fun i hi => f2 i (by omega)) (lS_ins hL p1 ?_ p3 (fitP_yes hlt hF))
        by_cases hp0 : p = 0
        · exact Or.inl hp0
        · refine Or.inr ?_
          rcases p2 with p2 | p2
          · exact absurd p2 hp0
          · rcases Int.lt_or_eq_of_le p2 with h | h
            · exact h
            · exact absurd (h ▸ hL.2.1 (p - 1) (by omega)) hno
      obtain ⟨m2, g3, r1, r2, r3, r4⟩ := ih (L + 1) f (m + 1) g2 (by omega) (by omega) (exc_tr he f3) hL2 (by omega)
      exact ⟨m2, g3, by rw [← r1]; rfl, r2, r3, r4⟩
    · have hF1 : ¬ isF g1 a k B L := by rw [k_isF e]; exact hF
      rw [cf_fit_n I1 ha hB hk1 hl1 hF1, jb1_some, if_pos lC_m1]
      obtain ⟨m2, g3, r1, r2, r3, r4⟩ := ih (L + 1) f m g1 (by omega) (by omega) he (lS_cong (fitP_no hF) (fun _ _ => rfl) hL) (by omega)
      exact ⟨m2, g3, by rw [← r1]; rfl, r2, r3, r4⟩
theorem cf_collect_lp {n : Nat} {g : gm_T} (I : I_fit n g) {a k : Nat} (ha : a < n) (hk : (k : Int) < mE g a) : ∀ (d B fuel m : Nat) (g1 : gm_T), B + d = n → d < fuel → exc W_list nob g g1 → lS (fitP g a k B 0) m (gm_I g1 13) → m ≤ 8 * B → ∃ (m2 : Nat) (g2 : gm_T), cf_collect_l5 n (a : Int) (k : Int) fuel (m : Int) (B : Int) g1 = some ((m2 : Int), g2) ∧ lS (fitP g a k n 0) m2 (gm_I g2 13) ∧ m2 ≤ 240 ∧ exc W_list nob g g2 := by
  have h30 := I.1.2.2
  intro d
  induction d with
  | zero =>
    intro B fuel m g1 hd hf he hL hm
    obtain ⟨f, rfl⟩ : ∃ f, fuel = f + 1 := ⟨fuel - 1, by omega⟩
    have I1 := I_fit_tr (keepF_list he) I
    unfold cf_collect_l5
    rw [I1.1.1, jg_pos ⟨rgn (by omega), rgn (by omega)⟩, if_neg (by omega)]
    have hBn : B = n := by omega
    subst hBn
    exact ⟨m, g1, rfl, hL, by omega, he⟩
  | succ d ih =>
    intro B fuel m g1 hd hf he hL hm
    obtain ⟨f, rfl⟩ : ∃ f, fuel = f + 1 := ⟨fuel - 1, by omega⟩
    have I1 := I_fit_tr (keepF_list he) I
    have hB8 := ((I.2.1) B (by omega)).1.2
    have hE : mE g B = gm_I g 46 B := rfl
    unfold cf_collect_l5
    rw [I1.1.1, jg_pos ⟨rgn (by omega), rgn (by omega)⟩, if_pos (by omega)]
    obtain ⟨m2, g2, r1, r2, r3, r4⟩ := cf_collect_row I ha hk (show B < n by omega) (mE g B).toNat 0 fz m g1 (by omega) (Nat.lt_of_le_of_lt (show (mE g B).toNat ≤ 8 by omega) (fz_gt rfl)) he hL (by omega)
    rw [show ((0 : Nat) : Int) = 0 from rfl] at r1
    rw [r1, jb2_some]
    obtain ⟨m3, g3, s1, s2, s3, s4⟩ := ih (B + 1) f m2 g2 (by omega) (by omega) r4 r2 r3
    exact ⟨m3, g3, by rw [← s1]; rfl, s2, s3, s4⟩
theorem lS_0 (g : gm_T) (a k : Nat) (f : Nat → Int) : lS (fitP g a k 0 0) 0 f := ⟨fun _ _ _ h => by omega, fun _ h => by omega, by
  rintro x ⟨b, l, h, -⟩
  rcases h with h | h <;> omega⟩
theorem cf_collect_eq {n : Nat} {g : gm_T} (I : I_fit n g) {a k : Nat} (ha : a < n) (hk : (k : Int) < mE g a) : ∃ (m : Nat) (g2 : gm_T), cf_collect n g (a : Int) (k : Int) = some ((m : Int), g2) ∧ lS (fitP g a k n 0) m (gm_I g2 13) ∧ m ≤ 240 ∧ exc W_list nob g g2 := by
  have h30 := I.1.2.2
  obtain ⟨m, g2, r1, r2⟩ := cf_collect_lp I ha hk n 0 fz 0 g (by omega) (Nat.lt_of_le_of_lt h30 (fz_gt rfl)) exc_rf (lS_0 g a k _) (by omega)
  unfold cf_collect
  rw [show ((0 : Nat) : Int) = 0 from rfl] at r1
  rw [r1, jb2_some]
  exact ⟨m, g2, rfl, r2⟩
-- the reference
def kf (g : gm_T) (i : Nat) : Int := (40 - gm_I g 77 i) * 1000 + gm_I g 76 i
def lM (g : gm_T) (a k B L m : Nat) (h : gm_T) : Prop := ∀ i, i < m → ∃ b l, seen B L b l ∧ (l : Int) < mE g b ∧ isF g a k b l ∧ gm_I h 76 i = 10 * (b : Int) + (l : Int) ∧ gm_I h 77 i = scv g a k b l (tn g a k b l)
theorem md_ins_lp (c35 c36 c37 c38 key : Int) (hk : rg key) (p : Nat) : ∀ (v fuel : Nat) (g : gm_T), p ≤ v → v < 240 → v < fuel → (p = 0 ∨ key ≤ gm_I g 77 (p - 1)) → (∀ i, p ≤ i → i < v → gm_I g 77 i < key) → (∀ i, i < v → rg (gm_I g 77 i)) → ∃ g2, md_lists_l63 c35 c36 c37 c38 key fuel (v : Int) g = some ((p : Int), g2) ∧ (∀ i, gm_I g2 77 i = if p < i ∧ i ≤ v then gm_I g 77 (i - 1) else gm_I g 77 i) ∧ (∀ i, gm_I g2 76 i = if p < i ∧ i ≤ v then gm_I g 76 (i - 1) else gm_I g 76 i) ∧ gm_I g2 44 42 = gm_I g 44 42 ∧ exc W_list nob g g2 := by
  intro v
  induction v with
  | zero =>
    intro fuel g hp hv hf h1 h2 h3
    obtain ⟨f, rfl⟩ : ∃ f, fuel = f + 1 := ⟨fuel - 1, by omega⟩
    have hp0 : p = 0 := by omega
    subst hp0
    unfold md_lists_l63
    refine ⟨g, ?_, fun i => ?_, fun i => ?_, rfl, exc_rf⟩
    · rw [jg_pos (rgk rfl), if_pos (by decide)]
    · rw [if_neg (by omega)]
    · rw [if_neg (by omega)]
  | succ v ih =>
    intro fuel g hp hv hf h1 h2 h3
    obtain ⟨f, rfl⟩ : ∃ f, fuel = f + 1 := ⟨fuel - 1, by omega⟩
    unfold md_lists_l63
    rw [jg_pos ⟨by omega, by omega⟩, if_neg (by omega), jg_pos (by omega), show (((v + 1 : Nat) : Int) - 1).toNat = v by omega, jg_pos ⟨h3 v (by omega), hk⟩]
    by_cases hq : p = v + 1
    · subst hq
      have h1' : key ≤ gm_I g 77 v := by
        rcases h1 with h1 | h1
        · omega
        · exact h1
      rw [if_neg (by omega)]
      exact ⟨g, rfl, fun i => by rw [if_neg (by omega)], fun i => by rw [if_neg (by omega)], rfl, exc_rf⟩
    · have h2' := h2 v (by omega) (by omega)
      rw [if_pos h2', jg_pos (by omega)]
      simp only [jl_eq, Int.toNat_natCast, gI_oth (show (76 : Nat) ≠ 77 by decide)]
      obtain ⟨g2, e1, e2, e3, e4, e5⟩ := ih f (gm_wI (gm_wI g 77 (v + 1) (gm_I g 77 v)) 76 (v + 1) (gm_I g 76 v)) (by omega) (by omega) (by omega) (by
        rcases h1 with h1 | h1
        · exact Or.inl h1
        · exact Or.inr (by rw [gI_oth (by decide), gI_ne (by omega)]; exact h1)) (fun i q1 q2 => by rw [gI_oth (by decide), gI_ne (by omega)]; exact h2 i q1 (by omega)) (fun i q => by rw [gI_oth (by decide), gI_ne (by omega)]; exact h3 i (by omega))
      refine ⟨g2, ?_, fun i => ?_, fun i => ?_, ?_, exc_tr (exc_wI (exc_wI exc_rf rfl) rfl) e5⟩
      · rw [show ((v + 1 : Nat) : Int) + -1 = (v : Int) by omega]
        exact e1
      · rw [e2 i]
        by_cases c : p < i ∧ i ≤ v
        · rw [if_pos c, if_pos (by omega), gI_oth (by decide), gI_ne (by omega)]
        · rw [if_neg c]
          by_cases c2 : i = v + 1
          · subst c2
            rw [if_pos (by omega), gI_oth (by decide), gI_eq, Nat.add_sub_cancel]
          · rw [if_neg (by omega), gI_oth (by decide), gI_ne c2]
      · rw [e3 i]
        by_cases c : p < i ∧ i ≤ v
        · rw [if_pos c, if_pos (by omega), gI_ne (by omega), gI_oth (by decide)]
        · rw [if_neg c]
          by_cases c2 : i = v + 1
          · subst c2
            rw [if_pos (by omega), gI_eq, Nat.add_sub_cancel]
          · rw [if_neg (by omega), gI_ne c2, gI_oth (by decide)]
      · rw [e4, gI_oth (by decide), gI_oth (by decide)]
theorem md_lists_row {n : Nat} {g : gm_T} (I : I_fit n g) {a k B : Nat} (ha : a < n) (hk : (k : Int) < mE g a) (hB : B < n) : ∀ (d L fuel m : Nat) (g1 : gm_T), ((L + d : Nat) : Int) = mE g B → d < fuel → exc W_list nob g g1 → gm_I g1 44 42 = (m : Int) → lS (fitP g a k B L) m (kf g1) → lM g a k B L m g1 → m ≤ 8 * B + L → ∃ (m2 : Nat) (g2 : gm_T), md_lists_l18 (a : Int) (k : Int) (B : Int) fuel (L : Int) g1 = some g2 ∧ gm_I g2 44 42 = (m2 : Int) ∧ lS (fitP g a k (B + 1) 0) m2 (kf g2) ∧ lM g a k (B + 1) 0 m2 g2 ∧ m2 ≤ 8 * (B + 1) ∧ exc W_list nob g g2 := by
  have h30 := I.1.2.2
  have hB8 := ((I.2.1) B hB).1.2.2
  intro d
  induction d with
  | zero =>
    intro L fuel m g1 hd hf he hm42 hL hM hm
    obtain ⟨f, rfl⟩ : ∃ f, fuel = f + 1 := ⟨fuel - 1, by omega⟩
    have e := keepF_list he
    have c2 : gm_I g1 46 B = mE g B := k_mE e B
    unfold md_lists_l18
    have hd' : mE g B ≤ 8 := by unfold mE; exact hB8
    rw [jg_pos (by omega), Int.toNat_natCast, c2, jg_pos ⟨⟨by omega, by omega⟩, by omega, by omega⟩, if_neg (by omega)]
    refine ⟨m, g1, rfl, hm42, lS_cong (fitP_row (by omega)) (fun _ _ => rfl) hL, fun i hi => ?_, by omega, he⟩
    obtain ⟨b, l, s1, s2⟩ := hM i hi
    refine ⟨b, l, Or.inl ?_, s2⟩
    rcases s1 with s1 | s1 <;> omega
  | succ d ih =>
    intro L fuel m g1 hd hf he hm42 hL hM hm
    obtain ⟨f, rfl⟩ : ∃ f, fuel = f + 1 := ⟨fuel - 1, by omega⟩
    have e := keepF_list he
    have I1 := I_fit_tr e I
    have c2 : gm_I g1 46 B = mE g B := k_mE e B
    have hlt : (L : Int) < mE g B := by omega
    have hk1 : (k : Int) < mE g1 a := by rw [k_mE e]; exact hk
    have hl1 : (L : Int) < mE g1 B := by rw [k_mE e]; exact hlt
    have hd' : mE g B ≤ 8 := by unfold mE; exact hB8
    have hMn : ∀ i, i < m → ∃ b l, seen B (L + 1) b l ∧ (l : Int) < mE g b ∧ isF g a k b l ∧ gm_I g1 76 i = 10 * (b : Int) + (l : Int) ∧ gm_I g1 77 i = scv g a k b l (tn g a k b l) := by
      intro i hi
      obtain ⟨b, l, s1, s2⟩ := hM i hi
      refine ⟨b, l, ?_, s2⟩
      rcases s1 with s1 | s1
      · exact Or.inl s1
      · exact Or.inr ⟨s1.1, by omega⟩
    unfold md_lists_l18
    rw [jg_pos (by omega), Int.toNat_natCast, c2, jg_pos ⟨⟨by omega, by omega⟩, by omega, by omega⟩, if_pos hlt, jg_pos (rgn (by omega))]
    by_cases hF : isF g a k B L
    · have hF1 : isF g1 a k B L := by rw [k_isF e]; exact hF
      rw [if_neg (by have := hF.1; omega), md_fit_p I1 ha hB hk1 hl1 hF1, jb1_some, jg_pos (rgk rfl), if_neg n10, md_scoreOf_eq h30 I1.2.1 I1.2.2.2.2.1 I1.2.2.2.2.2.1 ha hB hF.1 hk1 hl1 hF1.2.1, jb1_some, jl_eq, hm42, k_tn e, k_scv e]
      obtain ⟨y1, y2, y3⟩ := ky_in I ha hB hk hlt
      have hs := scv_in I.2.1 I.2.2.2.2.1 ha hB hk hlt (tn g a k B L)
      have hno : ¬ fitP g a k B L (ky g a k B L) := by
        rintro ⟨b, l, s1, s2, s3, s4⟩
        have := ky_inj I ha hB (seen_lt hB s1) hk hlt s2 s4
        rcases s1 with s1 | s1 <;> omega
      obtain ⟨p, p1, p2, p3⟩ := ins_at (kf g1) (ky g a k B L) m
      have hent : ∀ i, i < m → (0 ≤ gm_I g1 77 i ∧ gm_I g1 77 i ≤ 32) ∧ 0 ≤ gm_I g1 76 i ∧ gm_I g1 76 i < 10 * (B : Int) + (L : Int) := by
        intro i hi
        obtain ⟨b, l, s1, s2, s3, s4, s5⟩ := hM i hi
        have hbn := seen_lt hB s1
        have hsb := scv_in I.2.1 I.2.2.2.2.1 ha hbn hk s2 (tn g a k b l)
        have hb8 := ((I.2.1) b hbn).1.2.2
        unfold mE at s2
        rw [s4, s5]
        rcases s1 with s1 | s1 <;> omega
      have hkd : ky g a k B L = (40 - scv g a k B L (tn g a k B L)) * 1000 + 10 * (B : Int) + (L : Int) := rfl
      have hLB : 10 * (B : Int) + (L : Int) < 1000 := by omega
      obtain ⟨g2, f1, f2, f3, f4, f5⟩ := md_ins_lp (a : Int) (k : Int) (B : Int) (L : Int) (scv g a k B L (tn g a k B L)) ⟨by omega, by omega⟩ p m fz g1 p1 (by omega) (Nat.lt_of_le_of_lt (show m ≤ 240 by omega) (fz_gt rfl)) (by
        by_cases hp0 : p = 0
        · exact Or.inl hp0
        · rcases p2 with p2 | p2
          · exact absurd p2 hp0
          · right
            have := hent (p - 1) (by omega)
            unfold kf at p2
            omega) (fun i q1 q2 => by
        have h1 := p3 i q1 q2
        have := hent i q2
        unfold kf at h1
        omega) (fun i q => by
        have := hent i q
        exact ⟨by omega, by omega⟩)
      rw [f1, jb2_some, jg_pos (by omega)]
      simp only [jl_eq, Int.toNat_natCast, gI_oth (show (44 : Nat) ≠ 76 by decide), gI_oth (show (44 : Nat) ≠ 77 by decide), f4, hm42]
      generalize hG : gm_wI (gm_wI (gm_wI g2 77 p (scv g a k B L (tn g a k B L))) 76 p (10 * (B : Int) + (L : Int))) 44 42 ((m : Int) + 1) = G
      have hG76 : ∀ i, i ≤ m → gm_I G 76 i = insf p (10 * (B : Int) + (L : Int)) (gm_I g1 76) i := by
        intro i hi
        rw [← hG, gI_oth (by decide)]
        unfold insf
        by_cases c : i < p
        · rw [if_pos c, gI_ne (by omega), gI_oth (by decide), f3, if_neg (by omega)]
        · rw [if_neg c]
          by_cases c2 : i = p
          · rw [if_pos c2, c2, gI_eq]
          · rw [if_neg c2, gI_ne c2, gI_oth (by decide), f3, if_pos (by omega)]
      have hG77 : ∀ i, i ≤ m → gm_I G 77 i = insf p (scv g a k B L (tn g a k B L)) (gm_I g1 77) i := by
        intro i hi
        rw [← hG, gI_oth (by decide), gI_oth (by decide)]
        unfold insf
        by_cases c : i < p
        · rw [if_pos c, gI_ne (by omega), f2, if_neg (by omega)]
        · rw [if_neg c]
          by_cases c2 : i = p
          · rw [if_pos c2, c2, gI_eq]
          · rw [if_neg c2, gI_ne c2, f2, if_pos (by omega)]
      have heG : exc W_list nob g G := by
        rw [← hG]
        exact exc_wI (exc_wI (exc_wI (exc_tr he f5) rfl) rfl) rfl
      have hkf : ∀ i, i < m + 1 → kf G i = insf p (ky g a k B L) (kf g1) i := by
        intro i hi
        unfold kf
        rw [hG76 i (by omega), hG77 i (by omega)]
        unfold insf
        split
        · rfl
        · split
          · unfold ky
            omega
          · rfl
      have hL2 : lS (fitP g a k B (L + 1)) (m + 1) (kf G) := by
        refine lS_cong (fun _ => Iff.rfl) hkf (lS_ins hL p1 ?_ p3 (fitP_yes hlt hF))
        by_cases hp0 : p = 0
        · exact Or.inl hp0
        · refine Or.inr ?_
          rcases p2 with p2 | p2
          · exact absurd p2 hp0
          · rcases Int.lt_or_eq_of_le p2 with h | h
            · exact h
            · exact absurd (h ▸ hL.2.1 (p - 1) (by omega)) hno
      have hM2 : lM g a k B (L + 1) (m + 1) G := by
        intro i hi
        rw [hG76 i (by omega), hG77 i (by omega)]
        unfold insf
        by_cases c : i < p
        · rw [if_pos c, if_pos c]
          exact hMn i (by omega)
        · rw [if_neg c, if_neg c]
          by_cases c2 : i = p
          · rw [if_pos c2, if_pos c2]
            exact ⟨B, L, Or.inr ⟨rfl, by omega⟩, hlt, hF, rfl, rfl⟩
          · rw [if_neg c2, if_neg c2]
            exact hMn (i - 1) (by omega)
      obtain ⟨m2, g3, r1, r2, r3, r4, r5, r6⟩ := ih (L + 1) f (m + 1) G (by omega) (by omega) heG (by rw [← hG, gI_eq]; rfl) hL2 hM2 (by omega)
      exact ⟨m2, g3, by rw [← r1]; rfl, r2, r3, r4, r5, r6⟩
    · have hF1 : ¬ isF g1 a k B L := by rw [k_isF e]; exact hF
      obtain ⟨m2, g3, r1, r2, r3, r4, r5, r6⟩ := ih (L + 1) f m g1 (by omega) (by omega) he hm42 (lS_cong (fitP_no hF) (fun _ _ => rfl) hL) hMn (by omega)
      refine ⟨m2, g3, ?_, r2, r3, r4, r5, r6⟩
      rw [← r1, md_fit_n I1 ha hB hk1 hl1 hF1, jb1_some, jg_pos (rgk rfl), if_pos rfl, ite_self]
      rfl
theorem md_lists_lp {n : Nat} {g : gm_T} (I : I_fit n g) {a k : Nat} (ha : a < n) (hk : (k : Int) < mE g a) : ∀ (d B fuel m : Nat) (g1 : gm_T), B + d = n → d < fuel → exc W_list nob g g1 → gm_I g1 44 42 = (m : Int) → lS (fitP g a k B 0) m (kf g1) → lM g a k B 0 m g1 → m ≤ 8 * B → ∃ (m2 : Nat) (g2 : gm_T), md_lists_l7 (a : Int) (k : Int) fuel (B : Int) g1 = some g2 ∧ gm_I g2 44 42 = (m2 : Int) ∧ lS (fitP g a k n 0) m2 (kf g2) ∧ lM g a k n 0 m2 g2 ∧ m2 ≤ 240 ∧ exc W_list nob g g2 := by
  have h30 := I.1.2.2
  intro d
  induction d with
  | zero =>
    intro B fuel m g1 hd hf he h42 hL hM hm
    obtain ⟨f, rfl⟩ : ∃ f, fuel = f + 1 := ⟨fuel - 1, by omega⟩
    have I1 := I_fit_tr (keepF_list he) I
    unfold md_lists_l7
    rw [I1.1.2.1, jg_pos ⟨rgn (by omega), rgn (by omega)⟩, if_neg (by omega)]
    have hBn : B = n := by omega
    subst hBn
    exact ⟨m, g1, rfl, h42, hL, hM, by omega, he⟩
  | succ d ih =>
    intro B fuel m g1 hd hf he h42 hL hM hm
    obtain ⟨f, rfl⟩ : ∃ f, fuel = f + 1 := ⟨fuel - 1, by omega⟩
    have I1 := I_fit_tr (keepF_list he) I
    have hB8 := ((I.2.1) B (by omega)).1.2
    have hE : mE g B = gm_I g 46 B := rfl
    unfold md_lists_l7
    rw [I1.1.2.1, jg_pos ⟨rgn (by omega), rgn (by omega)⟩, if_pos (by omega)]
    obtain ⟨m2, g2, r1, r2, r3, r4, r5, r6⟩ := md_lists_row I ha hk (show B < n by omega) (mE g B).toNat 0 fz m g1 (by omega) (Nat.lt_of_le_of_lt (show (mE g B).toNat ≤ 8 by omega) (fz_gt rfl)) he h42 hL hM (by omega)
    rw [show ((0 : Nat) : Int) = 0 from rfl] at r1
    rw [r1, jb1_some]
    obtain ⟨m3, g3, s1, s2⟩ := ih (B + 1) f m2 g2 (by omega) (by omega) r6 r2 r3 r4 r5
    exact ⟨m3, g3, by rw [← s1]; rfl, s2⟩
theorem md_lists_eq {n : Nat} {g : gm_T} (I : I_fit n g) {a k : Nat} (ha : a < n) (hk : (k : Int) < mE g a) : ∃ (m : Nat) (g2 : gm_T), md_lists g (a : Int) (k : Int) = some g2 ∧ gm_I g2 44 42 = (m : Int) ∧ lS (fitP g a k n 0) m (kf g2) ∧ lM g a k n 0 m g2 ∧ m ≤ 240 ∧ exc W_list nob g g2 := by
  have h30 := I.1.2.2
  obtain ⟨m, g2, r1, r2⟩ := md_lists_lp I ha hk n 0 fz 0 (gm_wI g 44 42 0) (by omega) (Nat.lt_of_le_of_lt h30 (fz_gt rfl)) (exc_wI exc_rf rfl) gI_eq (lS_0 g a k _) (fun i hi => by omega) (by omega)
  unfold md_lists
  rw [show ((0 : Nat) : Int) = 0 from rfl] at r1
  rw [jl_eq, r1, jb1_some]
  exact ⟨m, g2, rfl, r2⟩
theorem op_fits {n : Nat} {g : gm_T} (I : I_fit n g) {a e : Int} (ha : rg a) (he : rg e) : ∃ r g1 g2, cw_fits n g a e = some (r, g1) ∧ md_fits g1 a e = some (r, g2) ∧ exc W_list nob g g2 := by
  unfold cw_fits md_fits
  simp only [cw_isEdge_eq I.1 I.2.1 ha he, jb_tst]
  by_cases h : isE n g a e
  · obtain ⟨c, k, rfl, rfl, hc, hk⟩ := isE_nat h
    obtain ⟨m, g1, r1, r2, r3, r4⟩ := cf_collect_eq I hc hk
    have e := keepF_list r4
    have I1 := I_fit_tr e I
    have hk1 : (k : Int) < mE g1 c := by rw [k_mE e]; exact hk
    obtain ⟨m2, g2, s1, s2, s3, s4, s5, s6⟩ := md_lists_eq I1 hc hk1
    have hP : ∀ x, fitP g c k n 0 x ↔ fitP g1 c k n 0 x := by
      intro x
      unfold fitP ky
      simp only [k_mE e, k_isF e, k_scv e, k_tn e]
    obtain ⟨u1, u2⟩ := lS_uniq (lS_cong (fun x => (hP x).symm) (fun _ _ => rfl) r2) s3
    have hE1 : isE n g1 (c : Int) (k : Int) := by
      unfold isE at *
      have := k_mE e c
      unfold mE at this
      rw [Int.toNat_natCast] at h ⊢
      rw [this]
      exact h
    rw [if_pos h, r1, jb2_some]
    refine ⟨_, _, g2, rfl, ?_, exc_tr r4 s6⟩
    rw [md_isEdge_eq I1.1 I1.2.1 ha he, jb_tst, if_pos hE1, s1, jb1_some, s2, u1]
  · rw [if_neg h]
    refine ⟨_, _, g, rfl, ?_, exc_rf⟩
    rw [md_isEdge_eq I.1 I.2.1 ha he, jb_tst, if_neg h]
theorem op_fit {n : Nat} {g : gm_T} (I : I_fit n g) {a e w : Int} (ha : rg a) (he : rg e) (hw : rg w) : ∃ r g1 g2, cw_fit n g a e w = some (r, g1) ∧ md_fit g1 a e w = some (r, g2) ∧ exc W_list nob g g2 := by
  unfold cw_fit md_fit
  simp only [cw_isEdge_eq I.1 I.2.1 ha he, jb_tst]
  by_cases h : isE n g a e
  · obtain ⟨c, k, rfl, rfl, hc, hk⟩ := isE_nat h
    rw [if_pos h, jg_pos hw]
    by_cases hw0 : w < 0
    · rw [if_pos hw0]
      obtain ⟨m2, g2, s1, s2, s3, s4, s5, s6⟩ := md_lists_eq I hc hk
      refine ⟨_, _, g2, rfl, ?_, s6⟩
      rw [md_isEdge_eq I.1 I.2.1 ha he, jb_tst, if_pos h, s1, jb1_some, s2, md_in_eq hw (rgk rfl) ⟨by omega, by omega⟩, jb_tst, if_neg (by omega)]
    · rw [if_neg hw0]
      obtain ⟨m, g1, r1, r2, r3, r4⟩ := cf_collect_eq I hc hk
      have e := keepF_list r4
      have I1 := I_fit_tr e I
      have hk1 : (k : Int) < mE g1 c := by rw [k_mE e]; exact hk
      obtain ⟨m2, g2, s1, s2, s3, s4, s5, s6⟩ := md_lists_eq I1 hc hk1
      have hP : ∀ x, fitP g c k n 0 x ↔ fitP g1 c k n 0 x := by
        intro x
        unfold fitP ky
        simp only [k_mE e, k_isF e, k_scv e, k_tn e]
      obtain ⟨u1, u2⟩ := lS_uniq (lS_cong (fun x => (hP x).symm) (fun _ _ => rfl) r2) s3
      have hE1 : isE n g1 (c : Int) (k : Int) := by
        unfold isE at *
        have := k_mE e c
        unfold mE at this
        rw [Int.toNat_natCast] at h ⊢
        rw [this]
        exact h
      rw [r1, jb2_some, jg_pos ⟨by omega, by omega⟩]
      have hmod : md_fit g1 (c : Int) (k : Int) w = if w < (m : Int) then some (gm_I g2 76 w.toNat, g2) else some (-1, g2) := by
        unfold md_fit
        rw [md_isEdge_eq I1.1 I1.2.1 ha he, jb_tst, if_pos hE1, s1, jb1_some, s2, md_in_eq hw (rgk rfl) ⟨by omega, by omega⟩, jb_tst]
        by_cases hq : w < (m : Int)
        · rw [if_pos hq, if_pos (by omega), jg_pos (by omega)]
        · rw [if_neg hq, if_neg (by omega)]
      unfold md_fit at hmod
      by_cases hq : w < (m : Int)
      · obtain ⟨i, rfl⟩ : ∃ i : Nat, w = (i : Int) := ⟨_, (Int.toNat_of_nonneg (by omega)).symm⟩
        rw [if_pos hq, jg_pos (by omega)]
        rw [if_pos hq] at hmod
        rw [Int.toNat_natCast] at hmod ⊢
        have v1 := u2 i (by omega)
        obtain ⟨b, l, t1, t2, t3, t4, t5⟩ := s4 i (by omega)
        have hbn : b < n := by rcases t1 with t1 | t1 <;> omega
        have t6 := scv_in I1.2.1 I1.2.2.2.2.1 hc hbn hk1 t2 (tn g1 c k b l)
        have t7 := ((I1.2.1) b hbn).1.2.2
        have h30 := I.1.2.2
        unfold kf at v1
        unfold mE at t2
        rw [jg_pos (by omega)]
        refine ⟨_, g1, g2, rfl, ?_, exc_tr r4 s6⟩
        rw [hmod]
        congr 2
        omega
      · rw [if_neg hq]
        rw [if_neg hq] at hmod
        exact ⟨_, g1, g2, rfl, hmod, exc_tr r4 s6⟩
  · rw [if_neg h]
    refine ⟨_, _, g, rfl, ?_, exc_rf⟩
    rw [md_isEdge_eq I.1 I.2.1 ha he, jb_tst, if_neg h]
