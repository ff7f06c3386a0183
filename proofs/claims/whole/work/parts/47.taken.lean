/-! A join is tried: taken edges; what depends on the joins that are there alone. -/
section
variable {A B A' B' : Nat → Nat} {E E' : Nat → Bool} {m : Nat}
theorem gR_cong (h : ∀ j, j < m → A j = A' j ∧ B j = B' j ∧ E j = E' j) (a : Nat) : ∀ d b, gR A B E m a d b ↔ gR A' B' E' m a d b
  | 0, _ => Iff.rfl
  | d + 1, b => by
    have ih := gR_cong h a d
    constructor
    · rintro (q | ⟨j, hj, hE, q⟩)
      · exact Or.inl ((ih b).mp q)
      · obtain ⟨h1, h2, h3⟩ := h j hj
        refine Or.inr ⟨j, hj, by rw [← h3]; exact hE, ?_⟩
        rw [← h1, ← h2, ← ih, ← ih]
        exact q
    · rintro (q | ⟨j, hj, hE, q⟩)
      · exact Or.inl ((ih b).mpr q)
      · obtain ⟨h1, h2, h3⟩ := h j hj
        refine Or.inr ⟨j, hj, by rw [h3]; exact hE, ?_⟩
        rw [h1, h2, ih, ih]
        exact q
theorem gC_cong (h : ∀ j, j < m → A j = A' j ∧ B j = B' j ∧ E j = E' j) (a b : Nat) : gC A B E m a b ↔ gC A' B' E' m a b := ⟨fun ⟨d, q⟩ => ⟨d, (gR_cong h a d b).mp q⟩, fun ⟨d, q⟩ => ⟨d, (gR_cong h a d b).mpr q⟩⟩
theorem grd_cong (h : ∀ j, j < m → A j = A' j ∧ B j = B' j ∧ E j = E' j) (r : Nat) (w : Nat → Int) : ∀ J, J ≤ m → grd A B E r J w = grd A' B' E' r J w
  | 0, _ => rfl
  | J + 1, hJ => by
    obtain ⟨h1, h2, h3⟩ := h J (by omega)
    show gst A B E r J (grd A B E r J w) = gst A' B' E' r J (grd A' B' E' r J w)
    rw [grd_cong h r w J (by omega)]
    unfold gst
    rw [h1, h2, h3]
theorem gbf_cong (h : ∀ j, j < m → A j = A' j ∧ B j = B' j ∧ E j = E' j) (a : Nat) : ∀ r, gbf A B E m a r = gbf A' B' E' m a r
  | 0 => rfl
  | r + 1 => by
    show grd A B E r m (gbf A B E m a r) = grd A' B' E' r m (gbf A' B' E' m a r)
    rw [gbf_cong h a r, grd_cong h r _ m (Nat.le_refl _)]
theorem gP_cong (h : ∀ j, j < m → A j = A' j ∧ B j = B' j ∧ E j = E' j) (w : Nat → Int) (b : Nat) : gP A B E m w b = gP A' B' E' m w b := by
  funext j
  apply propext
  unfold gP
  constructor
  · rintro ⟨q1, q2, q3⟩
    obtain ⟨h1, h2, h3⟩ := h j q1
    rw [h1, h2] at q3
    rw [h3] at q2
    exact ⟨q1, q2, q3⟩
  · rintro ⟨q1, q2, q3⟩
    obtain ⟨h1, h2, h3⟩ := h j q1
    rw [← h1, ← h2] at q3
    rw [← h3] at q2
    exact ⟨q1, q2, q3⟩
theorem gat_cong {n : Nat} (h : ∀ j, j < m → A j = A' j ∧ B j = B' j ∧ E j = E' j) (hn : ∀ j, j < m → A j < n ∧ B j < n) (hne : ∀ j, j < m → A j ≠ B j) {a b d : Nat} (ha : a < n) (hb : b < n) (hd : gbf A B E m a n b = (d : Int)) : ∀ k, k ≤ d → gat A B E m (gbf A B E m a n) b k = gat A' B' E' m (gbf A B E m a n) b k
  | 0, _ => rfl
  | k + 1, hk => by
    have ih := gat_cong h hn hne ha hb hd k (by omega)
    have hP := (gat_P hn hne ha hb hd (k := k) (by omega)).1.1
    show (if A (gj A B E m (gbf A B E m a n) b k) = gat A B E m (gbf A B E m a n) b k then B (gj A B E m (gbf A B E m a n) b k) else A (gj A B E m (gbf A B E m a n) b k)) = (if A' (gj A' B' E' m (gbf A B E m a n) b k) = gat A' B' E' m (gbf A B E m a n) b k then B' (gj A' B' E' m (gbf A B E m a n) b k) else A' (gj A' B' E' m (gbf A B E m a n) b k))
    have hgj : gj A B E m (gbf A B E m a n) b k = gj A' B' E' m (gbf A B E m a n) b k := by
      unfold gj
      rw [gP_cong h, ih]
    rw [← hgj, ← ih]
    obtain ⟨h1, h2, -⟩ := h _ hP
    rw [h1, h2]
theorem gj_cong {n : Nat} (h : ∀ j, j < m → A j = A' j ∧ B j = B' j ∧ E j = E' j) (hn : ∀ j, j < m → A j < n ∧ B j < n) (hne : ∀ j, j < m → A j ≠ B j) {a b d : Nat} (ha : a < n) (hb : b < n) (hd : gbf A B E m a n b = (d : Int)) {k : Nat} (hk : k < d) : gj A B E m (gbf A B E m a n) b k = gj A' B' E' m (gbf A' B' E' m a n) b k := by
  rw [← gbf_cong h a n]
  unfold gj
  rw [gP_cong h, gat_cong h hn hne ha hb hd k (by omega)]
end
/-- an edge that a join has -/
def taken (g : gm_T) (M b e : Nat) : Prop := ∃ j, j < M ∧ jE g j = true ∧ ((jA g j = b ∧ jK g j = e) ∨ (jB g j = b ∧ jL g j = e))
theorem cj_taken_lp {n : Nat} {g : gm_T} (h30 : n ≤ 30) (I : I_fit n g) (V : V_jn n g) {b e : Nat} (hb : b < n) (he : e < 8) : ∀ (d j fuel : Nat), j + d = jm g → d < fuel → ¬ taken g j b e → cj_isTaken_l2 g (b : Int) (e : Int) fuel (j : Int) = some (@ite _ (taken g (jm g) b e) (gd _) 1 0) := by
  obtain ⟨m60, m1, m2⟩ := jm_60 V
  obtain ⟨T, t1, t2⟩ := isM_jE V
  intro d
  induction d with
  | zero =>
    intro j fuel hd hf hno
    obtain ⟨f, rfl⟩ : ∃ f, fuel = f + 1 := ⟨fuel - 1, by omega⟩
    have hk : j = jm g := by omega
    unfold cj_isTaken_l2
    rw [m2, jg_pos ⟨rgn (by omega), rgn (by omega)⟩, if_neg (by omega), @if_neg _ (gd _) (by rw [← hk]; exact hno)]
  | succ d ih =>
    intro j fuel hd hf hno
    obtain ⟨f, rfl⟩ : ∃ f, fuel = f + 1 := ⟨fuel - 1, by omega⟩
    have hj : j < jm g := by omega
    obtain ⟨⟨a1, a2, a3⟩, ⟨k1, k2, k3⟩, ⟨b1, b2, b3⟩, ⟨l1, l2, l3⟩, -⟩ := V.2.1 j hj
    have a8 := (I.2.1 _ a3).1.2.2
    have b8 := (I.2.1 _ b3).1.2.2
    have hEa : mE g (jA g j) = gm_I g 46 (jA g j) := rfl
    have hEb : mE g (jB g j) = gm_I g 46 (jB g j) := rfl
    have D1 : (jg (rg (gm_I g 15 (j : Int).toNat) ∧ rg (b : Int)) (if gm_I g 15 (j : Int).toNat = (b : Int) then (jg (rg (gm_I g 16 (j : Int).toNat) ∧ rg (e : Int)) (if gm_I g 16 (j : Int).toNat = (e : Int) then (some (1 : Int)) else (some 0))) else (some 0))) = some (if jA g j = b ∧ jK g j = e then 1 else 0) := by
      rw [Int.toNat_natCast, a1, a2, k1, k2, jg_pos ⟨rgn (by omega), rgn (by omega)⟩]
      by_cases c1 : jA g j = b
      · rw [if_pos (by omega), jg_pos ⟨rgn (by omega), rgn (by omega)⟩]
        by_cases c2 : jK g j = e
        · rw [if_pos (by omega), if_pos ⟨c1, c2⟩]
        · rw [if_neg (by omega), if_neg (fun z => c2 z.2)]
      · rw [if_neg (by omega), if_neg (fun z => c1 z.1)]
    have D2 : (jg (rg (gm_I g 17 (j : Int).toNat) ∧ rg (b : Int)) (if gm_I g 17 (j : Int).toNat = (b : Int) then (jg (rg (gm_I g 18 (j : Int).toNat) ∧ rg (e : Int)) (if gm_I g 18 (j : Int).toNat = (e : Int) then (some (1 : Int)) else (some 0))) else (some 0))) = some (if jB g j = b ∧ jL g j = e then 1 else 0) := by
      rw [Int.toNat_natCast, b1, b2, l1, l2, jg_pos ⟨rgn (by omega), rgn (by omega)⟩]
      by_cases c1 : jB g j = b
      · rw [if_pos (by omega), jg_pos ⟨rgn (by omega), rgn (by omega)⟩]
        by_cases c2 : jL g j = e
        · rw [if_pos (by omega), if_pos ⟨c1, c2⟩]
        · rw [if_neg (by omega), if_neg (fun z => c2 z.2)]
      · rw [if_neg (by omega), if_neg (fun z => c1 z.1)]
    have yes : jE g j = true → ((jA g j = b ∧ jK g j = e) ∨ (jB g j = b ∧ jL g j = e)) → taken g (jm g) b e := fun q1 q2 => ⟨j, hj, q1, q2⟩
    have go : ¬ (jE g j = true ∧ ((jA g j = b ∧ jK g j = e) ∨ (jB g j = b ∧ jL g j = e))) → cj_isTaken_l2 g (b : Int) (e : Int) f ((j : Int) + 1) = some (@ite _ (taken g (jm g) b e) (gd _) 1 0) := by
      intro hq
      refine ih (j + 1) f (by omega) (by omega) ?_
      rintro ⟨i, z1, z2, z3⟩
      by_cases hi : i = j
      · subst hi
        exact hq ⟨z2, z3⟩
      · exact hno ⟨i, by omega, z2, z3⟩
    unfold cj_isTaken_l2
    rw [m2, jg_pos ⟨rgn (by omega), rgn (by omega)⟩, if_pos (by omega), jg_pos (by omega), D1, jb1_some, D2, jb1_some, t1, isIn_eq g (Nat.lt_trans t2.1 (by decide)) (by omega), jb_tst, t2.2 j hj]
    by_cases c : jE g j = true
    · rw [if_pos c, jg_pos rg01]
      by_cases c1 : jA g j = b ∧ jK g j = e
      · rw [if_pos c1, if_neg n10, @if_pos _ (gd _) (yes c (Or.inl c1))]
      · rw [if_neg c1, if_pos rfl, jg_pos rg01]
        by_cases c2 : jB g j = b ∧ jL g j = e
        · rw [if_pos c2, if_neg n10, @if_pos _ (gd _) (yes c (Or.inr c2))]
        · rw [if_neg c2, if_pos rfl]
          exact go (fun z => z.2.elim c1 c2)
    · rw [if_neg c]
      exact go (fun z => c z.1)
theorem cj_taken_eq {n : Nat} {g : gm_T} (I : I_fit n g) (V : V_jn n g) {b e : Nat} (hb : b < n) (he : e < 8) : cj_isTaken g (b : Int) (e : Int) = some (@ite _ (taken g (jm g) b e) (gd _) 1 0) := by
  have m60 := (jm_60 V).1
  exact cj_taken_lp I.1.2.2 I V hb he (jm g) 0 fz (by omega) (Nat.lt_of_le_of_lt m60 (fz_gt rfl)) (fun ⟨j, q, _⟩ => by omega)
theorem md_taken_lp {n : Nat} {g : gm_T} (I : I_fit n g) (V : V_jm n g) {b e : Nat} (hb : b < n) (he : e < 8) : ∀ (d j fuel : Nat), j + d = jm g → d < fuel → md_isTaken_l5 g (b : Int) (e : Int) fuel (@ite _ (taken g j b e) (gd _) 1 0) (j : Int) = some (@ite _ (taken g (jm g) b e) (gd _) 1 0) := by
  have h30 := I.1.2.2
  obtain ⟨m60, m1, m2⟩ := jm_60m V
  intro d
  induction d with
  | zero =>
    intro j fuel hd hf
    obtain ⟨f, rfl⟩ : ∃ f, fuel = f + 1 := ⟨fuel - 1, by omega⟩
    have hk : j = jm g := by omega
    unfold md_isTaken_l5
    rw [m1, jg_pos ⟨rgn (by omega), rgn (by omega)⟩, if_neg (by omega), hk]
  | succ d ih =>
    intro j fuel hd hf
    obtain ⟨f, rfl⟩ : ∃ f, fuel = f + 1 := ⟨fuel - 1, by omega⟩
    have hj : j < jm g := by omega
    obtain ⟨⟨-, a2, a3⟩, ⟨-, k2, k3⟩, ⟨-, b2, b3⟩, ⟨-, l2, l3⟩, h01, -⟩ := V.2.1 j hj
    have a8 := (I.2.1 _ a3).1.2.2
    have b8 := (I.2.1 _ b3).1.2.2
    have hEa : mE g (jA g j) = gm_I g 46 (jA g j) := rfl
    have hEb : mE g (jB g j) = gm_I g 46 (jB g j) := rfl
    have next := ih (j + 1) f (by omega) (by omega)
    have hjE : jE g j = decide (gm_I g 69 j ≠ 0) := rfl
    have step : taken g (j + 1) b e ↔ taken g j b e ∨ (jE g j = true ∧ ((jA g j = b ∧ jK g j = e) ∨ (jB g j = b ∧ jL g j = e))) := by
      constructor
      · rintro ⟨i, z1, z2, z3⟩
        by_cases hi : i = j
        · subst hi
          exact Or.inr ⟨z2, z3⟩
        · exact Or.inl ⟨i, by omega, z2, z3⟩
      · rintro (⟨i, z1, z2⟩ | z)
        · exact ⟨i, by omega, z2⟩
        · exact ⟨j, by omega, z⟩
    unfold md_isTaken_l5
    rw [m1, jg_pos ⟨rgn (by omega), rgn (by omega)⟩, if_pos (by omega)]
    by_cases c0 : taken g j b e
    · rw [@if_pos _ (gd _) (step.mpr (Or.inl c0))] at next
      rw [@if_pos _ (gd _) c0, jg_pos (rgk rfl), if_neg n10]
      exact next
    · have no : ¬ (jE g j = true ∧ ((jA g j = b ∧ jK g j = e) ∨ (jB g j = b ∧ jL g j = e))) → md_isTaken_l5 g (b : Int) (e : Int) f 0 ((j : Int) + 1) = some (@ite _ (taken g (jm g) b e) (gd _) 1 0) := by
        intro hq
        rw [@if_neg _ (gd _) (fun z => (step.mp z).elim c0 hq)] at next
        exact next
      have yes : jE g j = true → ((jA g j = b ∧ jK g j = e) ∨ (jB g j = b ∧ jL g j = e)) → md_isTaken_l5 g (b : Int) (e : Int) f 1 ((j : Int) + 1) = some (@ite _ (taken g (jm g) b e) (gd _) 1 0) := by
        intro q1 q2
        rw [@if_pos _ (gd _) (step.mpr (Or.inr ⟨q1, q2⟩))] at next
        exact next
      rw [@if_neg _ (gd _) c0, jg_pos (rgk rfl), if_pos rfl, jg_pos (by omega), Int.toNat_natCast, a2, k2, b2, l2]
      rcases h01 with z | z
      · rw [z] at hjE
        rw [z, jg_pos (rgk rfl), if_pos rfl]
        exact no (fun y => by rw [hjE] at y; exact absurd y.1 (by decide))
      · rw [z] at hjE
        have hE1 : jE g j = true := by rw [hjE]; rfl
        rw [z, jg_pos (rgk rfl), if_neg n10, jg_pos ⟨rgn (by omega), rgn (by omega)⟩]
        by_cases c1 : jA g j = b
        · rw [if_pos (by omega), jg_pos ⟨rgn (by omega), rgn (by omega)⟩]
          by_cases c2 : jK g j = e
          · rw [if_pos (by omega)]
            exact yes hE1 (Or.inl ⟨c1, c2⟩)
          · rw [if_neg (by omega), jg_pos (rgn (by omega))]
            by_cases c3 : jB g j = b
            · rw [if_pos (by omega), jg_pos (rgn (by omega))]
              by_cases c4 : jL g j = e
              · rw [if_pos (by omega)]
                exact yes hE1 (Or.inr ⟨c3, c4⟩)
              · rw [if_neg (by omega)]
                exact no (fun y => y.2.elim (fun z => c2 z.2) (fun z => c4 z.2))
            · rw [if_neg (by omega)]
              exact no (fun y => y.2.elim (fun z => c2 z.2) (fun z => c3 z.1))
        · rw [if_neg (by omega), jg_pos (rgn (by omega))]
          by_cases c3 : jB g j = b
          · rw [if_pos (by omega), jg_pos ⟨rgn (by omega), rgn (by omega)⟩]
            by_cases c4 : jL g j = e
            · rw [if_pos (by omega)]
              exact yes hE1 (Or.inr ⟨c3, c4⟩)
            · rw [if_neg (by omega)]
              exact no (fun y => y.2.elim (fun z => c1 z.1) (fun z => c4 z.2))
          · rw [if_neg (by omega)]
            exact no (fun y => y.2.elim (fun z => c1 z.1) (fun z => c3 z.1))
theorem md_taken_eq {n : Nat} {g : gm_T} (I : I_fit n g) (V : V_jm n g) {b e : Nat} (hb : b < n) (he : e < 8) : md_isTaken g (b : Int) (e : Int) = some (@ite _ (taken g (jm g) b e) (gd _) 1 0) := by
  have m60 := (jm_60m V).1
  have h1 := md_taken_lp I V hb he (jm g) 0 fz (by omega) (Nat.lt_of_le_of_lt m60 (fz_gt rfl))
  rw [@if_neg _ (gd _) (show ¬ taken g 0 b e from fun ⟨j, q, _⟩ => by omega)] at h1
  unfold md_isTaken
  rw [show md_isTaken_l5 g (b : Int) (e : Int) fz 0 0 = _ from h1, jb1_some, jg_pos]
  by_cases c : taken g (jm g) b e
  · exact Or.inr (@if_pos _ (gd _) c _ _ _)
  · exact Or.inl (@if_neg _ (gd _) c _ _ _)
/-- the join that is tried, in the reference's cells behind all others -/
def gcand (g : gm_T) (m : Nat) (a k b l : Int) : gm_T := gm_wI (gm_wI (gm_wI (gm_wI (gm_wI g 65 m a) 66 m k) 67 m b) 68 m l) 69 m 0
theorem gcand_o (g : gm_T) (m : Nat) (a k b l : Int) : exc (fun c j => (c == 65 || c == 66 || c == 67 || c == 68 || c == 69) && j == m) nob g (gcand g m a k b l) := by
  unfold gcand
  refine exc_wI (exc_wI (exc_wI (exc_wI (exc_wI exc_rf ?_) ?_) ?_) ?_) ?_ <;> simp
theorem gcand_keep (g : gm_T) (m : Nat) (a k b l : Int) : keepC (gcand g m a k b l) = gcand (keepC g) m a k b l := by
  have t : ∀ (x : gm_T) (c j : Nat) (v : Int), (∀ j, (scr c j || cls c) = false) → keepC (gm_wI x c j v) = gm_wI (keepC x) c j v := by
    intro x c j v hc
    unfold keepC gm_wI
    refine Prod.ext ?_ rfl
    funext a k
    dsimp only
    unfold jm_u
    by_cases q : a = c
    · subst q
      rw [hc k]
      by_cases q2 : k = j
      · subst q2; simp
      · simp [q2, hc k]
    · simp [q]
  unfold gcand
  rw [t _ 69 m 0 (fun _ => rfl), t _ 68 m l (fun _ => rfl), t _ 67 m b (fun _ => rfl), t _ 66 m k (fun _ => rfl), t _ 65 m a (fun _ => rfl)]
