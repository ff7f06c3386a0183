/-! The reference's reckons; the ways along joins: walk of the class, goes of the reference. -/
theorem md_leads_0 {n : Nat} {g : gm_T} (V : V_jm n g) {j : Nat} (hj : j < jm g) : md_leads g (j : Int) 0 = some (if jE g j = true then 1 else 0) := by
  have m60 := (jm_60m V).1
  have h01 := (V.2.1 j hj).2.2.2.2.1
  unfold md_leads jE
  rw [jg_pos (by omega), Int.toNat_natCast]
  rcases h01 with h | h
  · rw [h, jg_pos (rgk rfl), if_pos rfl]
    rfl
  · rw [h, jg_pos (rgk rfl), if_neg n10, jg_pos (rgk rfl), if_pos rfl]
    rfl
theorem md_leads_1 {n : Nat} {g : gm_T} (V : V_jm n g) {j : Nat} (hj : j < jm g) (h82 : gm_I g 82 j = 0 ∨ gm_I g 82 j = 1) : md_leads g (j : Int) 1 = some (if (jE g j && decide (gm_I g 82 j ≠ 0)) = true then 1 else 0) := by
  have m60 := (jm_60m V).1
  have h01 := (V.2.1 j hj).2.2.2.2.1
  unfold md_leads jE
  rw [jg_pos (by omega), Int.toNat_natCast]
  rcases h01 with h | h
  · rw [h, jg_pos (rgk rfl), if_pos rfl]
    rfl
  · rw [h, jg_pos (rgk rfl), if_neg n10, jg_pos (rgk rfl), if_neg n10]
    rcases h82 with h2 | h2
    · rw [h2, jg_pos (rgk rfl), if_pos rfl]
      rfl
    · rw [h2, jg_pos (rgk rfl), if_neg n10]
      rfl
/-- what leads is told by E in all states that differ by scratch 83 alone -/
def ldE (g : gm_T) (best : Int) (E : Nat → Bool) : Prop := ∀ g', exc W_83 nob g g' → ∀ j, j < jm g → md_leads g' (j : Int) best = some (if E j = true then 1 else 0)
theorem md_rec_row {n : Nat} {g : gm_T} (h30 : n ≤ 30) (V : V_jm n g) {E : Nat → Bool} {best : Int} (hE : ldE g best E) {a r : Nat} (hr : r < 30) : ∀ (d J fuel : Nat) (g1 : gm_T), J + d = jm g → d < fuel → exc W_83 nob g g1 → (∀ b, b < n → gm_I g1 83 b = grd (jA g) (jB g) E r J (gbf (jA g) (jB g) E (jm g) a r) b) → ∃ g2, md_reckons_l45 best (r : Int) fuel (J : Int) g1 = some g2 ∧ exc W_83 nob g g2 ∧ ∀ b, b < n → gm_I g2 83 b = gbf (jA g) (jB g) E (jm g) a (r + 1) b := by
  obtain ⟨m60, m1, m2⟩ := jm_60m V
  intro d
  induction d with
  | zero =>
    intro J fuel g1 hd hf he hw
    obtain ⟨f, rfl⟩ : ∃ f, fuel = f + 1 := ⟨fuel - 1, by omega⟩
    unfold md_reckons_l45
    have hJ : J = jm g := by omega
    rw [show gm_I g1 44 24 = gm_I g 44 24 from he.1 44 24 rfl, m1, jg_pos ⟨rgn (by omega), rgn (by omega)⟩, if_neg (by omega)]
    subst hJ
    exact ⟨g1, rfl, he, hw⟩
  | succ d ih =>
    intro J fuel g1 hd hf he hw
    obtain ⟨f, rfl⟩ : ∃ f, fuel = f + 1 := ⟨fuel - 1, by omega⟩
    obtain ⟨⟨a1, a2, a3⟩, -, ⟨b1, b2, b3⟩, -, -, hne, -⟩ := V.2.1 J (by omega)
    have q65 : gm_I g1 65 J = ((jA g J : Nat) : Int) := by rw [he.1 65 J rfl, a2]
    have q67 : gm_I g1 67 J = ((jB g J : Nat) : Int) := by rw [he.1 67 J rfl, b2]
    have wA := hw (jA g J) a3
    have wB := hw (jB g J) b3
    have rA := grd_in (jA g) (jB g) E (jm g) a r J (jA g J)
    have rB := grd_in (jA g) (jB g) E (jm g) a r J (jB g J)
    rw [← wA] at rA
    rw [← wB] at rB
    have step : ∀ g', exc W_83 nob g g' → (∀ b, b < n → gm_I g' 83 b = gst (jA g) (jB g) E r J (grd (jA g) (jB g) E r J (gbf (jA g) (jB g) E (jm g) a r)) b) → ∃ g2, md_reckons_l45 best (r : Int) f ((J : Int) + 1) g' = some g2 ∧ exc W_83 nob g g2 ∧ ∀ b, b < n → gm_I g2 83 b = gbf (jA g) (jB g) E (jm g) a (r + 1) b := fun g' e' h' => ih (J + 1) f g' (by omega) (by omega) e' h'
    unfold md_reckons_l45
    rw [show gm_I g1 44 24 = gm_I g 44 24 from he.1 44 24 rfl, m1, jg_pos ⟨rgn (by omega), rgn (by omega)⟩, if_pos (by omega), jg_pos (by omega), jl_eq, jl_eq, Int.toNat_natCast, q65, q67]
    simp only [hE g1 he J (by omega), jb_tst]
    by_cases hEJ : E J = true
    · simp only [if_pos hEJ, Int.toNat_natCast]
      rw [jg_pos (by omega), jg_pos ⟨⟨by omega, by omega⟩, rgn (by omega)⟩]
      by_cases c1 : gm_I g1 83 (jA g J) = (r : Int)
      · rw [if_pos c1, jg_pos (by omega), jg_pos ⟨by omega, by omega⟩]
        by_cases c2 : gm_I g1 83 (jB g J) = -1
        · rw [if_pos c2, jl_eq]
          refine step _ (exc_wI he rfl) (fun b hb => ?_)
          unfold gst
          rw [if_pos hEJ, if_pos (by rw [← wA, ← wB]; omega), wup_at]
          by_cases hbb : b = jB g J
          · rw [if_pos hbb, hbb, gI_eq]
          · rw [if_neg hbb, gI_ne hbb, hw b hb]
        · have same : ∃ g2, md_reckons_l45 best (r : Int) f ((J : Int) + 1) g1 = some g2 ∧ exc W_83 nob g g2 ∧ ∀ b, b < n → gm_I g2 83 b = gbf (jA g) (jB g) E (jm g) a (r + 1) b := step _ he (fun b hb => by
            unfold gst
            rw [if_pos hEJ, if_neg (by rw [← wA, ← wB]; omega), if_neg (by rw [← wA, ← wB]; omega)]
            exact hw b hb)
          rw [if_neg c2]
          by_cases c3 : gm_I g1 83 (jB g J) = (r : Int)
          · rw [if_pos c3, if_neg (by omega)]
            exact same
          · rw [if_neg c3]
            exact same
      · rw [if_neg c1, jg_pos (by omega), jg_pos ⟨by omega, by omega⟩]
        by_cases c3 : gm_I g1 83 (jB g J) = (r : Int)
        · rw [if_pos c3]
          by_cases c4 : gm_I g1 83 (jA g J) = -1
          · rw [if_pos c4, jl_eq]
            refine step _ (exc_wI he rfl) (fun b hb => ?_)
            unfold gst
            rw [if_pos hEJ, if_neg (by rw [← wA, ← wB]; omega), if_pos (by rw [← wA, ← wB]; omega), wup_at]
            by_cases hbb : b = jA g J
            · rw [if_pos hbb, hbb, gI_eq]
            · rw [if_neg hbb, gI_ne hbb, hw b hb]
          · rw [if_neg c4]
            refine step _ he (fun b hb => ?_)
            unfold gst
            rw [if_pos hEJ, if_neg (by rw [← wA, ← wB]; omega), if_neg (by rw [← wA, ← wB]; omega)]
            exact hw b hb
        · rw [if_neg c3]
          refine step _ he (fun b hb => ?_)
          unfold gst
          rw [if_pos hEJ, if_neg (by rw [← wA, ← wB]; omega), if_neg (by rw [← wA, ← wB]; omega)]
          exact hw b hb
    · simp only [if_neg hEJ]
      refine step _ he (fun b hb => ?_)
      unfold gst
      rw [if_neg hEJ]
      exact hw b hb
theorem md_rec_lp {n : Nat} {g : gm_T} (hn : V_num n g) (V : V_jm n g) {E : Nat → Bool} {best : Int} (hE : ldE g best E) {a : Nat} : ∀ (d r fuel : Nat) (g1 : gm_T), r + d = n → d < fuel → exc W_83 nob g g1 → (∀ b, b < n → gm_I g1 83 b = gbf (jA g) (jB g) E (jm g) a r b) → ∃ g2, md_reckons_l34 best fuel (r : Int) g1 = some g2 ∧ exc W_83 nob g g2 ∧ ∀ b, b < n → gm_I g2 83 b = gbf (jA g) (jB g) E (jm g) a n b := by
  have h30 := hn.2.2
  obtain ⟨m60, -⟩ := jm_60m V
  intro d
  induction d with
  | zero =>
    intro r fuel g1 hd hf he hw
    obtain ⟨f, rfl⟩ : ∃ f, fuel = f + 1 := ⟨fuel - 1, by omega⟩
    have hr : r = n := by omega
    subst hr
    unfold md_reckons_l34
    rw [show gm_I g1 44 3 = gm_I g 44 3 from he.1 44 3 rfl, hn.2.1, jg_pos ⟨rgn (by omega), rgn (by omega)⟩, if_neg (by omega)]
    exact ⟨g1, rfl, he, hw⟩
  | succ d ih =>
    intro r fuel g1 hd hf he hw
    obtain ⟨f, rfl⟩ : ∃ f, fuel = f + 1 := ⟨fuel - 1, by omega⟩
    unfold md_reckons_l34
    obtain ⟨g2, e1, e2, e3⟩ := md_rec_row h30 V hE (a := a) (r := r) (by omega) (jm g) 0 fz g1 (by omega) (Nat.lt_of_le_of_lt m60 (fz_gt rfl)) he hw
    rw [show ((0 : Nat) : Int) = 0 from rfl] at e1
    rw [show gm_I g1 44 3 = gm_I g 44 3 from he.1 44 3 rfl, hn.2.1, jg_pos ⟨rgn (by omega), rgn (by omega)⟩, if_pos (by omega), e1, jb1_some]
    exact ih (r + 1) f g2 (by omega) (by omega) e2 e3
theorem md_rec_0 {n : Nat} {g : gm_T} (hn : V_num n g) {a : Nat} {best : Int} (ha : a < n) : ∀ (d b fuel : Nat) (g1 : gm_T), b + d = n → d < fuel → exc W_83 nob g g1 → (∀ c, c < b → gm_I g1 83 c = if c = a then 0 else -1) → ∃ g2, md_reckons_l2 (a : Int) best fuel (b : Int) g1 = some g2 ∧ exc W_83 nob g g2 ∧ ∀ c, c < n → gm_I g2 83 c = if c = a then 0 else -1 := by
  have h30 := hn.2.2
  intro d
  induction d with
  | zero =>
    intro b fuel g1 hd hf he hw
    obtain ⟨f, rfl⟩ : ∃ f, fuel = f + 1 := ⟨fuel - 1, by omega⟩
    have hr : b = n := by omega
    subst hr
    unfold md_reckons_l2
    rw [show gm_I g1 44 3 = gm_I g 44 3 from he.1 44 3 rfl, hn.2.1, jg_pos ⟨rgn (by omega), rgn (by omega)⟩, if_neg (by omega)]
    exact ⟨g1, rfl, he, hw⟩
  | succ d ih =>
    intro b fuel g1 hd hf he hw
    obtain ⟨f, rfl⟩ : ∃ f, fuel = f + 1 := ⟨fuel - 1, by omega⟩
    unfold md_reckons_l2
    rw [show gm_I g1 44 3 = gm_I g 44 3 from he.1 44 3 rfl, hn.2.1, jg_pos ⟨rgn (by omega), rgn (by omega)⟩, if_pos (by omega), jg_pos (rgn (by omega))]
    by_cases hba : b = a
    · rw [if_pos (by omega), jg_pos (by omega), jl_eq, Int.toNat_natCast]
      exact ih (b + 1) f (gm_wI g1 83 b 0) (by omega) (by omega) (exc_wI he rfl) (fun c hc => by
        by_cases h : c = b
        · rw [h, gI_eq, if_pos hba]
        · rw [gI_ne h]
          exact hw c (by omega))
    · rw [if_neg (by omega), jg_pos (by omega), jl_eq, Int.toNat_natCast]
      exact ih (b + 1) f (gm_wI g1 83 b (-1)) (by omega) (by omega) (exc_wI he rfl) (fun c hc => by
        by_cases h : c = b
        · rw [h, gI_eq, if_neg hba]
        · rw [gI_ne h]
          exact hw c (by omega))
theorem md_reckons_eq {n : Nat} {g : gm_T} (hn : V_num n g) (V : V_jm n g) {E : Nat → Bool} {best : Int} (hE : ldE g best E) {a : Nat} (ha : a < n) : ∃ g2, md_reckons g (a : Int) best = some g2 ∧ exc W_83 nob g g2 ∧ ∀ b, b < n → gm_I g2 83 b = gbf (jA g) (jB g) E (jm g) a n b := by
  have h30 := hn.2.2
  obtain ⟨g1, e1, e2, e3⟩ := md_rec_0 hn (best := best) ha n 0 fz g (by omega) (Nat.lt_of_le_of_lt h30 (fz_gt rfl)) exc_rf (fun c hc => by omega)
  obtain ⟨g2, f1, f2, f3⟩ := md_rec_lp hn V hE (a := a) n 0 fz g1 (by omega) (Nat.lt_of_le_of_lt h30 (fz_gt rfl)) e2 (fun b hb => e3 b hb)
  rw [show ((0 : Nat) : Int) = 0 from rfl] at e1 f1
  unfold md_reckons
  rw [e1, jb1_some, f1, jb1_some]
  exact ⟨g2, rfl, f2, f3⟩
-- the least number of a kind
theorem lst_ex {P : Nat → Prop} (h : ∃ j, P j) : ∃ j, P j ∧ ∀ i, i < j → ¬ P i := by
  obtain ⟨j, hj⟩ := h
  induction j using Nat.strongRecOn with
  | _ j ih =>
    by_cases q : ∃ i, i < j ∧ P i
    · obtain ⟨i, hi, hp⟩ := q
      exact ih i hi hp
    · exact ⟨j, hj, fun i hi hp => q ⟨i, hi, hp⟩⟩
noncomputable def lst (P : Nat → Prop) : Nat := Classical.epsilon fun j => P j ∧ ∀ i, i < j → ¬ P i
theorem lst_sp {P : Nat → Prop} (h : ∃ j, P j) : P (lst P) ∧ ∀ i, i < lst P → ¬ P i := Classical.epsilon_spec (lst_ex h)
theorem lst_eq {P : Nat → Prop} {j : Nat} (h1 : P j) (h2 : ∀ i, i < j → ¬ P i) : lst P = j := by
  obtain ⟨q1, q2⟩ := lst_sp (P := P) ⟨j, h1⟩
  rcases Nat.lt_trichotomy (lst P) j with q | q | q
  · exact absurd q1 (h2 _ q)
  · exact q
  · exact absurd h1 (q2 _ q)
section
variable (A B : Nat → Nat) (E : Nat → Bool) (m : Nat) (w : Nat → Int)
/-- the join j leads from b one nearer -/
def gP (b j : Nat) : Prop := j < m ∧ E j = true ∧ ((A j = b ∧ w (B j) = w b - 1) ∨ (B j = b ∧ w (A j) = w b - 1))
noncomputable def gat (b : Nat) : Nat → Nat
  | 0 => b
  | k + 1 => if A (lst (gP A B E m w (gat b k))) = gat b k then B (lst (gP A B E m w (gat b k))) else A (lst (gP A B E m w (gat b k)))
noncomputable def gj (b k : Nat) : Nat := lst (gP A B E m w (gat A B E m w b k))
end
theorem gat_w {A B : Nat → Nat} {E : Nat → Bool} {m n : Nat} (hn : ∀ j, j < m → A j < n ∧ B j < n) (hne : ∀ j, j < m → A j ≠ B j) {a b d : Nat} (ha : a < n) (hb : b < n) (hd : gbf A B E m a n b = (d : Int)) : ∀ k, k ≤ d → gbf A B E m a n (gat A B E m (gbf A B E m a n) b k) = (d : Int) - k ∧ gat A B E m (gbf A B E m a n) b k < n
  | 0, _ => ⟨by show gbf A B E m a n b = _; rw [hd]; omega, hb⟩
  | k + 1, hk => by
    obtain ⟨h1, h2⟩ := gat_w hn hne ha hb hd k (by omega)
    obtain ⟨j, q1, q2, q3⟩ := gbf_next (E := E) hn ha (r := n) (by omega) (b := gat A B E m (gbf A B E m a n) b k) (d := d - k - 1) (by omega)
    have hex : ∃ j, gP A B E m (gbf A B E m a n) (gat A B E m (gbf A B E m a n) b k) j := by
      refine ⟨j, q1, q2, ?_⟩
      rcases q3 with ⟨q3, q4⟩ | ⟨q3, q4⟩
      · exact Or.inl ⟨q3, by omega⟩
      · exact Or.inr ⟨q3, by omega⟩
    obtain ⟨⟨s1, s2, s3⟩, -⟩ := lst_sp hex
    have hne' := hne _ s1
    have hn' := hn _ s1
    show gbf A B E m a n (if A (lst (gP A B E m (gbf A B E m a n) (gat A B E m (gbf A B E m a n) b k))) = gat A B E m (gbf A B E m a n) b k then B (lst (gP A B E m (gbf A B E m a n) (gat A B E m (gbf A B E m a n) b k))) else A (lst (gP A B E m (gbf A B E m a n) (gat A B E m (gbf A B E m a n) b k)))) = _ ∧ (if A (lst (gP A B E m (gbf A B E m a n) (gat A B E m (gbf A B E m a n) b k))) = gat A B E m (gbf A B E m a n) b k then B (lst (gP A B E m (gbf A B E m a n) (gat A B E m (gbf A B E m a n) b k))) else A (lst (gP A B E m (gbf A B E m a n) (gat A B E m (gbf A B E m a n) b k)))) < n
    rcases s3 with ⟨s3, s4⟩ | ⟨s3, s4⟩
    · rw [if_pos s3]
      exact ⟨by omega, hn'.2⟩
    · rw [if_neg (fun q => hne' (by rw [q, s3]))]
      exact ⟨by omega, hn'.1⟩
theorem gat_P {A B : Nat → Nat} {E : Nat → Bool} {m n : Nat} (hn : ∀ j, j < m → A j < n ∧ B j < n) (hne : ∀ j, j < m → A j ≠ B j) {a b d : Nat} (ha : a < n) (hb : b < n) (hd : gbf A B E m a n b = (d : Int)) {k : Nat} (hk : k < d) : gP A B E m (gbf A B E m a n) (gat A B E m (gbf A B E m a n) b k) (gj A B E m (gbf A B E m a n) b k) ∧ ∀ i, i < gj A B E m (gbf A B E m a n) b k → ¬ gP A B E m (gbf A B E m a n) (gat A B E m (gbf A B E m a n) b k) i := by
  obtain ⟨h1, h2⟩ := gat_w hn hne ha hb hd k (by omega)
  obtain ⟨j, q1, q2, q3⟩ := gbf_next (E := E) hn ha (r := n) (by omega) (b := gat A B E m (gbf A B E m a n) b k) (d := d - k - 1) (by omega)
  refine lst_sp ⟨j, q1, q2, ?_⟩
  rcases q3 with ⟨q3, q4⟩ | ⟨q3, q4⟩
  · exact Or.inl ⟨q3, by omega⟩
  · exact Or.inr ⟨q3, by omega⟩
theorem gbf_0 {A B : Nat → Nat} {E : Nat → Bool} {m n : Nat} (hn : ∀ j, j < m → A j < n ∧ B j < n) {a : Nat} (ha : a < n) (b : Nat) : gbf A B E m a n b = 0 ↔ b = a := by
  rcases gbf_end (E := E) hn ha (r := n) (by omega) b with ⟨d, -, h2, h3⟩ | ⟨h1, h2⟩
  · constructor
    · intro h
      have hd : d = 0 := by omega
      subst hd
      exact h3.1
    · rintro rfl
      have h4 : gL A B E m b 0 b := ⟨rfl, fun e he => by omega⟩
      rw [h2, gL_uniq h3 h4]
      rfl
  · constructor
    · intro h
      omega
    · rintro rfl
      exact absurd (gC_rf b) h2
-- the class's walk
def W_21 (a k : Nat) : Bool := a == 21
theorem scr_21 {g g2 : gm_T} (h : exc W_21 nob g g2) : exc scr scrJ g g2 := exc_mono h (fun a k q => by
  simp only [W_21, beq_iff_eq] at q
  subst q
  rfl) (fun _ _ q => by cases q)
theorem jend {n : Nat} {g : gm_T} (V : V_jn n g) : (∀ j, j < jm g → jA g j < n ∧ jB g j < n) ∧ ∀ j, j < jm g → jA g j ≠ jB g j := ⟨fun j hj => ⟨(V.2.1 j hj).1.2.2, (V.2.1 j hj).2.2.1.2.2⟩, fun j hj => (V.2.1 j hj).2.2.2.2.2.1⟩
theorem cj_walk_in {n : Nat} {g : gm_T} (h30 : n ≤ 30) (V : V_jn n g) {T : Nat} {E : Nat → Bool} (hT : isM g T E) {w : Nat → Int} (hw : ∀ b, b < n → gm_I g 20 b = w b ∧ -1 ≤ w b ∧ w b ≤ 30) {b J v : Nat} (hb : b < n) (hv : v < 30) (hwb : w b = (v : Int) + 1) (hJ : gP (jA g) (jB g) E (jm g) w b J ∧ ∀ i, i < J → ¬ gP (jA g) (jB g) E (jm g) w b i) {k : Nat} (hk : k < 30) : ∀ (d i fuel : Nat) (g1 : gm_T), i + d = J → d < fuel → exc W_21 nob g g1 → cj_walk_l24 (lN T) (v : Int) fuel (b : Int) (k : Int) (i : Int) g1 = some (((if jA g J = b then jB g J else jA g J : Nat) : Int), (k : Int) + 1, gm_wI g1 21 k (J : Int)) := by
  obtain ⟨m60, m1, m2⟩ := jm_60 V
  obtain ⟨hn, hne⟩ := jend V
  have hJm := hJ.1.1
  -- one join
  have one : ∀ (i : Nat) (g1 : gm_T), i < jm g → exc W_21 nob g g1 → (jb1 (cj_isIn g1 (lN T) (i : Int)) fun (v32 : Int) => jb1 (jg (rg v32) (if v32 = 0 then (some (-1)) else (jb1 (cj_otherEnd g1 (i : Int) (b : Int)) fun (v35 : Int) => some v35))) fun (v33 : Int) => some v33) = some (if E i = true then (if jA g i = b then ((jB g i : Nat) : Int) else if jB g i = b then ((jA g i : Nat) : Int) else -1) else -1) := by
    intro i g1 hi he
    obtain ⟨⟨a1, a2, a3⟩, -, ⟨b1, b2, b3⟩, -⟩ := V.2.1 i hi
    have q15 : gm_I g1 15 i = ((jA g i : Nat) : Int) := by rw [he.1 15 i rfl, a1, a2]
    have q17 : gm_I g1 17 i = ((jB g i : Nat) : Int) := by rw [he.1 17 i rfl, b1, b2]
    rw [isIn_eq g1 (Nat.lt_trans hT.1 (by decide)) (by omega), jb1_some, hT.2 i hi]
    by_cases hE : E i = true
    · simp only [if_pos hE]
      rw [jg_pos (rgk rfl), if_neg n10]
      unfold cj_otherEnd
      rw [jg_pos (by omega), Int.toNat_natCast, q15, jg_pos ⟨rgn (by omega), rgn (by omega)⟩]
      by_cases c1 : jA g i = b
      · rw [if_pos (by omega), if_pos c1, q17]
        rfl
      · rw [if_neg (by omega), if_neg c1, q17, jg_pos (rgn (by omega))]
        by_cases c2 : jB g i = b
        · rw [if_pos (by omega), if_pos c2]
          rfl
        · rw [if_neg (by omega), if_neg c2]
          rfl
    · simp only [if_neg hE]
      rw [jg_pos (rgk rfl), if_pos trivial]
      rfl
  intro d
  induction d with
  | zero =>
    intro i fuel g1 hd hf he
    obtain ⟨f, rfl⟩ : ∃ f, fuel = f + 1 := ⟨fuel - 1, by omega⟩
    have hi : i = J := by omega
    subst hi
    have h1 := one i g1 hJm he
    obtain ⟨q1, q2, q3⟩ := hJ.1
    have hn' := hn i q1
    have hne' := hne i q1
    unfold cj_walk_l24
    rw [show gm_I g1 14 4 = gm_I g 14 4 from he.1 14 4 rfl, m2, jg_pos ⟨rgn (by omega), rgn (by omega)⟩, if_pos (by omega)]
    rw [isIn_eq g1 (Nat.lt_trans hT.1 (by decide)) (by omega), jb1_some] at h1 ⊢
    have hval : (if E i = true then (if jA g i = b then ((jB g i : Nat) : Int) else if jB g i = b then ((jA g i : Nat) : Int) else -1) else -1) = (((if jA g i = b then jB g i else jA g i) : Nat) : Int) := by
      rw [if_pos q2]
      rcases q3 with ⟨q3, -⟩ | ⟨q3, -⟩
      · rw [if_pos q3, if_pos q3]
      · rw [if_neg (fun z => hne' (by rw [z, q3])), if_pos q3, if_neg (fun z => hne' (by rw [z, q3]))]
    rw [hval] at h1
    generalize hD : jg (rg (if T.testBit i = true then (1 : Int) else 0)) _ = D at h1 ⊢
    cases hD2 : D with
    | none => rw [hD2] at h1; cases h1
    | some q =>
      rw [hD2, jb1_some] at h1
      have hq : q = (((if jA g i = b then jB g i else jA g i) : Nat) : Int) := Option.some.inj h1
      subst hq
      have hx : (if jA g i = b then jB g i else jA g i) < n := by split <;> omega
      have hwx := hw _ hx
      have hval2 : w (if jA g i = b then jB g i else jA g i) = (v : Int) := by
        rcases q3 with ⟨q3, q4⟩ | ⟨q3, q4⟩
        · rw [if_pos q3]; omega
        · rw [if_neg (fun z => hne' (by rw [z, q3]))]; omega
      generalize (if jA g i = b then jB g i else jA g i) = x at *
      rw [jb1_some, jg_pos (rgn (by omega)), if_neg (by omega), jg_pos (by omega), Int.toNat_natCast, show gm_I g1 20 x = gm_I g 20 x from he.1 20 x rfl, hwx.1, hval2, jg_pos ⟨rgn (by omega), rgn (by omega)⟩, if_pos rfl, jg_pos (by omega), jl_eq, Int.toNat_natCast]
  | succ d ih =>
    intro i fuel g1 hd hf he
    obtain ⟨f, rfl⟩ : ∃ f, fuel = f + 1 := ⟨fuel - 1, by omega⟩
    have h1 := one i g1 (by omega) he
    have hno := hJ.2 i (by omega)
    have hn' := hn i (by omega)
    have hne' := hne i (by omega)
    have next := ih (i + 1) f g1 (by omega) (by omega) he
    unfold cj_walk_l24
    rw [show gm_I g1 14 4 = gm_I g 14 4 from he.1 14 4 rfl, m2, jg_pos ⟨rgn (by omega), rgn (by omega)⟩, if_pos (by omega)]
    rw [isIn_eq g1 (Nat.lt_trans hT.1 (by decide)) (by omega), jb1_some] at h1 ⊢
    generalize hD : jg (rg (if T.testBit i = true then (1 : Int) else 0)) _ = D at h1 ⊢
    cases hD2 : D with
    | none => rw [hD2] at h1; cases h1
    | some q =>
      rw [hD2, jb1_some] at h1
      have hq : q = (if E i = true then (if jA g i = b then ((jB g i : Nat) : Int) else if jB g i = b then ((jA g i : Nat) : Int) else -1) else -1) := Option.some.inj h1
      rw [jb1_some]
      have go : ∀ x : Nat, x < n → w x ≠ (v : Int) → q = (x : Int) → jg (rg q) (if q < 0 then cj_walk_l24 (lN T) (v : Int) f (b : Int) (k : Int) ((i : Int) + 1) g1 else jg (0 ≤ q ∧ q < 30) (jg (rg (gm_I g1 20 q.toNat) ∧ rg (v : Int)) (if gm_I g1 20 q.toNat = (v : Int) then jg (0 ≤ (k : Int) ∧ (k : Int) < 30) (jl (gm_wI g1 21 (k : Int).toNat (i : Int)) fun (g40 : gm_T) => some (q, (k : Int) + 1, g40)) else cj_walk_l24 (lN T) (v : Int) f (b : Int) (k : Int) ((i : Int) + 1) g1))) = some (((if jA g J = b then jB g J else jA g J : Nat) : Int), (k : Int) + 1, gm_wI g1 21 k (J : Int)) := by
        intro x hx hwx hqx
        subst hqx
        have hwx2 := hw x hx
        rw [jg_pos (rgn (by omega)), if_neg (by omega), jg_pos (by omega), Int.toNat_natCast, show gm_I g1 20 x = gm_I g 20 x from he.1 20 x rfl, hwx2.1, jg_pos ⟨⟨by omega, by omega⟩, rgn (by omega)⟩, if_neg hwx]
        exact next
      by_cases hE : E i = true
      · rw [if_pos hE] at hq
        by_cases c1 : jA g i = b
        · rw [if_pos c1] at hq
          exact go (jB g i) hn'.2 (fun z => hno ⟨by omega, hE, Or.inl ⟨c1, by omega⟩⟩) hq
        · rw [if_neg c1] at hq
          by_cases c2 : jB g i = b
          · rw [if_pos c2] at hq
            exact go (jA g i) hn'.1 (fun z => hno ⟨by omega, hE, Or.inr ⟨c2, by omega⟩⟩) hq
          · rw [if_neg c2] at hq
            subst hq
            rw [jg_pos (rgk rfl), if_pos (by decide)]
            exact next
      · rw [if_neg hE] at hq
        subst hq
        rw [jg_pos (rgk rfl), if_pos (by decide)]
        exact next
theorem cj_walk_lp {n : Nat} {g : gm_T} (h30 : n ≤ 30) (V : V_jn n g) {T : Nat} {E : Nat → Bool} (hT : isM g T E) {a b d : Nat} (ha : a < n) (hb : b < n) (hw : ∀ c, c < n → gm_I g 20 c = gbf (jA g) (jB g) E (jm g) a n c) (hd : gbf (jA g) (jB g) E (jm g) a n b = (d : Int)) : ∀ (e k fuel : Nat) (g1 : gm_T), k + e = d → e < fuel → exc W_21 nob g g1 → (∀ i, i < k → gm_I g1 21 i = ((gj (jA g) (jB g) E (jm g) (gbf (jA g) (jB g) E (jm g) a n) b i : Nat) : Int)) → ∃ g2, cj_walk_l16 (lN T) fuel ((gat (jA g) (jB g) E (jm g) (gbf (jA g) (jB g) E (jm g) a n) b k : Nat) : Int) (k : Int) ((d : Int) - k - 1) g1 = some ((d : Int), g2) ∧ exc W_21 nob g g2 ∧ ∀ i, i < d → gm_I g2 21 i = ((gj (jA g) (jB g) E (jm g) (gbf (jA g) (jB g) E (jm g) a n) b i : Nat) : Int) := by
  obtain ⟨m60, m1, m2⟩ := jm_60 V
  obtain ⟨hn, hne⟩ := jend V
  have hd30 : d < n := by
    rcases gbf_end (E := E) hn ha (r := n) (by omega) b with ⟨e, h1, h2, h3⟩ | ⟨h1, h2⟩ <;> omega
  intro e
  induction e with
  | zero =>
    intro k fuel g1 he hf hx hi
    obtain ⟨f, rfl⟩ : ∃ f, fuel = f + 1 := ⟨fuel - 1, by omega⟩
    have hk : k = d := by omega
    subst hk
    unfold cj_walk_l16
    rw [jg_pos ⟨by omega, by omega⟩, if_pos (by omega)]
    exact ⟨g1, rfl, hx, hi⟩
  | succ e ih =>
    intro k fuel g1 he hf hx hi
    obtain ⟨f, rfl⟩ : ∃ f, fuel = f + 1 := ⟨fuel - 1, by omega⟩
    obtain ⟨w1, w2⟩ := gat_w hn hne ha hb hd k (by omega)
    have hP := gat_P hn hne ha hb hd (k := k) (by omega)
    have hw2 : ∀ c, c < n → gm_I g 20 c = gbf (jA g) (jB g) E (jm g) a n c ∧ -1 ≤ gbf (jA g) (jB g) E (jm g) a n c ∧ gbf (jA g) (jB g) E (jm g) a n c ≤ 30 := fun c hc => ⟨hw c hc, by
      rcases gbf_end (E := E) hn ha (r := n) (by omega) c with ⟨e, h1, h2, h3⟩ | ⟨h1, h2⟩ <;> omega⟩
    have hin := cj_walk_in h30 V hT hw2 w2 (show d - k - 1 < 30 by omega) (show _ = ((d - k - 1 : Nat) : Int) + 1 by omega) hP (show k < 30 by omega) (gj (jA g) (jB g) E (jm g) (gbf (jA g) (jB g) E (jm g) a n) b k) 0 fz g1 (by omega) (Nat.lt_trans hP.1.1 (Nat.lt_of_le_of_lt m60 (fz_gt rfl))) hx
    unfold cj_walk_l16
    rw [show ((0 : Nat) : Int) = 0 from rfl, show ((d - k - 1 : Nat) : Int) = (d : Int) - k - 1 by omega] at hin
    rw [jg_pos ⟨by omega, by omega⟩, if_neg (by omega), hin, jb3_some]
    have h2 := ih (k + 1) f (gm_wI g1 21 k ((gj (jA g) (jB g) E (jm g) (gbf (jA g) (jB g) E (jm g) a n) b k : Nat) : Int)) (by omega) (by omega) (exc_wI hx rfl) (fun i hik => by
      by_cases h : i = k
      · rw [h, gI_eq]
      · rw [gI_ne h]
        exact hi i (by omega))
    rw [show (d : Int) - ((k + 1 : Nat) : Int) - 1 = (d : Int) - k - 1 + -1 by omega] at h2
    exact h2
theorem cj_walk_eq {n : Nat} {g : gm_T} (h30 : n ≤ 30) (V : V_jn n g) {T : Nat} {E : Nat → Bool} (hT : isM g T E) {a b d : Nat} (ha : a < n) (hb : b < n) (hw : ∀ c, c < n → gm_I g 20 c = gbf (jA g) (jB g) E (jm g) a n c) (hd : gbf (jA g) (jB g) E (jm g) a n b = (d : Int)) : ∃ g2, cj_walk g (b : Int) (lN T) = some ((d : Int), g2) ∧ exc W_21 nob g g2 ∧ ∀ i, i < d → gm_I g2 21 i = ((gj (jA g) (jB g) E (jm g) (gbf (jA g) (jB g) E (jm g) a n) b i : Nat) : Int) := by
  obtain ⟨m60, m1, m2⟩ := jm_60 V
  obtain ⟨hn, hne⟩ := jend V
  have hd30 : d < n := by
    rcases gbf_end (E := E) hn ha (r := n) (by omega) b with ⟨e, h1, h2, h3⟩ | ⟨h1, h2⟩ <;> omega
  obtain ⟨g2, e1, e2⟩ := cj_walk_lp h30 V hT ha hb hw hd d 0 fz g (by omega) (Nat.lt_of_lt_of_le hd30 (Nat.le_trans h30 (Nat.le_of_lt (fz_gt rfl)))) exc_rf (fun i hi => by omega)
  rw [show ((0 : Nat) : Int) = 0 from rfl, show (d : Int) - 0 - 1 = (d : Int) - 1 by omega] at e1
  unfold cj_walk
  rw [jg_pos (by omega), jl_eq, Int.toNat_natCast, hw b hb, hd]
  show ∃ g2, jb2 (cj_walk_l16 (lN T) fz (b : Int) 0 ((d : Int) - 1) g) _ = _ ∧ _
  rw [show cj_walk_l16 (lN T) fz (b : Int) 0 ((d : Int) - 1) g = some ((d : Int), g2) from e1, jb2_some]
  exact ⟨g2, rfl, e2⟩
-- the reference's goes
def W_way (a k : Nat) : Bool := a == 84 || (a == 44 && k == 55)
theorem md_goes_in {n : Nat} {g : gm_T} (h30 : n ≤ 30) (V : V_jm n g) {E : Nat → Bool} {best : Int} (hE : ∀ j, j < jm g → md_leads g (j : Int) best = some (if E j = true then 1 else 0)) {c13 : Int} {w : Nat → Int} (hw : ∀ b, b < n → gm_I g 83 b = w b ∧ -1 ≤ w b ∧ w b ≤ 30) {b J : Nat} (hb : b < n) (hJ : gP (jA g) (jB g) E (jm g) w b J ∧ ∀ i, i < J → ¬ gP (jA g) (jB g) E (jm g) w b i) : ∀ (d i fuel : Nat), i + d = J → d < fuel → md_goes_l18 g c13 best (b : Int) fuel (i : Int) = some (J : Int) := by
  obtain ⟨m60, m1, m2⟩ := jm_60m V
  obtain ⟨hn, hne⟩ := jendm V
  have hJm := hJ.1.1
  have hwb := hw b hb
  -- one join: found or not
  have one : ∀ (i f : Nat), i < jm g → md_goes_l18 g c13 best (b : Int) (f + 1) (i : Int) = @ite _ (gP (jA g) (jB g) E (jm g) w b i) (gd _) (some (i : Int)) (md_goes_l18 g c13 best (b : Int) f ((i : Int) + 1)) := by
    intro i f hi
    obtain ⟨⟨a1, a2, a3⟩, -, ⟨b1, b2, b3⟩, -⟩ := V.2.1 i hi
    have hwA := hw _ a3
    have hwB := hw _ b3
    have hne' := hne i hi
    show jb1 (md_leads g (i : Int) best) _ = _
    rw [hE i hi, jb_tst]
    by_cases hEi : E i = true
    · rw [if_pos hEi, jg_pos (by omega), Int.toNat_natCast, a2, b2, jg_pos ⟨rgn (by omega), rgn (by omega)⟩]
      by_cases c1 : jA g i = b
      · rw [if_pos (by omega), jg_pos (by omega), jg_pos (by omega), Int.toNat_natCast, Int.toNat_natCast, hwB.1, hwb.1, jg_pos ⟨⟨by omega, by omega⟩, by omega, by omega⟩]
        by_cases c2 : w (jB g i) = w b - 1
        · rw [if_pos c2, @if_pos _ (gd _) ⟨hi, hEi, Or.inl ⟨c1, c2⟩⟩]
        · rw [if_neg c2, if_neg (by omega), @if_neg _ (gd _)]
          rintro ⟨-, -, ⟨-, z⟩ | ⟨z, -⟩⟩
          · exact c2 z
          · omega
      · rw [if_neg (by omega), jg_pos (rgn (by omega))]
        by_cases c2 : jB g i = b
        · rw [if_pos (by omega), jg_pos (by omega), jg_pos (by omega), Int.toNat_natCast, Int.toNat_natCast, hwA.1, hwb.1, jg_pos ⟨⟨by omega, by omega⟩, by omega, by omega⟩]
          by_cases c3 : w (jA g i) = w b - 1
          · rw [if_pos c3, @if_pos _ (gd _) ⟨hi, hEi, Or.inr ⟨c2, c3⟩⟩]
          · rw [if_neg c3, @if_neg _ (gd _)]
            rintro ⟨-, -, ⟨z, -⟩ | ⟨-, z⟩⟩
            · exact c1 z
            · exact c3 z
        · rw [if_neg (by omega), @if_neg _ (gd _)]
          rintro ⟨-, -, ⟨z, -⟩ | ⟨z, -⟩⟩
          · exact c1 z
          · exact c2 z
    · rw [if_neg hEi, @if_neg _ (gd _)]
      rintro ⟨-, z, -⟩
      exact hEi z
  intro d
  induction d with
  | zero =>
    intro i fuel hd hf
    obtain ⟨f, rfl⟩ : ∃ f, fuel = f + 1 := ⟨fuel - 1, by omega⟩
    have hi : i = J := by omega
    subst hi
    rw [one i f hJm, @if_pos _ (gd _) hJ.1]
  | succ d ih =>
    intro i fuel hd hf
    obtain ⟨f, rfl⟩ : ∃ f, fuel = f + 1 := ⟨fuel - 1, by omega⟩
    rw [one i f (by omega), @if_neg _ (gd _) (hJ.2 i (by omega))]
    exact ih (i + 1) f (by omega) (by omega)
theorem md_goes_lp {n : Nat} {g : gm_T} (h30 : n ≤ 30) (V : V_jm n g) {E : Nat → Bool} {best : Int} (hE : ∀ g', exc W_way nob g g' → ∀ j, j < jm g → md_leads g' (j : Int) best = some (if E j = true then 1 else 0)) {a b d u : Nat} (ha : a < n) (hb : b < n) (hw : ∀ c, c < n → gm_I g 83 c = gbf (jA g) (jB g) E (jm g) a n c) (hd : gbf (jA g) (jB g) E (jm g) a n b = (d : Int)) (hu : u + d ≤ 60) : ∀ (e k fuel : Nat) (g1 : gm_T), k + e = d → e < fuel → exc W_way nob g g1 → gm_I g1 44 55 = ((u + k : Nat) : Int) → (∀ i, i < u → gm_I g1 84 i = gm_I g 84 i) → (∀ i, i < k → gm_I g1 84 (u + i) = ((gj (jA g) (jB g) E (jm g) (gbf (jA g) (jB g) E (jm g) a n) b i : Nat) : Int)) → ∃ g2, md_goes_l9 (a : Int) best fuel ((gat (jA g) (jB g) E (jm g) (gbf (jA g) (jB g) E (jm g) a n) b k : Nat) : Int) g1 = some g2 ∧ exc W_way nob g g2 ∧ gm_I g2 44 55 = ((u + d : Nat) : Int) ∧ (∀ i, i < u → gm_I g2 84 i = gm_I g 84 i) ∧ ∀ i, i < d → gm_I g2 84 (u + i) = ((gj (jA g) (jB g) E (jm g) (gbf (jA g) (jB g) E (jm g) a n) b i : Nat) : Int) := by
  obtain ⟨m60, m1, m2⟩ := jm_60m V
  obtain ⟨hn, hne⟩ := jendm V
  have hd30 : d < n := by
    rcases gbf_end (E := E) hn ha (r := n) (by omega) b with ⟨e, h1, h2, h3⟩ | ⟨h1, h2⟩ <;> omega
  intro e
  induction e with
  | zero =>
    intro k fuel g1 he hf hx h55 hold hi
    obtain ⟨f, rfl⟩ : ∃ f, fuel = f + 1 := ⟨fuel - 1, by omega⟩
    have hk : k = d := by omega
    subst hk
    obtain ⟨w1, w2⟩ := gat_w hn hne ha hb hd k (by omega)
    have h0 := (gbf_0 (E := E) hn ha (gat (jA g) (jB g) E (jm g) (gbf (jA g) (jB g) E (jm g) a n) b k)).mp (by omega)
    unfold md_goes_l9
    rw [h0, jg_pos ⟨rgn (by omega), rgn (by omega)⟩, if_pos rfl]
    exact ⟨g1, rfl, hx, h55, hold, hi⟩
  | succ e ih =>
    intro k fuel g1 he hf hx h55 hold hi
    obtain ⟨f, rfl⟩ : ∃ f, fuel = f + 1 := ⟨fuel - 1, by omega⟩
    obtain ⟨w1, w2⟩ := gat_w hn hne ha hb hd k (by omega)
    have h0 := gbf_0 (E := E) hn ha (gat (jA g) (jB g) E (jm g) (gbf (jA g) (jB g) E (jm g) a n) b k)
    have hP := gat_P hn hne ha hb hd (k := k) (by omega)
    have V1 : V_jm n g1 := by
      have hk1 : keepC g1 = keepC g := keepC_exc hx (fun a k q => by
        simp only [W_way, Bool.or_eq_true, Bool.and_eq_true, beq_iff_eq] at q
        rcases q with rfl | ⟨rfl, rfl⟩ <;> rfl) (fun _ _ q => by cases q)
      exact V_jm_tr hk1 V
    have eA : jA g1 = jA g := funext fun j => by
      unfold jA
      rw [hx.1 65 j rfl]
    have eB : jB g1 = jB g := funext fun j => by
      unfold jB
      rw [hx.1 67 j rfl]
    have em : jm g1 = jm g := by
      unfold jm
      rw [hx.1 44 24 rfl]
    have hin := md_goes_in h30 V1 (E := E) (best := best) (c13 := (a : Int)) (w := gbf (jA g) (jB g) E (jm g) a n) (fun j hj => hE g1 hx j (by rw [← em]; exact hj)) (fun c hc => ⟨by rw [hx.1 83 c rfl]; exact hw c hc, by
      rcases gbf_end (E := E) hn ha (r := n) (by omega) c with ⟨e, h1, h2, h3⟩ | ⟨h1, h2⟩ <;> omega⟩) w2 (by rw [eA, eB, em]; exact hP) (gj (jA g) (jB g) E (jm g) (gbf (jA g) (jB g) E (jm g) a n) b k) 0 fz (by omega) (Nat.lt_trans hP.1.1 (Nat.lt_of_le_of_lt m60 (fz_gt rfl)))
    rw [show ((0 : Nat) : Int) = 0 from rfl] at hin
    have hsucc : gat (jA g) (jB g) E (jm g) (gbf (jA g) (jB g) E (jm g) a n) b (k + 1) = if jA g (gj (jA g) (jB g) E (jm g) (gbf (jA g) (jB g) E (jm g) a n) b k) = gat (jA g) (jB g) E (jm g) (gbf (jA g) (jB g) E (jm g) a n) b k then jB g (gj (jA g) (jB g) E (jm g) (gbf (jA g) (jB g) E (jm g) a n) b k) else jA g (gj (jA g) (jB g) E (jm g) (gbf (jA g) (jB g) E (jm g) a n) b k) := rfl
    generalize hj : gj (jA g) (jB g) E (jm g) (gbf (jA g) (jB g) E (jm g) a n) b k = j at *
    obtain ⟨q1, q2, q3⟩ := hP.1
    obtain ⟨⟨a1, a2, a3⟩, -, ⟨b1, b2, b3⟩, -⟩ := V.2.1 j q1
    unfold md_goes_l9
    rw [jg_pos ⟨rgn (by omega), rgn (by omega)⟩, if_neg (fun z => by have := h0.mpr (by omega); omega), hin, jb1_some, h55, jg_pos (by omega)]
    simp only [jl_eq, Int.toNat_natCast, gI_oth (show (65 : Nat) ≠ 44 by decide), gI_oth (show (65 : Nat) ≠ 84 by decide), gI_oth (show (67 : Nat) ≠ 44 by decide), gI_oth (show (67 : Nat) ≠ 84 by decide), gI_oth (show (44 : Nat) ≠ 84 by decide)]
    rw [jg_pos (by omega), show gm_I g1 65 j = gm_I g 65 j from hx.1 65 j rfl, show gm_I g1 67 j = gm_I g 67 j from hx.1 67 j rfl, a2, b2, jg_pos (rgn (by omega)), h55]
    have next := ih (k + 1) f (gm_wI (gm_wI g1 84 (u + k) (j : Int)) 44 55 (((u + k : Nat) : Int) + 1)) (by omega) (by omega) (exc_wI (exc_wI hx rfl) rfl) (by rw [gI_eq]; omega) (fun i hi2 => by
      rw [gI_oth (by decide), gI_ne (by omega)]
      exact hold i hi2) (fun i hi2 => by
      rw [gI_oth (by decide)]
      by_cases h : i = k
      · rw [h, gI_eq, hj]
      · rw [gI_ne (by omega)]
        exact hi i (by omega))
    rw [hsucc] at next
    by_cases c1 : jA g j = gat (jA g) (jB g) E (jm g) (gbf (jA g) (jB g) E (jm g) a n) b k
    · rw [if_pos c1] at next
      rw [if_pos (by omega)]
      exact next
    · rw [if_neg c1] at next
      rw [if_neg (by omega)]
      exact next
def W_goes (a k : Nat) : Bool := a == 83 || a == 84 || (a == 44 && k == 55)
theorem scr_goes {g g2 : gm_T} (h : exc W_goes nob g g2) : exc scr scrJ g g2 := exc_mono h (fun a k q => by
  simp only [W_goes, Bool.or_eq_true, Bool.and_eq_true, beq_iff_eq] at q
  rcases q with (rfl | rfl) | ⟨rfl, rfl⟩ <;> rfl) (fun _ _ q => by cases q)
theorem md_goes_eq {n : Nat} {g : gm_T} (hn3 : V_num n g) (V : V_jm n g) {E : Nat → Bool} {best : Int} (hE : ∀ g', exc W_goes nob g g' → ∀ j, j < jm g → md_leads g' (j : Int) best = some (if E j = true then 1 else 0)) {a b d u : Nat} (ha : a < n) (hb : b < n) (hd : gbf (jA g) (jB g) E (jm g) a n b = (d : Int)) (hu : u + d ≤ 60) (h55 : gm_I g 44 55 = (u : Int)) : ∃ g2, md_goes g (b : Int) (a : Int) best = some g2 ∧ exc W_goes nob g g2 ∧ gm_I g2 44 55 = ((u + d : Nat) : Int) ∧ (∀ i, i < u → gm_I g2 84 i = gm_I g 84 i) ∧ ∀ i, i < d → gm_I g2 84 (u + i) = ((gj (jA g) (jB g) E (jm g) (gbf (jA g) (jB g) E (jm g) a n) b i : Nat) : Int) := by
  have h30 := hn3.2.2
  obtain ⟨hn, hne⟩ := jendm V
  have hd30 : d < n := by
    rcases gbf_end (E := E) hn ha (r := n) (by omega) b with ⟨e, h1, h2, h3⟩ | ⟨h1, h2⟩ <;> omega
  have m83 : ∀ {g g' : gm_T}, exc W_83 nob g g' → exc W_goes nob g g' := fun h => exc_mono h (fun a k q => by
    simp only [W_83, W_goes, Bool.or_eq_true, Bool.and_eq_true, beq_iff_eq] at q ⊢
    omega) (fun _ _ q => q)
  have mway : ∀ {g g' : gm_T}, exc W_way nob g g' → exc W_goes nob g g' := fun h => exc_mono h (fun a k q => by
    simp only [W_way, W_goes, Bool.or_eq_true, Bool.and_eq_true, beq_iff_eq] at q ⊢
    omega) (fun _ _ q => q)
  obtain ⟨g1, e1, e2, e3⟩ := md_reckons_eq hn3 V (E := E) (best := best) (fun g' h' => hE g' (m83 h')) ha
  have V1 : V_jm n g1 := V_jm_tr (keepC_scr (scr_83 e2)) V
  have eA : jA g1 = jA g := funext fun j => by
    unfold jA
    rw [e2.1 65 j rfl]
  have eB : jB g1 = jB g := funext fun j => by
    unfold jB
    rw [e2.1 67 j rfl]
  have em : jm g1 = jm g := by
    unfold jm
    rw [e2.1 44 24 rfl]
  obtain ⟨g2, f1, f2, f3, f4, f5⟩ := md_goes_lp h30 V1 (E := E) (best := best) (a := a) (b := b) (d := d) (u := u) (fun g' h' j hj => hE g' (exc_tr (m83 e2) (mway h')) j (by rw [← em]; exact hj)) ha hb (by rw [eA, eB, em]; exact e3) (by rw [eA, eB, em]; exact hd) hu d 0 fz g1 (by omega) (Nat.lt_of_lt_of_le hd30 (Nat.le_trans h30 (Nat.le_of_lt (fz_gt rfl)))) exc_rf (by rw [e2.1 44 55 rfl, h55]; rfl) (fun _ _ => rfl) (fun i hi => by omega)
  rw [eA, eB, em] at f1 f5
  unfold md_goes
  rw [e1, jb1_some]
  refine ⟨g2, ?_, exc_tr (m83 e2) (mway f2), f3, fun i hi => ?_, f5⟩
  · rw [show md_goes_l9 (a : Int) best fz (b : Int) g1 = some g2 from f1, jb1_some]
  · rw [f4 i hi, e2.1 84 i rfl]
