/-! Joins as edges: what leads where, how far; the rounds that find it. -/
section
variable (A B : Nat → Nat) (E : Nat → Bool) (m : Nat)
/-- b is at most d joins away from a -/
def gR (a : Nat) : Nat → Nat → Prop
  | 0, b => b = a
  | d + 1, b => gR a d b ∨ ∃ j, j < m ∧ E j = true ∧ ((gR a d (A j) ∧ B j = b) ∨ (gR a d (B j) ∧ A j = b))
def gC (a b : Nat) : Prop := ∃ d, gR A B E m a d b
def gL (a d b : Nat) : Prop := gR A B E m a d b ∧ ∀ e, e < d → ¬ gR A B E m a e b
end
section
variable {A B : Nat → Nat} {E : Nat → Bool} {m : Nat}
theorem gR_S {a d b : Nat} (h : gR A B E m a d b) : gR A B E m a (d + 1) b := Or.inl h
theorem gR_le {a d b : Nat} (h : gR A B E m a d b) : ∀ e, d ≤ e → gR A B E m a e b := by
  intro e he
  obtain ⟨k, rfl⟩ : ∃ k, e = d + k := ⟨e - d, by omega⟩
  clear he
  induction k with
  | zero => exact h
  | succ k ih => exact gR_S ih
theorem gC_rf (a : Nat) : gC A B E m a a := ⟨0, rfl⟩
theorem gC_AB {a j : Nat} (hj : j < m) (hE : E j = true) (h : gC A B E m a (A j)) : gC A B E m a (B j) := by
  obtain ⟨d, hd⟩ := h
  exact ⟨d + 1, Or.inr ⟨j, hj, hE, Or.inl ⟨hd, rfl⟩⟩⟩
theorem gC_BA {a j : Nat} (hj : j < m) (hE : E j = true) (h : gC A B E m a (B j)) : gC A B E m a (A j) := by
  obtain ⟨d, hd⟩ := h
  exact ⟨d + 1, Or.inr ⟨j, hj, hE, Or.inr ⟨hd, rfl⟩⟩⟩
/-- a set that no join leaves holds all that is led to -/
theorem gC_closed {S : Nat → Prop} (hS : ∀ j, j < m → E j = true → (S (A j) ↔ S (B j))) {a b : Nat} (ha : S a) (h : gC A B E m a b) : S b := by
  obtain ⟨d, hd⟩ := h
  induction d generalizing b with
  | zero => rw [show b = a from hd]; exact ha
  | succ d ih =>
    rcases hd with hd | ⟨j, hj, hE, ⟨h1, rfl⟩ | ⟨h1, rfl⟩⟩
    · exact ih hd
    · exact (hS j hj hE).mp (ih h1)
    · exact (hS j hj hE).mpr (ih h1)
theorem gC_tr {a b c : Nat} (h1 : gC A B E m a b) (h2 : gC A B E m b c) : gC A B E m a c := gC_closed (S := fun x => gC A B E m a x) (fun _ hj hE => ⟨gC_AB hj hE, gC_BA hj hE⟩) h1 h2
theorem gC_sy {a b : Nat} (h : gC A B E m a b) : gC A B E m b a := gC_closed (S := fun x => gC A B E m x a) (fun j hj hE => ⟨fun q => gC_tr (gC_BA hj hE (gC_rf _)) q, fun q => gC_tr (gC_AB hj hE (gC_rf _)) q⟩) (gC_rf a) h
theorem gC_lt {n : Nat} (hn : ∀ j, j < m → A j < n ∧ B j < n) {a b : Nat} (ha : a < n) (h : gC A B E m a b) : b < n := gC_closed (S := fun x => x < n) (fun j hj _ => ⟨fun _ => (hn j hj).2, fun _ => (hn j hj).1⟩) ha h
theorem ct_sub {p q : Nat → Bool} : ∀ {n : Nat}, (∀ i, i < n → p i = true → q i = true) → ct p n ≤ ct q n
  | 0, _ => Nat.le_refl _
  | n + 1, h => by
    have h1 := ct_sub (p := p) (q := q) (n := n) (fun i hi => h i (by omega))
    have h2 := h n (by omega)
    rw [ct_succ, ct_succ]
    cases hp : p n with
    | false => simp only [Bool.false_eq_true, if_false]; omega
    | true => rw [h2 hp]; simp only [if_true]; omega
theorem ct_more1 {p q : Nat → Bool} : ∀ {n : Nat}, (∀ i, i < n → p i = true → q i = true) → (∃ i, i < n ∧ q i = true ∧ p i = false) → ct p n + 1 ≤ ct q n
  | 0, _, h => by obtain ⟨i, hi, -⟩ := h; omega
  | n + 1, h, hx => by
    rw [ct_succ, ct_succ]
    by_cases hq : q n = true ∧ p n = false
    · have h1 := ct_sub (p := p) (q := q) (n := n) (fun i hi => h i (by omega))
      rw [hq.1, hq.2]
      simp only [Bool.false_eq_true, if_false, if_true]
      omega
    · have h1 := ct_more1 (p := p) (q := q) (n := n) (fun i hi => h i (by omega)) (by
        obtain ⟨i, hi, h1, h2⟩ := hx
        by_cases he : i = n
        · subst he; exact absurd ⟨h1, h2⟩ hq
        · exact ⟨i, by omega, h1, h2⟩)
      have h2 := h n (by omega)
      cases hp : p n with
      | false => simp only [Bool.false_eq_true, if_false]; omega
      | true => rw [h2 hp]; simp only [if_true]; omega
theorem gR_all {n : Nat} (hn : ∀ j, j < m → A j < n ∧ B j < n) {a b : Nat} (ha : a < n) (h : gC A B E m a b) : gR A B E m a (n - 1) b := by
  have hin : ∀ d b, gR A B E m a d b → b < n := fun d b q => gC_lt hn ha ⟨d, q⟩
  have grow : ∀ d, (∀ e, e < d → ∃ b, gR A B E m a (e + 1) b ∧ ¬ gR A B E m a e b) → d + 1 ≤ ct (fun b => @decide (gR A B E m a d b) (gd _)) n := by
    intro d
    induction d with
    | zero =>
      intro _
      have h1 : ct (fun _ => false) n = 0 := ct_none (fun _ _ => rfl)
      have h2 := ct_more1 (p := fun _ => false) (q := fun b => @decide (gR A B E m a 0 b) (gd _)) (n := n) (fun _ _ q => by cases q) ⟨a, ha, @decide_eq_true _ (gd _) rfl, rfl⟩
      omega
    | succ d ih =>
      intro hq
      have h1 := ih (fun e he => hq e (by omega))
      obtain ⟨b, q1, q2⟩ := hq d (by omega)
      have h2 := ct_more1 (p := fun b => @decide (gR A B E m a d b) (gd _)) (q := fun b => @decide (gR A B E m a (d + 1) b) (gd _)) (n := n) (fun i _ q => @decide_eq_true _ (gd _) (gR_S (@of_decide_eq_true _ (gd _) q))) ⟨b, hin _ _ q1, @decide_eq_true _ (gd _) q1, @decide_eq_false _ (gd _) q2⟩
      omega
  have stop : ∃ e, e < n ∧ ∀ b, gR A B E m a (e + 1) b → gR A B E m a e b := by
    apply Classical.byContradiction
    intro hno
    have h1 := grow n (fun e he => by
      apply Classical.byContradiction
      intro hb
      exact hno ⟨e, he, fun b q => by
        apply Classical.byContradiction
        intro q2
        exact hb ⟨b, q, q2⟩⟩)
    have h2 := ct_le (fun b => @decide (gR A B E m a n b) (gd _)) n
    omega
  obtain ⟨e, he, hs⟩ := stop
  refine gR_le (d := e) ?_ (n - 1) (by omega)
  have hcl : ∀ j, j < m → E j = true → (gR A B E m a e (A j) ↔ gR A B E m a e (B j)) := fun j hj hE => ⟨fun q => hs _ (Or.inr ⟨j, hj, hE, Or.inl ⟨q, rfl⟩⟩), fun q => hs _ (Or.inr ⟨j, hj, hE, Or.inr ⟨q, rfl⟩⟩)⟩
  exact gC_closed hcl (gR_le (d := 0) rfl e (by omega)) h
theorem gL_uniq {a d e b : Nat} (h1 : gL A B E m a d b) (h2 : gL A B E m a e b) : d = e := by
  rcases Nat.lt_trichotomy d e with q | q | q
  · exact absurd h1.1 (h2.2 d q)
  · exact q
  · exact absurd h2.1 (h1.2 e q)
theorem gL_back {a d b : Nat} (h : gL A B E m a (d + 1) b) : ∃ j, j < m ∧ E j = true ∧ ((gL A B E m a d (A j) ∧ B j = b) ∨ (gL A B E m a d (B j) ∧ A j = b)) := by
  obtain ⟨h1, h2⟩ := h
  have h3 := h2 d (by omega)
  rcases h1 with h1 | ⟨j, hj, hE, h1⟩
  · exact absurd h1 h3
  · refine ⟨j, hj, hE, ?_⟩
    rcases h1 with ⟨h1, rfl⟩ | ⟨h1, rfl⟩
    · exact Or.inl ⟨⟨h1, fun e he q => h2 (e + 1) (by omega) (Or.inr ⟨j, hj, hE, Or.inl ⟨q, rfl⟩⟩)⟩, rfl⟩
    · exact Or.inr ⟨⟨h1, fun e he q => h2 (e + 1) (by omega) (Or.inr ⟨j, hj, hE, Or.inr ⟨q, rfl⟩⟩)⟩, rfl⟩
theorem gL_ex {a b : Nat} : ∀ d, gR A B E m a d b → ∃ e, e ≤ d ∧ gL A B E m a e b
  | 0, h => ⟨0, Nat.le_refl _, h, fun e he => by omega⟩
  | d + 1, h => by
    by_cases q : gR A B E m a d b
    · obtain ⟨e, h1, h2⟩ := gL_ex d q
      exact ⟨e, by omega, h2⟩
    · exact ⟨d + 1, Nat.le_refl _, h, fun e he q2 => q (gR_le q2 d (by omega))⟩
end
def wup (w : Nat → Int) (i : Nat) (v : Int) : Nat → Int := fun k => if k = i then v else w k
/-- one join, in the round r -/
def gst (A B : Nat → Nat) (E : Nat → Bool) (r : Nat) (j : Nat) (w : Nat → Int) : Nat → Int := if E j = true then (if w (A j) = (r : Int) ∧ w (B j) < 0 then wup w (B j) ((r : Int) + 1) else if w (B j) = (r : Int) ∧ w (A j) < 0 then wup w (A j) ((r : Int) + 1) else w) else w
def grd (A B : Nat → Nat) (E : Nat → Bool) (r : Nat) : Nat → (Nat → Int) → Nat → Int
  | 0, w => w
  | j + 1, w => gst A B E r j (grd A B E r j w)
def gbf (A B : Nat → Nat) (E : Nat → Bool) (m a : Nat) : Nat → Nat → Int
  | 0 => fun b => if b = a then 0 else -1
  | r + 1 => grd A B E r m (gbf A B E m a r)
section
variable {A B : Nat → Nat} {E : Nat → Bool} {m : Nat}
def gBP (A B : Nat → Nat) (E : Nat → Bool) (m a r : Nat) (w : Nat → Int) : Prop := ∀ b, (∃ d, d ≤ r ∧ w b = (d : Int) ∧ gL A B E m a d b) ∨ (w b = -1 ∧ ¬ gR A B E m a r b)
/-- b is found in round r by one of the joins before J -/
def gN (A B : Nat → Nat) (E : Nat → Bool) (m a r J b : Nat) : Prop := ∃ j, j < J ∧ E j = true ∧ ((gL A B E m a r (A j) ∧ B j = b) ∨ (gL A B E m a r (B j) ∧ A j = b))
def gBQ (A B : Nat → Nat) (E : Nat → Bool) (m a r J : Nat) (w : Nat → Int) : Prop := ∀ b, (∃ d, d ≤ r ∧ w b = (d : Int) ∧ gL A B E m a d b) ∨ (w b = (r : Int) + 1 ∧ ¬ gR A B E m a r b ∧ gN A B E m a r J b) ∨ (w b = -1 ∧ ¬ gR A B E m a r b ∧ ¬ gN A B E m a r J b)
theorem gN_S {a r J b : Nat} (h : gN A B E m a r (J + 1) b) : gN A B E m a r J b ∨ (E J = true ∧ ((gL A B E m a r (A J) ∧ B J = b) ∨ (gL A B E m a r (B J) ∧ A J = b))) := by
  obtain ⟨j, hj, h1⟩ := h
  by_cases he : j = J
  · subst he; exact Or.inr h1
  · exact Or.inl ⟨j, by omega, h1⟩
theorem gN_m {a r J b : Nat} (h : gN A B E m a r J b) : gN A B E m a r (J + 1) b := by
  obtain ⟨j, hj, h1⟩ := h
  exact ⟨j, by omega, h1⟩
theorem gBQ_at {a r J b : Nat} {w : Nat → Int} (h : gBQ A B E m a r J w) : (w b = (r : Int) ↔ gL A B E m a r b) ∧ (w b < 0 ↔ ¬ gR A B E m a r b ∧ ¬ gN A B E m a r J b) := by
  rcases h b with ⟨d, h1, h2, h3⟩ | ⟨h1, h2, h3⟩ | ⟨h1, h2, h3⟩
  · refine ⟨⟨fun q => ?_, fun q => ?_⟩, fun q => by omega, fun q => absurd (gR_le h3.1 r h1) q.1⟩
    · have : d = r := by omega
      rw [← this]; exact h3
    · have := gL_uniq h3 q
      omega
  · exact ⟨⟨fun q => by omega, fun q => absurd q.1 h2⟩, fun q => by omega, fun q => absurd h3 q.2⟩
  · exact ⟨⟨fun q => by omega, fun q => absurd q.1 h2⟩, fun _ => ⟨h2, h3⟩, fun _ => by omega⟩
theorem gst_Q {a r J : Nat} {w : Nat → Int} (h : gBQ A B E m a r J w) : gBQ A B E m a r (J + 1) (gst A B E r J w) := by
  have same : (∀ b, ¬ gR A B E m a r b → ¬ gN A B E m a r J b → ¬ gN A B E m a r (J + 1) b) → gBQ A B E m a r (J + 1) w := by
    intro hq b
    rcases h b with h1 | ⟨h1, h2, h3⟩ | ⟨h1, h2, h3⟩
    · exact Or.inl h1
    · exact Or.inr (Or.inl ⟨h1, h2, gN_m h3⟩)
    · exact Or.inr (Or.inr ⟨h1, h2, hq b h2 h3⟩)
  have setb : ∀ c, ¬ gR A B E m a r c → gN A B E m a r (J + 1) c → (∀ b, b ≠ c → ¬ gR A B E m a r b → ¬ gN A B E m a r J b → ¬ gN A B E m a r (J + 1) b) → gBQ A B E m a r (J + 1) (wup w c ((r : Int) + 1)) := by
    intro c hc1 hc2 hq b
    unfold wup
    by_cases hb : b = c
    · rw [if_pos hb, hb]
      exact Or.inr (Or.inl ⟨rfl, hc1, hc2⟩)
    · rw [if_neg hb]
      rcases h b with h1 | ⟨h1, h2, h3⟩ | ⟨h1, h2, h3⟩
      · exact Or.inl h1
      · exact Or.inr (Or.inl ⟨h1, h2, gN_m h3⟩)
      · exact Or.inr (Or.inr ⟨h1, h2, hq b hb h2 h3⟩)
  unfold gst
  by_cases hE : E J = true
  · rw [if_pos hE]
    have hA := gBQ_at (b := A J) h
    have hB := gBQ_at (b := B J) h
    by_cases c1 : w (A J) = (r : Int) ∧ w (B J) < 0
    · rw [if_pos c1]
      have l1 := hA.1.mp c1.1
      have l2 := hB.2.mp c1.2
      refine setb (B J) l2.1 ⟨J, by omega, hE, Or.inl ⟨l1, rfl⟩⟩ (fun b hb q1 q2 q3 => ?_)
      rcases gN_S q3 with q3 | ⟨-, ⟨q3, q4⟩ | ⟨q3, q4⟩⟩
      · exact q2 q3
      · exact hb q4.symm
      · exact l2.1 q3.1
    · rw [if_neg c1]
      by_cases c2 : w (B J) = (r : Int) ∧ w (A J) < 0
      · rw [if_pos c2]
        have l1 := hB.1.mp c2.1
        have l2 := hA.2.mp c2.2
        refine setb (A J) l2.1 ⟨J, by omega, hE, Or.inr ⟨l1, rfl⟩⟩ (fun b hb q1 q2 q3 => ?_)
        rcases gN_S q3 with q3 | ⟨-, ⟨q3, q4⟩ | ⟨q3, q4⟩⟩
        · exact q2 q3
        · exact l2.1 q3.1
        · exact hb q4.symm
      · rw [if_neg c2]
        refine same (fun b q1 q2 q3 => ?_)
        rcases gN_S q3 with q3 | ⟨-, ⟨q3, q4⟩ | ⟨q3, q4⟩⟩
        · exact q2 q3
        · rw [← q4] at q1 q2
          exact c1 ⟨hA.1.mpr q3, hB.2.mpr ⟨q1, q2⟩⟩
        · rw [← q4] at q1 q2
          exact c2 ⟨hB.1.mpr q3, hA.2.mpr ⟨q1, q2⟩⟩
  · rw [if_neg hE]
    refine same (fun b q1 q2 q3 => ?_)
    rcases gN_S q3 with q3 | ⟨q3, -⟩
    · exact q2 q3
    · exact hE q3
theorem grd_Q {a r : Nat} {w : Nat → Int} (h : gBP A B E m a r w) : ∀ J, gBQ A B E m a r J (grd A B E r J w)
  | 0 => fun b => by
    rcases h b with h1 | ⟨h1, h2⟩
    · exact Or.inl h1
    · exact Or.inr (Or.inr ⟨h1, h2, fun ⟨j, hj, _⟩ => by omega⟩)
  | J + 1 => gst_Q (grd_Q h J)
theorem gbf_P (a : Nat) : ∀ r, gBP A B E m a r (gbf A B E m a r)
  | 0 => fun b => by
    by_cases hb : b = a
    · refine Or.inl ⟨0, Nat.le_refl _, ?_, hb, fun e he => by omega⟩
      show (if b = a then (0 : Int) else -1) = _
      rw [if_pos hb]
      rfl
    · refine Or.inr ⟨?_, hb⟩
      show (if b = a then (0 : Int) else -1) = _
      rw [if_neg hb]
  | r + 1 => fun b => by
    have h := grd_Q (gbf_P a r) m b
    show (∃ d, d ≤ r + 1 ∧ grd A B E r m (gbf A B E m a r) b = (d : Int) ∧ gL A B E m a d b) ∨ (grd A B E r m (gbf A B E m a r) b = -1 ∧ ¬ gR A B E m a (r + 1) b)
    have step : gN A B E m a r m b → gR A B E m a (r + 1) b := by
      rintro ⟨j, hj, hE, ⟨h1, rfl⟩ | ⟨h1, rfl⟩⟩
      · exact Or.inr ⟨j, hj, hE, Or.inl ⟨h1.1, rfl⟩⟩
      · exact Or.inr ⟨j, hj, hE, Or.inr ⟨h1.1, rfl⟩⟩
    rcases h with ⟨d, h1, h2, h3⟩ | ⟨h1, h2, h3⟩ | ⟨h1, h2, h3⟩
    · exact Or.inl ⟨d, by omega, h2, h3⟩
    · refine Or.inl ⟨r + 1, Nat.le_refl _, by rw [h1]; rfl, step h3, fun e he q => h2 (gR_le q r (by omega))⟩
    · refine Or.inr ⟨h1, fun q => ?_⟩
      have hl : gL A B E m a (r + 1) b := ⟨q, fun e he q2 => h2 (gR_le q2 r (by omega))⟩
      obtain ⟨j, hj, hE, h4⟩ := gL_back hl
      exact h3 ⟨j, hj, hE, h4⟩
/-- after enough rounds -/
theorem gbf_end {n : Nat} (hn : ∀ j, j < m → A j < n ∧ B j < n) {a : Nat} (ha : a < n) {r : Nat} (hr : n ≤ r + 1) (b : Nat) : (∃ d, d < n ∧ gbf A B E m a r b = (d : Int) ∧ gL A B E m a d b) ∨ (gbf A B E m a r b = -1 ∧ ¬ gC A B E m a b) := by
  rcases gbf_P (A := A) (B := B) (E := E) (m := m) a r b with ⟨d, h1, h2, h3⟩ | ⟨h1, h2⟩
  · left
    have h4 := gR_all hn ha ⟨d, h3.1⟩
    have hd : d ≤ n - 1 := by
      rcases Nat.lt_or_ge (n - 1) d with q | q
      · exact absurd h4 (h3.2 _ q)
      · exact q
    exact ⟨d, by omega, h2, h3⟩
  · exact Or.inr ⟨h1, fun q => h2 (gR_le (gR_all hn ha q) r (by omega))⟩
theorem gbf_more {n : Nat} (hn : ∀ j, j < m → A j < n ∧ B j < n) {a : Nat} (ha : a < n) {r s : Nat} (hr : n ≤ r + 1) (hs : n ≤ s + 1) (b : Nat) : gbf A B E m a r b = gbf A B E m a s b := by
  rcases gbf_end (E := E) hn ha hr b with ⟨d, -, h2, h3⟩ | ⟨h1, h2⟩
  · rcases gbf_end (E := E) hn ha hs b with ⟨e, -, h5, h6⟩ | ⟨-, h5⟩
    · rw [h2, h5, gL_uniq h3 h6]
    · exact absurd ⟨d, h3.1⟩ h5
  · rcases gbf_end (E := E) hn ha hs b with ⟨e, -, h5, h6⟩ | ⟨h4, -⟩
    · exact absurd ⟨e, h6.1⟩ h2
    · rw [h1, h4]
/-- the next join on the way -/
theorem gbf_next {n : Nat} (hn : ∀ j, j < m → A j < n ∧ B j < n) {a : Nat} (ha : a < n) {r : Nat} (hr : n ≤ r + 1) {b d : Nat} (h : gbf A B E m a r b = (d : Int) + 1) : ∃ j, j < m ∧ E j = true ∧ ((A j = b ∧ gbf A B E m a r (B j) = (d : Int)) ∨ (B j = b ∧ gbf A B E m a r (A j) = (d : Int))) := by
  rcases gbf_end (E := E) hn ha hr b with ⟨e, -, h2, h3⟩ | ⟨h1, h2⟩
  · have he : e = d + 1 := by omega
    subst he
    obtain ⟨j, hj, hE, h4⟩ := gL_back h3
    have val : ∀ c, gL A B E m a d c → gbf A B E m a r c = (d : Int) := by
      intro c hc
      rcases gbf_end (E := E) hn ha hr c with ⟨e, -, h5, h6⟩ | ⟨-, h5⟩
      · rw [h5, gL_uniq h6 hc]
      · exact absurd ⟨d, hc.1⟩ h5
    refine ⟨j, hj, hE, ?_⟩
    rcases h4 with ⟨h4, rfl⟩ | ⟨h4, rfl⟩
    · exact Or.inr ⟨rfl, val _ h4⟩
    · exact Or.inl ⟨rfl, val _ h4⟩
  · omega
end
