/-! Questions: how they are read, once for both sides. -/
def isLt (c : Int) : Prop := c = 98 ∨ c = 99 ∨ c = 101 ∨ c = 103 ∨ c = 106 ∨ c = 110 ∨ c = 112 ∨ c = 115 ∨ c = 116 ∨ c = 118 ∨ c = 119
def isOp (c : Int) : Prop := c = 60 ∨ c = 61 ∨ c = 62
def isDg (c : Int) : Prop := 48 ≤ c ∧ c ≤ 57
/-- what is read: for whom it is so, where it goes on, whether it is wrong -/
abbrev qres : Type := (Int → Bool) × Nat × Bool
/-- the number of a comparison at p, and where it ends -/
noncomputable def cqn (t : Nat → Int) (p : Nat) : Int × Nat := @ite _ (0 < t (p + 2) - 48 ∧ isDg (t (p + 3))) (gd _) (@ite _ (isDg (t (p + 4))) (gd _) (10 * (10 * (t (p + 2) - 48) + (t (p + 3) - 48)) + (t (p + 4) - 48), p + 5) (10 * (t (p + 2) - 48) + (t (p + 3) - 48), p + 4)) (t (p + 2) - 48, p + 3)
noncomputable def qtst (t : Nat → Int) (ev : Int → Int → Int → Int → Bool) (p : Nat) : qres := @ite _ (isLt (t p)) (gd _) (@ite _ (isOp (t (p + 1))) (gd _) (@ite _ (isDg (t (p + 2))) (gd _) (fun a => ev a (t p) (t (p + 1)) (cqn t p).1, (cqn t p).2, false) (fun _ => false, p + 2, true)) (fun _ => false, p + 1, true)) (fun _ => false, p, true)
/-- more of it behind a sign -/
def lpq (c : Int) (op : Bool → Bool → Bool) (t : Nat → Int) (rec : Nat → qres) : Nat → qres → qres
  | 0, r => r
  | m + 1, r => if r.2.2 = false ∧ t r.2.1 = c then lpq c op t rec m (fun a => op (r.1 a) ((rec (r.2.1 + 1)).1 a), (rec (r.2.1 + 1)).2) else r
/-- behind what stands in brackets -/
def qpar (t : Nat → Int) (r : qres) : qres := if r.2.2 = true then r else if t r.2.1 = 41 then (r.1, r.2.1 + 1, false) else (r.1, r.2.1, true)
noncomputable def prs (t : Nat → Int) (ev : Int → Int → Int → Int → Bool) : Nat → Nat → Nat → qres
  | 0, _, p => (fun _ => false, p, true)
  | f + 1, 0, p => lpq 124 or t (prs t ev f 1) fz (prs t ev f 1 p)
  | f + 1, 1, p => lpq 38 and t (prs t ev f 2) fz (prs t ev f 2 p)
  | f + 1, _ + 2, p => if t p = 33 then (fun a => !(prs t ev f 2 (p + 1)).1 a, (prs t ev f 2 (p + 1)).2) else if t p = 40 then qpar t (prs t ev f 0 (p + 1)) else qtst t ev p
def endT (t : Nat → Int) (L : Nat) : Prop := ∀ k, L ≤ k → t k = -1
theorem qlt_L {t : Nat → Int} {L p : Nat} (h : endT t L) (hp : t p ≠ -1) : p < L := by
  rcases Nat.lt_or_ge p L with q | q
  · exact q
  · exact absurd (h p q) hp
/-- good: between p and the end; at p only if it is wrong -/
def qok (L p : Nat) (r : qres) : Prop := (p ≤ r.2.1 ∧ r.2.1 ≤ L) ∧ (r.2.2 = false → p < r.2.1)
theorem qtst_ok {t : Nat → Int} {L : Nat} (h : endT t L) {ev : Int → Int → Int → Int → Bool} {p : Nat} (hp : p ≤ L) : qok L p (qtst t ev p) := by
  unfold qtst
  by_cases c1 : isLt (t p)
  · have l1 := qlt_L h (p := p) (by unfold isLt at c1; omega)
    rw [@if_pos _ (gd _) c1]
    by_cases c2 : isOp (t (p + 1))
    · have l2 := qlt_L h (p := p + 1) (by unfold isOp at c2; omega)
      rw [@if_pos _ (gd _) c2]
      by_cases c3 : isDg (t (p + 2))
      · have l3 := qlt_L h (p := p + 2) (by unfold isDg at c3; omega)
        rw [@if_pos _ (gd _) c3]
        have hc : p + 3 ≤ (cqn t p).2 ∧ (cqn t p).2 ≤ L := by
          unfold cqn
          by_cases d1 : 0 < t (p + 2) - 48 ∧ isDg (t (p + 3))
          · have l4 := qlt_L h (p := p + 3) (by have := d1.2; unfold isDg at this; omega)
            rw [@if_pos _ (gd _) d1]
            by_cases d2 : isDg (t (p + 4))
            · have l5 := qlt_L h (p := p + 4) (by unfold isDg at d2; omega)
              rw [@if_pos _ (gd _) d2]
              dsimp only
              omega
            · rw [@if_neg _ (gd _) d2]
              dsimp only
              omega
          · rw [@if_neg _ (gd _) d1]
            dsimp only
            omega
        exact ⟨⟨by dsimp only; omega, hc.2⟩, fun _ => by dsimp only; omega⟩
      · rw [@if_neg _ (gd _) c3]
        exact ⟨⟨by dsimp only; omega, by dsimp only; omega⟩, fun q => by cases q⟩
    · rw [@if_neg _ (gd _) c2]
      exact ⟨⟨by dsimp only; omega, by dsimp only; omega⟩, fun q => by cases q⟩
  · rw [@if_neg _ (gd _) c1]
    exact ⟨⟨Nat.le_refl p, hp⟩, fun q => by cases q⟩
theorem lpq_ok {c : Int} {op : Bool → Bool → Bool} {t : Nat → Int} {L : Nat} (h : endT t L) (hc : c ≠ -1) {rec : Nat → qres} (hr : ∀ p, p ≤ L → qok L p (rec p)) {p0 : Nat} : ∀ (m : Nat) (r : qres), qok L p0 r → qok L p0 (lpq c op t rec m r)
  | 0, _, h1 => h1
  | m + 1, r, h1 => by
    unfold lpq
    by_cases q : r.2.2 = false ∧ t r.2.1 = c
    · have l1 := qlt_L h (p := r.2.1) (by rw [q.2]; exact hc)
      have h2 := hr (r.2.1 + 1) (by omega)
      have h3 := h1.2 q.1
      rw [if_pos q]
      exact lpq_ok h hc hr m _ ⟨⟨by have := h2.1.1; dsimp only; omega, h2.1.2⟩, fun _ => by have := h2.1.1; dsimp only; omega⟩
    · rw [if_neg q]
      exact h1
theorem prs_ok {t : Nat → Int} {L : Nat} (h : endT t L) {ev : Int → Int → Int → Int → Bool} : ∀ (f k p : Nat), p ≤ L → qok L p (prs t ev f k p)
  | 0, _, p, hp => ⟨⟨Nat.le_refl p, hp⟩, fun q => by cases q⟩
  | f + 1, 0, p, hp => lpq_ok h (by decide) (fun p hp => prs_ok h f 1 p hp) fz _ (prs_ok h f 1 p hp)
  | f + 1, 1, p, hp => lpq_ok h (by decide) (fun p hp => prs_ok h f 2 p hp) fz _ (prs_ok h f 2 p hp)
  | f + 1, k + 2, p, hp => by
    show qok L p (if t p = 33 then (fun a => !(prs t ev f 2 (p + 1)).1 a, (prs t ev f 2 (p + 1)).2) else if t p = 40 then qpar t (prs t ev f 0 (p + 1)) else qtst t ev p)
    by_cases c1 : t p = 33
    · have l1 := qlt_L h (p := p) (by omega)
      have h1 := prs_ok h (ev := ev) f 2 (p + 1) (by omega)
      rw [if_pos c1]
      exact ⟨⟨by have := h1.1.1; dsimp only; omega, h1.1.2⟩, fun q => by have := h1.2 q; dsimp only; omega⟩
    · rw [if_neg c1]
      by_cases c2 : t p = 40
      · have l1 := qlt_L h (p := p) (by omega)
        have h1 := prs_ok h (ev := ev) f 0 (p + 1) (by omega)
        rw [if_pos c2]
        unfold qpar
        by_cases d1 : (prs t ev f 0 (p + 1)).2.2 = true
        · rw [if_pos d1]
          exact ⟨⟨by have := h1.1.1; omega, h1.1.2⟩, fun q => by have := h1.1.1; omega⟩
        · rw [if_neg d1]
          by_cases d2 : t (prs t ev f 0 (p + 1)).2.1 = 41
          · have l2 := qlt_L h (p := (prs t ev f 0 (p + 1)).2.1) (by omega)
            rw [if_pos d2]
            exact ⟨⟨by have := h1.1.1; dsimp only; omega, by dsimp only; omega⟩, fun q => by have := h1.1.1; dsimp only; omega⟩
          · rw [if_neg d2]
            exact ⟨⟨by have := h1.1.1; dsimp only; omega, h1.1.2⟩, fun q => by cases q⟩
      · rw [if_neg c2]
        exact qtst_ok h hp
/-- behind a whole reading, the sign doesn't go on -/
theorem lpq_end {c : Int} {op : Bool → Bool → Bool} {t : Nat → Int} {L : Nat} (h : endT t L) (hc : c ≠ -1) {rec : Nat → qres} (hr : ∀ p, p ≤ L → qok L p (rec p)) : ∀ (m : Nat) (r : qres), r.2.1 ≤ L → L - r.2.1 < m → (lpq c op t rec m r).2.2 = false → t (lpq c op t rec m r).2.1 ≠ c
  | 0, _, _, h2 => by omega
  | m + 1, r, h1, h2 => by
    unfold lpq
    by_cases q : r.2.2 = false ∧ t r.2.1 = c
    · have l1 := qlt_L h (p := r.2.1) (by rw [q.2]; exact hc)
      have h3 := hr (r.2.1 + 1) (by omega)
      rw [if_pos q]
      exact lpq_end h hc hr m _ h3.1.2 (by have := h3.1.1; dsimp only; omega)
    · rw [if_neg q]
      intro z y
      exact q ⟨z, y⟩
theorem lpq_keep {c d : Int} {op : Bool → Bool → Bool} {t : Nat → Int} {rec : Nat → qres} (hr : ∀ p, (rec p).2.2 = false → t (rec p).2.1 ≠ d) : ∀ (m : Nat) (r : qres), (r.2.2 = false → t r.2.1 ≠ d) → (lpq c op t rec m r).2.2 = false → t (lpq c op t rec m r).2.1 ≠ d
  | 0, _, h => h
  | m + 1, r, h => by
    unfold lpq
    by_cases q : r.2.2 = false ∧ t r.2.1 = c
    · rw [if_pos q]
      exact lpq_keep hr m _ (hr (r.2.1 + 1))
    · rw [if_neg q]
      exact h
