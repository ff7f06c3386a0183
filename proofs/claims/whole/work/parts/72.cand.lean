/-! Arrangements: the best of a set of candidates. -/
/-- a candidate: worth, where the second and the third bit lie as the first one sees them -/
abbrev cnd : Type := Int × plc × plc
def plt (p q : plc) : Prop := p.1 < q.1 ∨ (p.1 = q.1 ∧ (p.2.1 < q.2.1 ∨ (p.2.1 = q.2.1 ∧ p.2.2 < q.2.2)))
theorem plt_irr (p : plc) : ¬ plt p p := by
  unfold plt
  omega
theorem plt_tr {p q r : plc} (h1 : plt p q) (h2 : plt q r) : plt p r := by
  unfold plt at *
  omega
theorem plt_tot {p q : plc} (h1 : ¬ plt p q) (h2 : ¬ plt q p) : p = q := by
  unfold plt at *
  have e1 : p.1 = q.1 := by omega
  have e2 : p.2.1 = q.2.1 := by omega
  have e3 : p.2.2 = q.2.2 := by omega
  exact pl_ext e1 e2 e3
/-- c is better than s -/
def clt (c s : cnd) : Prop := s.1 < c.1 ∨ (c.1 = s.1 ∧ (plt c.2.1 s.2.1 ∨ (c.2.1 = s.2.1 ∧ plt c.2.2 s.2.2)))
theorem clt_irr (c : cnd) : ¬ clt c c := by
  rintro (h | ⟨-, h | ⟨-, h⟩⟩)
  · omega
  · exact plt_irr _ h
  · exact plt_irr _ h
theorem clt_tr {c d e : cnd} (h1 : clt c d) (h2 : clt d e) : clt c e := by
  rcases h1 with h1 | ⟨e1, h1⟩
  · rcases h2 with h2 | ⟨e2, -⟩
    · exact Or.inl (by omega)
    · exact Or.inl (by omega)
  · rcases h2 with h2 | ⟨e2, h2⟩
    · exact Or.inl (by omega)
    · refine Or.inr ⟨by omega, ?_⟩
      rcases h1 with h1 | ⟨f1, h1⟩
      · rcases h2 with h2 | ⟨f2, h2⟩
        · exact Or.inl (plt_tr h1 h2)
        · exact Or.inl (f2 ▸ h1)
      · rcases h2 with h2 | ⟨f2, h2⟩
        · exact Or.inl (f1 ▸ h2)
        · exact Or.inr ⟨f1.trans f2, plt_tr h1 h2⟩
theorem clt_tot {c d : cnd} (h1 : ¬ clt c d) (h2 : ¬ clt d c) : c = d := by
  have e1 : c.1 = d.1 := by
    rcases Int.lt_trichotomy c.1 d.1 with q | q | q
    · exact absurd (Or.inl q) h2
    · exact q
    · exact absurd (Or.inl q) h1
  have e2 : c.2.1 = d.2.1 := plt_tot (fun q => h1 (Or.inr ⟨e1, Or.inl q⟩)) (fun q => h2 (Or.inr ⟨e1.symm, Or.inl q⟩))
  have e3 : c.2.2 = d.2.2 := plt_tot (fun q => h1 (Or.inr ⟨e1, Or.inr ⟨e2, q⟩⟩)) (fun q => h2 (Or.inr ⟨e1.symm, Or.inr ⟨e2.symm, q⟩⟩))
  exact Prod.ext e1 (Prod.ext e2 e3)
/-- s is the best of a set, or it is empty -/
def isBst (S : cnd → Prop) (s : cnd) : Prop := (s.1 = -1 ∧ ∀ c, ¬ S c) ∨ (0 ≤ s.1 ∧ S s ∧ ∀ c, S c → ¬ clt c s)
theorem isBst_c {S S2 : cnd → Prop} (e : ∀ c, S c ↔ S2 c) {s : cnd} (h : isBst S s) : isBst S2 s := by
  rcases h with ⟨h1, h2⟩ | ⟨h1, h2, h3⟩
  · exact Or.inl ⟨h1, fun c q => h2 c ((e c).mpr q)⟩
  · exact Or.inr ⟨h1, (e s).mp h2, fun c q => h3 c ((e c).mpr q)⟩
theorem isBst_u {S : cnd → Prop} {s s2 : cnd} (h : isBst S s) (h2 : isBst S s2) : (s.1 = -1 ∧ s2.1 = -1) ∨ (0 ≤ s.1 ∧ s = s2) := by
  rcases h with ⟨a1, a2⟩ | ⟨a1, a2, a3⟩
  · rcases h2 with ⟨b1, -⟩ | ⟨-, b2, -⟩
    · exact Or.inl ⟨a1, b1⟩
    · exact absurd b2 (a2 _)
  · rcases h2 with ⟨-, b2⟩ | ⟨-, b2, b3⟩
    · exact absurd a2 (b2 _)
    · exact Or.inr ⟨a1, clt_tot (b3 _ a2) (a3 _ b2)⟩
noncomputable def updc (c s : cnd) : cnd := @ite _ (clt c s) (gd _) c s
/-- from s to s2 the candidates T were looked at -/
def adds (T : cnd → Prop) (s s2 : cnd) : Prop := ∀ S, isBst S s → isBst (fun c => S c ∨ T c) s2
theorem adds_no {T : cnd → Prop} (s : cnd) (h : ∀ c, ¬ T c) : adds T s s := fun _ hS => isBst_c (fun c => ⟨Or.inl, fun q => q.resolve_right (h c)⟩) hS
theorem adds_1 {c : cnd} (s : cnd) (h0 : 0 ≤ c.1) : adds (fun d => d = c) s (updc c s) := fun S hS => by
  unfold updc
  by_cases q : clt c s
  · rw [@if_pos _ (gd _) q]
    refine Or.inr ⟨h0, Or.inr rfl, fun d hd z => ?_⟩
    rcases hd with hd | hd
    · rcases hS with ⟨-, a2⟩ | ⟨-, -, a3⟩
      · exact a2 d hd
      · exact a3 d hd (clt_tr z q)
    · rw [hd] at z
      exact clt_irr c z
  · rw [@if_neg _ (gd _) q]
    rcases hS with ⟨a1, -⟩ | ⟨a1, a2, a3⟩
    · exact absurd (Or.inl (by omega)) q
    · refine Or.inr ⟨a1, Or.inl a2, fun d hd => ?_⟩
      rcases hd with hd | hd
      · exact a3 d hd
      · rw [hd]
        exact q
theorem adds_tr {T1 T2 T : cnd → Prop} {s s1 s2 : cnd} (h1 : adds T1 s s1) (h2 : adds T2 s1 s2) (e : ∀ c, T c ↔ T1 c ∨ T2 c) : adds T s s2 := fun S hS => isBst_c (fun c => by
  rw [e c, or_assoc]) (h2 _ (h1 S hS))
theorem adds_c {T T2 : cnd → Prop} {s s2 : cnd} (e : ∀ c, T c ↔ T2 c) (h : adds T s s2) : adds T2 s s2 := fun S hS => isBst_c (fun c => by
  rw [e c]) (h S hS)
/-- a loop: from i to m -/
theorem adds_end {T : Nat → cnd → Prop} {m : Nat} (s : cnd) : adds (fun c => ∃ j, m ≤ j ∧ j < m ∧ T j c) s s := adds_no s (fun c ⟨j, h1, h2, _⟩ => by omega)
theorem adds_st {T : Nat → cnd → Prop} {i m : Nat} {s s1 s2 : cnd} (hi : i < m) (h1 : adds (T i) s s1) (h2 : adds (fun c => ∃ j, i + 1 ≤ j ∧ j < m ∧ T j c) s1 s2) : adds (fun c => ∃ j, i ≤ j ∧ j < m ∧ T j c) s s2 := adds_tr h1 h2 (fun c => by
  constructor
  · rintro ⟨j, q1, q2, q3⟩
    by_cases z : j = i
    · exact Or.inl (z ▸ q3)
    · exact Or.inr ⟨j, by omega, q2, q3⟩
  · rintro (q | ⟨j, q1, q2, q3⟩)
    · exact ⟨i, Nat.le_refl i, hi, q⟩
    · exact ⟨j, by omega, q2, q3⟩)
