/-! The reference compares two bits, and the new one with all. -/
theorem tbE_f {g0 g h : gm_T} {P : Nat → Prop} {a k b l : Nat} (f : frt g h P) (hP : ¬ P (at4 a k b l)) (t : tbE g0 g a k b l) : tbE g0 h a k b l := ⟨((f.2 _ hP).1).trans t.1, fun z => ((f.2 _ hP).2).trans (t.2 z)⟩
theorem md_cmp_l15 {N : Nat} {g0 : gm_T} (h30 : N ≤ 30) (V : V_bit N g0) (C : V_cell N g0) (W : V_way N g0) {a b k : Nat} (ha : a < N) (hb : b < N) (hk : (k : Int) < mE g0 a) : ∀ (d L fuel : Nat) (g : gm_T), d < fuel → ((L + d : Nat) : Int) = mE g0 b → exc W_tb nob g0 g → ∃ g', md_compares_l15 (a : Int) (b : Int) (k : Int) fuel (L : Int) g = some g' ∧ frt g g' (fun j => ∃ l, L ≤ l ∧ l < 8 ∧ j = at4 a k b l) ∧ ∀ l : Nat, L ≤ l → (l : Int) < mE g0 b → tbE g0 g' a k b l := by
  have vb := (V b hb).1
  intro d
  induction d with
  | zero =>
    intro L fuel g hf hd x
    obtain ⟨fuel, rfl⟩ : ∃ z, fuel = z + 1 := ⟨fuel - 1, by omega⟩
    unfold mE at hd
    unfold md_compares_l15
    rw [jg_pos (by omega), Int.toNat_natCast, x.1 46 b rfl, jg_pos ⟨⟨by omega, by omega⟩, by omega, by omega⟩, if_neg (by omega)]
    exact ⟨g, rfl, frt_rf, fun l h1 h2 => by unfold mE at h2; omega⟩
  | succ d ih =>
    intro L fuel g hf hd x
    obtain ⟨fuel, rfl⟩ : ∃ z, fuel = z + 1 := ⟨fuel - 1, by omega⟩
    have hl : (L : Int) < mE g0 b := by omega
    have l8 : L < 8 := by unfold mE at hl; omega
    obtain ⟨g1, e1, f1, t1⟩ := md_cmp_one h30 V C W x ha hb hk hl (fun g => md_compares_l15 (a : Int) (b : Int) (k : Int) fuel ((L : Int) + 1) g)
    obtain ⟨g2, e2, f2, t2⟩ := ih (L + 1) fuel g1 (by omega) (by omega) (exc_tr x f1.1)
    have hl' : (L : Int) < gm_I g0 46 b := hl
    unfold md_compares_l15
    rw [jg_pos (by omega), Int.toNat_natCast, x.1 46 b rfl, jg_pos ⟨⟨by omega, by omega⟩, by omega, by omega⟩, if_pos hl']
    refine ⟨g2, e1.trans e2, frt_tr (frt_mono f1 (fun j hj => ⟨L, Nat.le_refl _, l8, hj⟩)) (frt_mono f2 (fun j ⟨l, h1, h2, h3⟩ => ⟨l, by omega, h2, h3⟩)), fun l h1 h2 => ?_⟩
    by_cases e : l = L
    · subst e
      exact tbE_f f2 (fun ⟨l', h1, h2, h3⟩ => by unfold at4 at h3; omega) t1
    · exact t2 l (by omega) h2
theorem md_cmp_l2 {N : Nat} {g0 : gm_T} (h30 : N ≤ 30) (V : V_bit N g0) (C : V_cell N g0) (W : V_way N g0) {a b : Nat} (ha : a < N) (hb : b < N) : ∀ (d k0 fuel : Nat) (g : gm_T), d < fuel → ((k0 + d : Nat) : Int) = mE g0 a → exc W_tb nob g0 g → ∃ g', md_compares_l2 (a : Int) (b : Int) fuel (k0 : Int) g = some g' ∧ frt g g' (fun j => ∃ k l, k0 ≤ k ∧ k < 8 ∧ l < 8 ∧ j = at4 a k b l) ∧ ∀ k l : Nat, k0 ≤ k → (k : Int) < mE g0 a → (l : Int) < mE g0 b → tbE g0 g' a k b l := by
  have va := (V a ha).1
  have vb := (V b hb).1
  intro d
  induction d with
  | zero =>
    intro L fuel g hf hd x
    obtain ⟨fuel, rfl⟩ : ∃ z, fuel = z + 1 := ⟨fuel - 1, by omega⟩
    unfold mE at hd
    unfold md_compares_l2
    rw [jg_pos (by omega), Int.toNat_natCast, x.1 46 a rfl, jg_pos ⟨⟨by omega, by omega⟩, by omega, by omega⟩, if_neg (by omega)]
    exact ⟨g, rfl, frt_rf, fun k l h1 h2 => by unfold mE at h2; omega⟩
  | succ d ih =>
    intro L fuel g hf hd x
    obtain ⟨fuel, rfl⟩ : ∃ z, fuel = z + 1 := ⟨fuel - 1, by omega⟩
    have hk : (L : Int) < mE g0 a := by omega
    have k8 : L < 8 := by unfold mE at hk; omega
    obtain ⟨g1, e1, f1, t1⟩ := md_cmp_l15 h30 V C W ha hb hk (gm_I g0 46 b).toNat 0 fz g (Nat.lt_of_le_of_lt (show _ ≤ 8 by omega) (fz_gt rfl)) (by unfold mE; omega) x
    obtain ⟨g2, e2, f2, t2⟩ := ih (L + 1) fuel g1 (by omega) (by omega) (exc_tr x f1.1)
    have hk' : (L : Int) < gm_I g0 46 a := hk
    unfold md_compares_l2
    rw [jg_pos (by omega), Int.toNat_natCast, x.1 46 a rfl, jg_pos ⟨⟨by omega, by omega⟩, by omega, by omega⟩, if_pos hk', show md_compares_l15 (a : Int) (b : Int) (L : Int) fz 0 g = some g1 from e1, jb1_some]
    refine ⟨g2, e2, frt_tr (frt_mono f1 (fun j ⟨l, h1, h2, h3⟩ => ⟨L, l, Nat.le_refl _, k8, h2, h3⟩)) (frt_mono f2 (fun j ⟨k, l, h1, h2, h3, h4⟩ => ⟨k, l, by omega, h2, h3, h4⟩)), fun k l h1 h2 h3 => ?_⟩
    by_cases e : k = L
    · subst e
      have l8 : l < 8 := by unfold mE at h3; omega
      exact tbE_f f2 (fun ⟨k', l', h1, h2, h3, h4⟩ => by unfold at4 at h4; omega) (t1 l (Nat.zero_le _) h3)
    · exact t2 k l (by omega) h2 h3
theorem md_compares_eq {N : Nat} {g0 g : gm_T} (h30 : N ≤ 30) (V : V_bit N g0) (C : V_cell N g0) (W : V_way N g0) {a b : Nat} (ha : a < N) (hb : b < N) (x : exc W_tb nob g0 g) : ∃ g', md_compares g (a : Int) (b : Int) = some g' ∧ frt g g' (fun j => ∃ k l, k < 8 ∧ l < 8 ∧ j = at4 a k b l) ∧ ∀ k l : Nat, (k : Int) < mE g0 a → (l : Int) < mE g0 b → tbE g0 g' a k b l := by
  have va := (V a ha).1
  obtain ⟨g1, e1, f1, t1⟩ := md_cmp_l2 h30 V C W ha hb (gm_I g0 46 a).toNat 0 fz g (Nat.lt_of_le_of_lt (show _ ≤ 8 by omega) (fz_gt rfl)) (by unfold mE; omega) x
  unfold md_compares
  rw [show md_compares_l2 (a : Int) (b : Int) fz 0 g = some g1 from e1, jb1_some]
  exact ⟨g1, rfl, frt_mono f1 (fun j ⟨k, l, _, h2, h3, h4⟩ => ⟨k, l, h2, h3, h4⟩), fun k l h1 h2 => t1 k l (Nat.zero_le _) h1 h2⟩
/-- the entries of the new bit n with the bits from i0 on -/
def tbP (n i0 j : Nat) : Prop := ∃ i k l, (i0 ≤ i ∧ i < n) ∧ k < 8 ∧ l < 8 ∧ (j = at4 i k n l ∨ j = at4 n k i l)
theorem md_bit_cmp {n : Nat} {g0 : gm_T} (h30 : n + 1 ≤ 30) (V : V_bit (n + 1) g0) (C : V_cell (n + 1) g0) (W : V_way (n + 1) g0) (h3 : gm_I g0 44 3 = ((n + 1 : Nat) : Int)) : ∀ (d v fuel : Nat) (g : gm_T), d < fuel → v + d = n → exc W_tb nob g0 g → ∃ g', md_bit_l167 fuel (v : Int) g = some g' ∧ frt g g' (tbP n v) ∧ ∀ i k l : Nat, v ≤ i → i < n → ((k : Int) < mE g0 i → (l : Int) < mE g0 n → tbE g0 g' i k n l) ∧ ((k : Int) < mE g0 n → (l : Int) < mE g0 i → tbE g0 g' n k i l) := by
  have e8 : ∀ b k : Nat, b < n + 1 → (k : Int) < mE g0 b → k < 8 := fun b k hb hk => by have := (V b hb).1.2.2; unfold mE at hk; omega
  have hn1 : ((n + 1 : Nat) : Int) - 1 = (n : Int) := by omega
  intro d
  induction d with
  | zero =>
    intro v fuel g hf hd x
    obtain ⟨fuel, rfl⟩ : ∃ z, fuel = z + 1 := ⟨fuel - 1, by omega⟩
    unfold md_bit_l167
    rw [x.1 44 3 rfl, h3, hn1, jg_pos ⟨rgn (by omega), rgn (by omega)⟩, if_neg (by omega)]
    exact ⟨g, rfl, frt_rf, fun i k l h1 h2 => by omega⟩
  | succ d ih =>
    intro v fuel g hf hd x
    obtain ⟨fuel, rfl⟩ : ∃ z, fuel = z + 1 := ⟨fuel - 1, by omega⟩
    obtain ⟨g1, e1, f1, t1⟩ := md_compares_eq h30 V C W (show v < n + 1 by omega) (show n < n + 1 by omega) x
    have x1 := exc_tr x f1.1
    obtain ⟨g2, e2, f2, t2⟩ := md_compares_eq h30 V C W (show n < n + 1 by omega) (show v < n + 1 by omega) x1
    have x2 := exc_tr x1 f2.1
    obtain ⟨g3, e3, f3, t3⟩ := ih (v + 1) fuel g2 (by omega) (by omega) x2
    unfold md_bit_l167
    rw [x.1 44 3 rfl, h3, hn1, jg_pos ⟨rgn (by omega), rgn (by omega)⟩, if_pos (by omega), e1, jb1_some, x1.1 44 3 rfl, h3, hn1, e2, jb1_some]
    refine ⟨g3, e3, frt_tr (frt_tr (frt_mono f1 (fun j ⟨k, l, h1, h2, h3⟩ => ⟨v, k, l, ⟨Nat.le_refl _, by omega⟩, h1, h2, Or.inl h3⟩)) (frt_mono f2 (fun j ⟨k, l, h1, h2, h3⟩ => ⟨v, k, l, ⟨Nat.le_refl _, by omega⟩, h1, h2, Or.inr h3⟩))) (frt_mono f3 (fun j ⟨i, k, l, h1, h2⟩ => ⟨i, k, l, ⟨by omega, h1.2⟩, h2⟩)), fun i k l h1 h2 => ?_⟩
    by_cases e : i = v
    · subst e
      refine ⟨fun h4 h5 => ?_, fun h4 h5 => ?_⟩
      · have k8 := e8 i k (by omega) h4
        have l8 := e8 n l (by omega) h5
        exact tbE_f f3 (fun ⟨i', k', l', q1, q2, q3, q4⟩ => by unfold at4 at q4; omega) (tbE_f f2 (fun ⟨k', l', q1, q2, q3⟩ => by unfold at4 at q3; omega) (t1 k l h4 h5))
      · have k8 := e8 n k (by omega) h4
        have l8 := e8 i l (by omega) h5
        exact tbE_f f3 (fun ⟨i', k', l', q1, q2, q3, q4⟩ => by unfold at4 at q4; omega) (t2 k l h4 h5)
    · exact t3 i k l (by omega) h2
