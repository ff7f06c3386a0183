/-! The start: what the constructors leave. -/
theorem kc_ex : ∃ h h2 : jm_H, kc_r1 = some (none, h) ∧ jm_N h = 44 ∧ kc_r2 h = some (none, h2) ∧ kc_chk h2 = true := by
  have w := kc_all_ok
  unfold kc_all at w
  generalize kc_r1 = r1 at w ⊢
  cases r1 with
  | none => cases w
  | some r =>
    obtain ⟨v, h⟩ := r
    cases v with
    | some x => cases w
    | none =>
      dsimp only at w
      rw [Bool.and_eq_true, decide_eq_true_eq] at w
      obtain ⟨w1, w2⟩ := w
      cases e2 : kc_r2 h with
      | none => rw [e2] at w2; cases w2
      | some r2 =>
        obtain ⟨v2, h2⟩ := r2
        rw [e2] at w2
        cases v2 with
        | some x => cases w2
        | none => exact ⟨h, h2, rfl, w1, e2, w2⟩
theorem st_A_in {a k : Nat} (h : st_A a k ≠ 0) : a ∈ [0, 1, 3, 10, 14, 22, 25, 27, 32, 40, 44] ∧ k < 96 := by
  unfold st_A at h
  constructor
  · unfold st_R at h
    split at h
    all_goals first | decide | (exfalso; exact h rfl)
  · by_cases q : k < 96
    · exact q
    · exfalso
      apply h
      have hl : (st_R a).length ≤ 95 := by
        unfold st_R
        split <;> decide
      rw [List.getD_eq_getElem?_getD, List.getElem?_eq_none (by omega)]
      rfl
theorem kc_start : ∃ (h1 : jm_H) (Z : Nat) (s : gm_S) (g : gm_T), jm_cl jm_CD km_n 810 122 [.ref 0] kc_h1 = some (none, h1) ∧ jm_N h1 = 44 ∧ jm_cl jm_CD km_n 810 170 [.ref 44] (kc_h3 h1) = some (none, gm_h s g) ∧ bw_F Z s 0 ∧ Z ≤ 1000000 ∧ Ivt 0 g := by
  obtain ⟨h, h2, e1, n1, e2, c⟩ := kc_ex
  unfold kc_chk at c
  simp only [Bool.and_eq_true, decide_eq_true_eq, List.all_eq_true, List.mem_range] at c
  obtain ⟨⟨⟨⟨⟨⟨⟨⟨⟨⟨c1, c2⟩, c3⟩, c4⟩, c5⟩, c6⟩, c7⟩, c8⟩, c9⟩, c10⟩, c11⟩ := c
  have hgJ : ∀ a k, gm_J ((fun a k => (jm_I h2 a k).toInt, jm_J h2) : gm_T) a k = jm_J h2 a k := fun _ _ => rfl
  have hgI : ∀ a k, gm_I ((fun a k => (jm_I h2 a k).toInt, jm_J h2) : gm_T) a k = (jm_I h2 a k).toInt := fun _ _ => rfl
  have hg : gm_h (jm_N h2, jm_S h2, jm_T h2, jm_L h2, jm_A h2) ((fun a k => (jm_I h2 a k).toInt, jm_J h2) : gm_T) = h2 := by
    have e : (fun a k => Int32.ofInt ((jm_I h2 a k).toInt)) = jm_I h2 := by
      funext a k
      exact Int32.ofInt_toInt _
    show (jm_N h2, jm_S h2, jm_T h2, jm_L h2, (fun a k => Int32.ofInt ((jm_I h2 a k).toInt)), jm_J h2, jm_A h2) = h2
    rw [e]
    rfl
  refine ⟨h, jm_S h2, (jm_N h2, jm_S h2, jm_T h2, jm_L h2, jm_A h2), (fun a k => (jm_I h2 a k).toInt, jm_J h2), kc_r1_cl e1, n1, by rw [hg]; exact kc_r2_cl e2, ⟨⟨⟨Nat.le_refl 0, by decide, ?_⟩, c3, fun a k q => ?_, fun i hi => absurd hi (Nat.not_lt_zero i), fun i hi => absurd hi (Nat.not_lt_zero i), fun i hi => absurd hi (Nat.not_lt_zero i)⟩, c1, rfl⟩, c2, ?_⟩
  · show 111 + 8 * 0 ≤ jm_N h2
    rw [c1]
    decide
  · obtain ⟨q1, q2⟩ := st_A_in q
    rcases c4 a q1 k q2 with w | w
    · exact absurd w q
    · exact w
  · generalize hG : ((fun a k => (jm_I h2 a k).toInt, jm_J h2) : gm_T) = g at hgI hgJ
    have z : ∀ a k, (a, k) ∈ kc_zer → gm_I g a k = 0 := fun a k q => by
      rw [hgI, c5 (a, k) q]
      rfl
    have m0 : jm g = 0 := by
      unfold jm
      rw [z 44 24 (by decide)]
      rfl
    have hK : 0 ≤ Kb g := by
      unfold Kb
      omega
    have z35 := z 44 35 (by decide)
    have z36 := z 44 36 (by decide)
    have z87 := z 44 87 (by decide)
    have z20 := z 44 20 (by decide)
    have z24 := z 44 24 (by decide)
    refine ⟨⟨⟨fun _ => p0, ⟨⟨z 10 1 (by decide), z 44 3 (by decide), by decide⟩, fun b hb => absurd hb (Nat.not_lt_zero b), fun b hb => absurd hb (Nat.not_lt_zero b), ⟨(z 10 2 (by decide)).trans z20.symm, by omega, by omega⟩, fun k hk => ?_, fun a b k l ha => absurd ha (Nat.not_lt_zero a), fun a b ha hb => ?_⟩, ⟨⟨(z 14 4 (by decide)).trans z24.symm, by omega, by omega⟩, fun j hj => absurd hj (by rw [m0]; exact Nat.not_lt_zero j), 0, (hgJ 14 5).trans c10, by decide, fun j => ?_⟩, fun b hb => absurd hb (Nat.not_lt_zero b), fun b hb => (hgJ 23 b).trans (c9 b hb), fun _ _ => rfl, fun b => ?_, fun j hj => absurd hj (by rw [m0]; exact Nat.not_lt_zero j), ⟨0, 0, z 22 3 (by decide), z 22 4 (by decide), by decide, by decide, fun b => ?_⟩, fun b hb => absurd hb (Nat.not_lt_zero b)⟩, fun b l hb => absurd hb (Nat.not_lt_zero b)⟩, ⟨⟨(z 22 5 (by decide)).trans z35.symm, by omega, by omega⟩, ⟨(z 22 8 (by decide)).trans z36.symm, by omega, by omega⟩, (z 22 6 (by decide)).trans (z 44 37 (by decide)).symm, (z 22 7 (by decide)).trans (z 44 38 (by decide)).symm, fun k hk => by rw [z36] at hk; omega⟩, ⟨⟨(z 32 0 (by decide)).trans z87.symm, by omega, by omega⟩, fun k hk => by rw [z87] at hk; omega⟩, fun k hk => ?_, tape_0 (z 1 0 (by decide)) (z 44 2 (by decide)), Or.inl ⟨z 25 1 (by decide), z 44 59 (by decide)⟩, ⟨0, 0, fun _ => 0, fun _ => p0, ⟨by decide, by decide⟩, ⟨z 27 8 (by decide), z 44 77 (by decide)⟩, fun i hi => absurd hi (Nat.not_lt_zero i), fun b => ?_, fun w => absurd w (by decide), fun w => absurd w (by decide), fun w => absurd w (by decide)⟩, fun s hs => ?_, ⟨0, 0, ⟨z 40 10 (by decide), z 44 84 (by decide)⟩, by decide, ct_none (fun i _ => Nat.zero_testBit i), fun b w => by rw [Nat.zero_testBit] at w; cases w⟩⟩
    · obtain ⟨w1, w2⟩ := c6 k hk
      rw [hgI, hgI, w1]
      rcases w2 with w | w
      · rw [w]; decide
      · rw [w]; decide
    · rw [hgI, hgI, c7 a ha b hb]
    · rw [Nat.zero_testBit, m0, decide_eq_false (Nat.not_lt_zero j), Bool.false_and]
    · show (0 ≤ (0 : Int) ∧ (0 : Int) ≤ 3) ∧ (-(Kb g) ≤ 0 ∧ (0 : Int) ≤ Kb g) ∧ -(Kb g) ≤ 0 ∧ (0 : Int) ≤ Kb g
      omega
    · rw [Nat.zero_testBit, decide_eq_false (Nat.not_lt_zero b), Bool.false_and, Bool.false_and]
      exact ⟨rfl, rfl⟩
    · obtain ⟨w1, w2⟩ := c8 k hk
      rw [hgI, hgI, w1, w2]
      decide
    · rw [Nat.zero_testBit]
      constructor
      · intro w; cases w
      · rintro ⟨i, hi, -⟩
        omega
    · rw [hgI, c11 s hs]
      rfl
