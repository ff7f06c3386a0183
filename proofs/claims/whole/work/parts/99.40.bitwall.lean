/-! The wall after a new bit: joins, groups, placings. -/
theorem jx_eq {g h : gm_T} (e : ∀ a, 65 ≤ a → a ≤ 69 → ∀ j, gm_I h a j = gm_I g a j) (e24 : gm_I h 44 24 = gm_I g 44 24) : jA h = jA g ∧ jB h = jB g ∧ jK h = jK g ∧ jL h = jL g ∧ jE h = jE g ∧ jm h = jm g := by
  refine ⟨funext fun j => ?_, funext fun j => ?_, funext fun j => ?_, funext fun j => ?_, funext fun j => ?_, ?_⟩
  · unfold jA; rw [e _ (by decide) (by decide)]
  · unfold jB; rw [e _ (by decide) (by decide)]
  · unfold jK; rw [e _ (by decide) (by decide)]
  · unfold jL; rw [e _ (by decide) (by decide)]
  · unfold jE; rw [e _ (by decide) (by decide)]
  · unfold jm; rw [e24]
theorem V_jn_bt {n m : Nat} (hm : n ≤ m) {g h : gm_T} (VB : V_bit n g) (O : oldB n g h) (e : ∀ a, (14 ≤ a ∧ a ≤ 18) ∨ (65 ≤ a ∧ a ≤ 69) → ∀ j, gm_I h a j = gm_I g a j) (e24 : gm_I h 44 24 = gm_I g 44 24) (eJ : gm_J h 14 5 = gm_J g 14 5) (V : V_jn n g) : V_jn m h := by
  obtain ⟨A, B, K, L, E, M⟩ := jx_eq (fun a h1 h2 => e a (Or.inr ⟨h1, h2⟩)) e24
  obtain ⟨v1, v2, v3⟩ := V
  refine ⟨by rw [e 14 (by decide) 4, e24]; exact v1, fun j hj => ?_, ?_⟩
  · rw [M] at hj
    obtain ⟨⟨a1, a2, a3⟩, ⟨b1, b2, b3⟩, ⟨c1, c2, c3⟩, ⟨d1, d2, d3⟩, e6, f, g7⟩ := v2 j hj
    have K8 := k8_of VB a3 b3
    have L8 := k8_of VB c3 d3
    have mA : mE h (jA g j) = mE g (jA g j) := (O _ a3).1
    have mB : mE h (jB g j) = mE g (jB g j) := (O _ c3).1
    rw [A, B, K, L, e 15 (by decide) j, e 16 (by decide) j, e 17 (by decide) j, e 18 (by decide) j, e 65 (by decide) j, e 66 (by decide) j, e 67 (by decide) j, e 68 (by decide) j, e 69 (by decide) j, mA, mB, tn_old VB O a3 c3 K8 L8]
    exact ⟨⟨a1, a2, by omega⟩, ⟨b1, b2, b3⟩, ⟨c1, c2, by omega⟩, ⟨d1, d2, d3⟩, e6, f, g7⟩
  · obtain ⟨T, t1, t2, t3⟩ := v3
    exact ⟨T, eJ.trans t1, t2, fun j => by rw [M, E]; exact t3 j⟩
theorem V_grp_bt {n m : Nat} (m30 : m ≤ 30) {g h : gm_T} (e : ∀ a, 65 ≤ a → a ≤ 69 → ∀ j, gm_I h a j = gm_I g a j) (e24 : gm_I h 44 24 = gm_I g 44 24) (e19 : ∀ b, b < n → gm_I h 19 b = gm_I g 19 b) (g19 : ∀ b, n ≤ b → b < m → gm_I h 19 b = ((2 ^ b : Nat) : Int)) (V : V_jn n g) (G : V_grp n g) : V_grp m h := by
  obtain ⟨A, B, K, L, E, M⟩ := jx_eq e e24
  intro b hb
  by_cases q : n ≤ b
  · refine ⟨2 ^ b, g19 b q hb, Nat.pow_lt_pow_right (by decide) (by omega), fun c => ?_⟩
    rw [Nat.testBit_two_pow, decide_eq_true_iff]
    constructor
    · intro w
      rw [← w]
      exact gC_rf _
    · intro w
      unfold cn at w
      rw [A, B, E, M] at w
      exact (gC_closed (S := fun x => x = b) (fun j hj _ => by
        obtain ⟨⟨-, -, a3⟩, -, ⟨-, -, c3⟩, -⟩ := V.2.1 j hj
        constructor <;> (intro z; omega)) rfl w).symm
  · obtain ⟨M0, m1, m2, m3⟩ := G b (by omega)
    exact ⟨M0, (e19 b (by omega)).trans m1, m2, fun c => by unfold cn; rw [A, B, E, M]; exact m3 c⟩
theorem isW_bt {n m : Nat} (hm : n ≤ m) {g h : gm_T} {P : Nat → plc} (VB : V_bit n g) (O : oldB n g h) (V : V_jn n g) (e : ∀ a, 65 ≤ a → a ≤ 69 → ∀ j, gm_I h a j = gm_I g a j) (e24 : gm_I h 44 24 = gm_I g 44 24) (e23 : ∀ b, gm_J h 23 b = gm_J g 23 b) (e22 : gm_I h 22 3 = gm_I g 22 3 ∧ gm_I h 22 4 = gm_I g 22 4) (e7 : ∀ b, b < n → gm_I h 70 b = gm_I g 70 b ∧ gm_I h 71 b = gm_I g 71 b) (e72 : ∀ b, gm_I h 72 b = gm_I g 72 b ∧ gm_I h 73 b = gm_I g 73 b ∧ gm_I h 74 b = gm_I g 74 b) (z : ∀ b, n ≤ b → b < m → gm_I h 70 b = 0 ∧ gm_I h 71 b = 0) (W : isW n g P) : isW m h P := by
  obtain ⟨A, B, K, L, E, M⟩ := jx_eq e e24
  obtain ⟨w1, w2, w3, w4, ⟨w, u, p1, p2, p3, p4, p5⟩, w6⟩ := W
  have hwb : ∀ b, b < n → hw h b = hw g b := fun b hb => by unfold hw; rw [(e7 b hb).1]
  have hpb : ∀ b, b < n → hp h b = hp g b := fun b hb => by unfold hp; rw [(e7 b hb).2]
  have hwn : ∀ b, n ≤ b → b < m → hw h b = false := fun b h1 h2 => by unfold hw; exact decide_eq_false (by rw [(z b h1 h2).1]; decide)
  have hpn : ∀ b, n ≤ b → b < m → hp h b = false := fun b h1 h2 => by unfold hp; exact decide_eq_false (by rw [(z b h1 h2).2]; decide)
  refine ⟨fun b hb => (e23 b).trans (w1 b hb), fun b hb => w2 b (by omega), fun b => ?_, fun j hj he => ?_, ⟨w, u, e22.1.trans p1, e22.2.trans p2, p3, p4, fun b => ?_⟩, fun b hb => ?_⟩
  · unfold Kb
    rw [M]
    exact w3 b
  · rw [M] at hj
    rw [E] at he
    obtain ⟨⟨-, -, a3⟩, ⟨-, -, b3⟩, ⟨-, -, c3⟩, ⟨-, -, d3⟩, -⟩ := V.2.1 j hj
    have K8 := k8_of VB a3 b3
    have L8 := k8_of VB c3 d3
    have J : jpl h j = jpl g j := by
      unfold jpl fpl
      rw [A, B, K, L, tn_old VB O a3 c3 K8 L8, (fX_old VB O a3 c3 K8 L8).1, (fX_old VB O a3 c3 K8 L8).2]
    rw [A, B, J]
    exact w4 j hj he
  · rw [(p5 b).1, (p5 b).2]
    by_cases q : b < n
    · rw [hwb b q, hpb b q, decide_eq_true q, decide_eq_true (show b < m by omega)]
      exact ⟨rfl, rfl⟩
    · rw [decide_eq_false q, Bool.false_and, Bool.false_and]
      by_cases q2 : b < m
      · rw [hwn b (by omega) q2, hpn b (by omega) q2, Bool.and_false]
        exact ⟨rfl, rfl⟩
      · rw [decide_eq_false q2, Bool.false_and, Bool.false_and]
        exact ⟨rfl, rfl⟩
  · by_cases q : n ≤ b
    · refine ⟨Or.inl (z b q hb).1, Or.inl (z b q hb).2, fun y => ?_⟩
      rw [hwn b q hb, hpn b q hb] at y
      rcases y with y | y <;> cases y
    · have hb' : b < n := by omega
      rw [hwb b hb', hpb b hb', (e7 b hb').1, (e7 b hb').2, (e72 b).1, (e72 b).2.1, (e72 b).2.2]
      exact w6 b hb'
