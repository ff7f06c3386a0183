/-! The new bit among the bits. -/
theorem cntM_le (M : Int → Int → Bool) : cntM M ≤ 1600 := s2_le (fun x y => by split <;> omega)
theorem V_bit_new {n : Nat} {h : gm_T} {l m : ptl} {a b c : Int} (V : V_bit n h) (ol : okl l) (l3 : 3 ≤ l.length) (l8 : l.length ≤ 8) (om : okl m) (m5 : m.length ≤ 5) (gin : ∀ k, k < m.length → (-20 ≤ ptx m k ∧ ptx m k ≤ 19) ∧ -20 ≤ pty m k ∧ pty m k ≤ 19) (o : okB a b c) (F3 : gm_I h (bA n) 3 = (l.length : Int)) (F46 : gm_I h 46 n = (l.length : Int)) (C1 : ∀ k, k < l.length → gm_I h (bA n + 2) k = ptx l k ∧ gm_I h (bA n + 3) k = pty l k ∧ gm_I h (bA n + 4) k = ptc l k) (R1 : cP h 47 48 49 (8 * n) l) (F7 : gm_I h (bA n) 7 = (m.length : Int)) (F50 : gm_I h 50 n = (m.length : Int)) (C2 : ∀ k, k < m.length → gm_I h (bA n + 5) k = ptx m k ∧ gm_I h (bA n + 6) k = pty m k ∧ gm_I h (bA n + 7) k = ptc m k) (R2 : cP h 51 52 53 (5 * n) m) (F0 : gm_I h (bA n) 0 = a ∧ gm_I h 54 n = a) (F1 : gm_I h (bA n) 1 = b ∧ gm_I h 55 n = b) (F2 : gm_I h (bA n) 2 = c ∧ gm_I h 56 n = c) {M : Int → Int → Bool} (F12 : gm_I h (bA n) 12 = ((cntM M : Nat) : Int) ∧ gm_I h 57 n = ((cntM M : Nat) : Int)) (F11 : gm_I h (bA n) 11 = gm_I h 58 n) : V_bit (n + 1) h := by
  intro q hq
  by_cases e : q = n
  rotate_left
  · exact V q (by omega)
  subst e
  have cl := cntM_le M
  obtain ⟨o1, o2, o3⟩ := o
  refine ⟨⟨by rw [F3, F46], by rw [F46]; omega, by rw [F46]; omega⟩, fun k hk => ?_, ⟨by rw [F7, F50], by rw [F50]; omega, by rw [F50]; omega⟩, fun k hk => ?_, ⟨by rw [F0.1, F0.2], by rw [F0.2]; exact o1.1, by rw [F0.2]; exact o1.2⟩, ⟨by rw [F1.1, F1.2], by rw [F1.2]; exact o2.1, by rw [F1.2]; exact o2.2⟩, ⟨by rw [F2.1, F2.2], by rw [F2.2]; exact o3.1, by rw [F2.2]; exact o3.2⟩, ⟨by rw [F12.1, F12.2], by rw [F12.2]; omega, by rw [F12.2]; omega⟩, F11⟩
  · rw [F46] at hk
    have hk' : k < l.length := by omega
    have x1 := C1 k hk'
    have x2 := cP_k R1 hk'
    have x3 := okl_k ol hk'
    rw [x1.1, x1.2.1, x1.2.2, x2.1, x2.2.1, x2.2.2]
    exact ⟨⟨rfl, x3.1⟩, ⟨rfl, x3.2.1⟩, rfl, x3.2.2⟩
  · rw [F50] at hk
    have hk' : k < m.length := by omega
    have x1 := C2 k hk'
    have x2 := cP_k R2 hk'
    have x3 := okl_k om hk'
    have x4 := gin k hk'
    rw [x1.1, x1.2.1, x1.2.2, x2.1, x2.2.1, x2.2.2]
    exact ⟨⟨rfl, x4.1⟩, ⟨rfl, x4.2⟩, rfl, x3.2.2⟩
