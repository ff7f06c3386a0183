/-! A cell's middle within the ring. -/
noncomputable def mwp (g : gm_T) (K : Int → Option Int) (c6 c7 v8 v20 v21 v24 v27 v28 : Int) : Option Int :=
    jg (rg v28)
    (if v28 = 0 then
    (jg (rg v20 ∧ rg v24)
    (jb1 (md_in g c6 (zmin v20 v24) (zmax v20 v24)) fun (v31 : Int) =>
    jg (rg v31)
    (if v31 = 0 then
    (jb1 (
    jg (rg v21 ∧ rg c7)
    (if v21 ≤ c7 then
    (jg (rg v27)
    (if v27 ≤ c7 then
    (some 0)
    else
    (some 1)))
    else
    (some 0))) fun (v33 : Int) =>
    jb1 (
    jg (rg v27 ∧ rg c7)
    (if v27 ≤ c7 then
    (jg (rg v21)
    (if v21 ≤ c7 then
    (some 0)
    else
    (some 1)))
    else
    (some 0))) fun (v36 : Int) =>
    jg (rg v33)
    (if v33 = 0 then
    (jg (rg v36)
    (if v36 = 0 then
    (K v8)
    else
    (if v28 < 0 then
    (jg (rg v8)
    (if v8 = 0 then
    (K 1)
    else
    (K 0)))
    else
    (K v8))))
    else
    (if v28 ≤ 0 then
    (jg (rg v36)
    (if v36 = 0 then
    (K v8)
    else
    (if v28 < 0 then
    (jg (rg v8)
    (if v8 = 0 then
    (K 1)
    else
    (K 0)))
    else
    (K v8))))
    else
    (jg (rg v8)
    (if v8 = 0 then
    (K 1)
    else
    (K 0))))))
    else
    (jg (rg v21 ∧ rg v27)
    (jb1 (md_in g c7 (zmin v21 v27) (zmax v21 v27)) fun (v56 : Int) =>
    jg (rg v56)
    (if v56 = 0 then
    (jb1 (
    jg (rg c7)
    (if v21 ≤ c7 then
    (if v27 ≤ c7 then
    (some 0)
    else
    (some 1))
    else
    (some 0))) fun (v58 : Int) =>
    jb1 (
    jg (rg c7)
    (if v27 ≤ c7 then
    (if v21 ≤ c7 then
    (some 0)
    else
    (some 1))
    else
    (some 0))) fun (v60 : Int) =>
    jg (rg v58)
    (if v58 = 0 then
    (jg (rg v60)
    (if v60 = 0 then
    (K v8)
    else
    (if v28 < 0 then
    (jg (rg v8)
    (if v8 = 0 then
    (K 1)
    else
    (K 0)))
    else
    (K v8))))
    else
    (if v28 ≤ 0 then
    (jg (rg v60)
    (if v60 = 0 then
    (K v8)
    else
    (if v28 < 0 then
    (jg (rg v8)
    (if v8 = 0 then
    (K 1)
    else
    (K 0)))
    else
    (K v8))))
    else
    (jg (rg v8)
    (if v8 = 0 then
    (K 1)
    else
    (K 0))))))
    else
    (some 0)))))))
    else
    (jb1 (
    jg (rg v21 ∧ rg c7)
    (if v21 ≤ c7 then
    (jg (rg v27)
    (if v27 ≤ c7 then
    (some 0)
    else
    (some 1)))
    else
    (some 0))) fun (v78 : Int) =>
    jb1 (
    jg (rg v27 ∧ rg c7)
    (if v27 ≤ c7 then
    (jg (rg v21)
    (if v21 ≤ c7 then
    (some 0)
    else
    (some 1)))
    else
    (some 0))) fun (v81 : Int) =>
    jg (rg v78)
    (if v78 = 0 then
    (jg (rg v81)
    (if v81 = 0 then
    (K v8)
    else
    (if v28 < 0 then
    (jg (rg v8)
    (if v8 = 0 then
    (K 1)
    else
    (K 0)))
    else
    (K v8))))
    else
    (if v28 ≤ 0 then
    (jg (rg v81)
    (if v81 = 0 then
    (K v8)
    else
    (if v28 < 0 then
    (jg (rg v8)
    (if v8 = 0 then
    (K 1)
    else
    (K 0)))
    else
    (K v8))))
    else
    (jg (rg v8)
    (if v8 = 0 then
    (K 1)
    else
    (K 0)))))))
theorem nl_pos {a b A B : Int} (h : a * A = b * B) (ha : 0 ≤ a) (hA : 0 < A) (hb : A < 2 * b) : 0 ≤ B ∧ B ≤ 2 * a := by
  have b0 : 0 < b := by omega
  constructor
  · rcases Int.lt_or_le B 0 with q | q
    · have h1 := Int.mul_neg_of_pos_of_neg b0 q
      have h2 := Int.mul_nonneg ha (Int.le_of_lt hA)
      omega
    · exact q
  · rcases Int.lt_or_le (2 * a) B with q | q
    · have h1 := Int.mul_lt_mul_of_pos_left q b0
      have h2 := Int.mul_le_mul_of_nonneg_left (Int.le_of_lt hb) ha
      have h3 : b * (2 * a) = a * (2 * b) := by rw [Int.mul_left_comm, Int.mul_comm b a, Int.mul_left_comm a 2 b]
      omega
    · exact q
theorem nl_any {a b A B : Int} (h : a * A = b * B) (hA : 0 < A) (hb : A < 2 * b) : (0 ≤ B ∧ B ≤ 2 * a) ∨ (2 * a ≤ B ∧ B ≤ 0) := by
  rcases Int.lt_or_le a 0 with q | q
  · have w := nl_pos (a := -a) (b := b) (A := A) (B := -B) (by rw [Int.neg_mul, Int.mul_neg, h]) (by omega) hA hb
    exact Or.inr (by omega)
  · exact Or.inl (nl_pos h q hA hb)
/-- on the line and straddled: between its ends -/
theorem nl_str {a b A B : Int} (h : a * A - b * B = 0) (hs : (0 < A ∧ A < 2 * b) ∨ (A < 0 ∧ 2 * b < A)) : (0 ≤ B ∧ B ≤ 2 * a) ∨ (2 * a ≤ B ∧ B ≤ 0) := by
  rcases hs with hs | hs
  · exact nl_any (a := a) (b := b) (by omega) hs.1 hs.2
  · have e : a * (-A) = (-b) * B := by
      rw [Int.mul_neg, Int.neg_mul]
      omega
    exact nl_any e (by omega) (by omega)
/-- an edge from (xk, yk) to (xn, yn), all doubled, seen from (px, py): none if the middle is on it, else whether it is crossed -/
def wse (px py xk yk xn yn cr : Int) : Option Bool := if decide (py < yk) = decide (py < yn) then some false else if cr = 0 then none else some (decide (0 < cr) == decide (py < yn))
theorem mwp_eq {g : gm_T} {K : Int → Option Int} {x y a b xk yk xn yn cr : Int} {w : Bool} (h1 : -50 ≤ x ∧ x ≤ 50) (h2 : -50 ≤ y ∧ y ≤ 50) (hxk : -20 ≤ xk ∧ xk ≤ 20) (hyk : -20 ≤ yk ∧ yk ≤ 20) (hxn : -20 ≤ xn ∧ xn ≤ 20) (hyn : -20 ≤ yn ∧ yn ≤ 20) (hcr : cr = 2 * ((xn - xk) * ((2 * y + 1) - 2 * yk) - (yn - yk) * ((2 * x + 1) - 2 * xk))) (hr : rg cr) : mwp g K (2 * x + 1) (2 * y + 1) (if w = true then 1 else 0) (2 * xk) (2 * yk) (2 * xn) (2 * yn) cr = (match wse (2 * x + 1) (2 * y + 1) (2 * xk) (2 * yk) (2 * xn) (2 * yn) cr with
    | none => some 0
    | some s => K (if (w ^^ s) = true then 1 else 0)) := by
  have r1 : rg (2 * x + 1) := ⟨by omega, by omega⟩
  have r2 : rg (2 * y + 1) := ⟨by omega, by omega⟩
  have r3 : rg (2 * xk) := ⟨by omega, by omega⟩
  have r4 : rg (2 * yk) := ⟨by omega, by omega⟩
  have r5 : rg (2 * xn) := ⟨by omega, by omega⟩
  have r6 : rg (2 * yn) := ⟨by omega, by omega⟩
  have z1 : rg (zmin (2 * xk) (2 * xn)) := by unfold zmin; split <;> assumption
  have z2 : rg (zmax (2 * xk) (2 * xn)) := by unfold zmax; split <;> assumption
  have z3 : rg (zmin (2 * yk) (2 * yn)) := by unfold zmin; split <;> assumption
  have z4 : rg (zmax (2 * yk) (2 * yn)) := by unfold zmax; split <;> assumption
  have n1 : ¬ (1 : Int) = 0 := n10
  have R0 : rg 0 := rgk rfl
  have R1 : rg 1 := rgk rfl
  have tg : ∀ s : Bool, (if (w ^^ true) = true then (1 : Int) else 0) = if w = true then 0 else 1 := fun _ => by cases w <;> rfl
  have fl : (w ^^ false) = w := by cases w <;> rfl
  unfold mwp wse
  rw [md_in_eq r1 z1 z2, md_in_eq r2 z3 z4]
  have inY : (zmin (2 * yk) (2 * yn) ≤ 2 * y + 1 ∧ 2 * y + 1 ≤ zmax (2 * yk) (2 * yn)) ↔ ¬ (decide (2 * y + 1 < 2 * yk) = decide (2 * y + 1 < 2 * yn)) := by
    rw [decide_eq_decide]
    unfold zmin zmax
    split <;> split <;> omega
  have inX : cr = 0 → ¬ (decide (2 * y + 1 < 2 * yk) = decide (2 * y + 1 < 2 * yn)) → (zmin (2 * xk) (2 * xn) ≤ 2 * x + 1 ∧ 2 * x + 1 ≤ zmax (2 * xk) (2 * xn)) := fun e q => by
    rw [decide_eq_decide] at q
    have w := nl_str (a := xn - xk) (b := yn - yk) (A := (2 * y + 1) - 2 * yk) (B := (2 * x + 1) - 2 * xk) (by omega) (by omega)
    unfold zmin zmax
    split <;> split <;> omega
  by_cases q : decide (2 * y + 1 < 2 * yk) = decide (2 * y + 1 < 2 * yn)
  · -- not straddled
    have nY : ¬ (zmin (2 * yk) (2 * yn) ≤ 2 * y + 1 ∧ 2 * y + 1 ≤ zmax (2 * yk) (2 * yn)) := fun z => inY.mp z q
    rw [if_pos q]
    rw [decide_eq_decide] at q
    rw [if_neg nY]
    have hK : K (if (w ^^ false) = true then 1 else 0) = K (if w = true then 1 else 0) := by rw [fl]
    by_cases ha : 2 * yk ≤ 2 * y + 1
    · have hb : 2 * yn ≤ 2 * y + 1 := by omega
      simp only [ha, hb, jg_pos hr, jg_pos R0, jg_pos R1, jg_pos r6, jg_pos r4, jg_pos r2, jg_pos (And.intro r4 r2), jg_pos (And.intro r6 r2), jg_pos (And.intro r3 r5), jg_pos (And.intro r4 r6), jb1_some, ↓reduceIte]
      rw [jg_pos rg01, fl]
      (repeat' split) <;> rfl
    · have hb : ¬ 2 * yn ≤ 2 * y + 1 := by omega
      simp only [ha, hb, jg_pos hr, jg_pos R0, jg_pos R1, jg_pos r6, jg_pos r4, jg_pos r2, jg_pos (And.intro r4 r2), jg_pos (And.intro r6 r2), jg_pos (And.intro r3 r5), jg_pos (And.intro r4 r6), jb1_some, ↓reduceIte]
      rw [jg_pos rg01, fl]
      (repeat' split) <;> rfl
  · have hY := inY.mpr q
    rw [if_neg q, if_pos hY]
    by_cases e0 : cr = 0
    · have hX := inX e0 q
      rw [if_pos e0, if_pos hX]
      simp only [e0, n1, jg_pos hr, jg_pos R0, jg_pos R1, jg_pos r6, jg_pos r4, jg_pos r2, jg_pos (And.intro r4 r2), jg_pos (And.intro r6 r2), jg_pos (And.intro r3 r5), jg_pos (And.intro r4 r6), jb1_some, ↓reduceIte]
    have q2 := q
    rw [decide_eq_decide] at q2
    rw [if_neg e0]
    by_cases ha : 2 * yk ≤ 2 * y + 1
    · have hb : ¬ 2 * yn ≤ 2 * y + 1 := by omega
      rw [show decide (2 * y + 1 < 2 * yn) = true from decide_eq_true (by omega)]
      by_cases e1 : cr ≤ 0
      · have e2 : cr < 0 := by omega
        rw [show decide (0 < cr) = false from decide_eq_false (by omega)]
        cases w <;> simp only [ha, hb, e0, e1, e2, jg_pos hr, jg_pos R0, jg_pos R1, jg_pos r6, jg_pos r4, jg_pos r2, jg_pos (And.intro r4 r2), jg_pos (And.intro r6 r2), jg_pos (And.intro r3 r5), jg_pos (And.intro r4 r6), jb1_some, ↓reduceIte] <;> first | rfl | exact (jg_pos (show rg (if false = true then (1 : Int) else 0) from R0)).trans rfl
      · have e2 : ¬ cr < 0 := by omega
        rw [show decide (0 < cr) = true from decide_eq_true (by omega)]
        cases w <;> simp only [ha, hb, e0, e1, e2, n1, jg_pos hr, jg_pos R0, jg_pos R1, jg_pos r6, jg_pos r4, jg_pos r2, jg_pos (And.intro r4 r2), jg_pos (And.intro r6 r2), jg_pos (And.intro r3 r5), jg_pos (And.intro r4 r6), jb1_some, ↓reduceIte] <;> first | rfl | exact (jg_pos (show rg (if false = true then (1 : Int) else 0) from R0)).trans rfl
    · have hb : 2 * yn ≤ 2 * y + 1 := by omega
      rw [show decide (2 * y + 1 < 2 * yn) = false from decide_eq_false (by omega)]
      by_cases e1 : cr ≤ 0
      · have e2 : cr < 0 := by omega
        rw [show decide (0 < cr) = false from decide_eq_false (by omega)]
        cases w <;> simp only [ha, hb, e0, e1, e2, n1, jg_pos hr, jg_pos R0, jg_pos R1, jg_pos r6, jg_pos r4, jg_pos r2, jg_pos (And.intro r4 r2), jg_pos (And.intro r6 r2), jg_pos (And.intro r3 r5), jg_pos (And.intro r4 r6), jb1_some, ↓reduceIte] <;> first | rfl | exact (jg_pos (show rg (if false = true then (1 : Int) else 0) from R0)).trans rfl
      · have e2 : ¬ cr < 0 := by omega
        rw [show decide (0 < cr) = true from decide_eq_true (by omega)]
        cases w <;> simp only [ha, hb, e0, e1, e2, n1, jg_pos hr, jg_pos R0, jg_pos R1, jg_pos r6, jg_pos r4, jg_pos r2, jg_pos (And.intro r4 r2), jg_pos (And.intro r6 r2), jg_pos (And.intro r3 r5), jg_pos (And.intro r4 r6), jb1_some, ↓reduceIte] <;> first | rfl | exact (jg_pos (show rg (if false = true then (1 : Int) else 0) from R0)).trans rfl
