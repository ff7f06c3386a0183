/-! A cell's middle within the ring: both sides. -/
def wcr (c : Nat) (X Y : Nat → Int) (x y : Int) (k : Nat) : Int := (X (rnx c k) - X k) * ((2 * y + 1) - 2 * Y k) - (Y (rnx c k) - Y k) * ((2 * x + 1) - 2 * X k)
def wst (c : Nat) (X Y : Nat → Int) (x y : Int) (k : Nat) : Option Bool := wse (2 * x + 1) (2 * y + 1) (2 * X k) (2 * Y k) (2 * X (rnx c k)) (2 * Y (rnx c k)) (2 * wcr c X Y x y k)
def wlp (f : Nat → Option Bool) : Nat → Nat → Bool → Bool
  | _, 0, b => b
  | v, d + 1, b => match f v with
    | none => false
    | some s => wlp f (v + 1) d (b ^^ s)
def winr (c : Nat) (X Y : Nat → Int) (x y : Int) : Bool := wlp (wst c X Y x y) 0 c false
theorem pb200 {a b : Int} (ha : -40 ≤ a ∧ a ≤ 40) (hb : -200 ≤ b ∧ b ≤ 200) : -8000 ≤ a * b ∧ a * b ≤ 8000 := by
  have h := Nat.mul_le_mul (show a.natAbs ≤ 40 by omega) (show b.natAbs ≤ 200 by omega)
  rw [← Int.natAbs_mul] at h
  omega
theorem wcr_b {c : Nat} {X Y : Nat → Int} (hG : rG c X Y) {x y : Int} (hx : -50 ≤ x ∧ x ≤ 50) (hy : -50 ≤ y ∧ y ≤ 50) {k : Nat} (hk : k < c) : -16000 ≤ wcr c X Y x y k ∧ wcr c X Y x y k ≤ 16000 := by
  have bk := hG.2 k hk
  have bn := hG.2 _ (rnx_lt (c := c) (k := k) (by omega))
  have p1 := pb200 (a := X (rnx c k) - X k) (b := (2 * y + 1) - 2 * Y k) (by omega) (by omega)
  have p2 := pb200 (a := Y (rnx c k) - Y k) (b := (2 * x + 1) - 2 * X k) (by omega) (by omega)
  unfold wcr
  omega
theorem md_within_lp {g : gm_T} {n c : Nat} {X Y : Nat → Int} (hn : n < 30) (hG : rG c X Y) (h : isR g n c X Y) {x y : Int} (hx : -50 ≤ x ∧ x ≤ 50) (hy : -50 ≤ y ∧ y ≤ 50) : ∀ d v fuel (b : Bool), d < fuel → v + d = c → md_isWithin_l20 g (n : Int) (2 * x + 1) (2 * y + 1) fuel (if b = true then 1 else 0) (v : Int) = some (if wlp (wst c X Y x y) v d b = true then 1 else 0) := by
  have c8 := hG.1.2
  intro d
  induction d with
  | zero =>
    intro v fuel b hf hv
    obtain ⟨fuel, rfl⟩ : ∃ z, fuel = z + 1 := ⟨fuel - 1, by omega⟩
    unfold md_isWithin_l20
    rw [jg_pos ⟨by omega, by omega⟩, Int.toNat_natCast, h.1, jg_pos ⟨rgn (by omega), rgn (by omega)⟩, if_neg (by omega), jg_pos (b01_z b)]
    rfl
  | succ d ih =>
    intro v fuel b hf hv
    obtain ⟨fuel, rfl⟩ : ∃ z, fuel = z + 1 := ⟨fuel - 1, by omega⟩
    have hk : v < c := by omega
    have hnx : rnx c v < c := rnx_lt (by omega)
    have bk := hG.2 v hk
    have bn := hG.2 _ hnx
    have wb := wcr_b hG hx hy hk
    have cr : (2 * X (rnx c v) - 2 * X v) * (2 * y + 1 - 2 * Y v) - (2 * Y (rnx c v) - 2 * Y v) * (2 * x + 1 - 2 * X v) = 2 * wcr c X Y x y v := by
      unfold wcr
      rw [← Int.mul_sub, ← Int.mul_sub, Int.mul_assoc, Int.mul_assoc, ← Int.mul_sub]
    unfold md_isWithin_l20 md_cross
    rw [jg_pos ⟨by omega, by omega⟩, Int.toNat_natCast, h.1, jg_pos ⟨rgn (by omega), rgn (by omega)⟩, if_pos (by omega), i8_eq, jg_pos (by omega), jl_eq, jl_eq, mdn_eq hn hG h hk, jb1_some, jg_pos (by omega), jl_eq, jb1_some, jg_pos (by omega), jl_eq, Int.toNat_natCast, Int.toNat_natCast, (h.2 v hk).1, (h.2 v hk).2, (h.2 _ hnx).1, (h.2 _ hnx).2, jb1_some, cr]
    refine Eq.trans (show _ = mwp g (fun z => md_isWithin_l20 g (n : Int) (2 * x + 1) (2 * y + 1) fuel z ((v : Int) + 1)) (2 * x + 1) (2 * y + 1) (if b = true then 1 else 0) (2 * X v) (2 * Y v) (2 * X (rnx c v)) (2 * Y (rnx c v)) (2 * wcr c X Y x y v) from rfl) ?_
    rw [mwp_eq (a := 0) (b := 0) (cr := 2 * wcr c X Y x y v) hx hy bk.1 bk.2 bn.1 bn.2 rfl ⟨by omega, by omega⟩]
    show (match wst c X Y x y v with
      | none => some 0
      | some s => md_isWithin_l20 g (n : Int) (2 * x + 1) (2 * y + 1) fuel (if (b ^^ s) = true then 1 else 0) ((v : Int) + 1)) = some (if (match wst c X Y x y v with
        | none => false
        | some s => wlp (wst c X Y x y) (v + 1) d (b ^^ s)) = true then 1 else 0)
    cases wst c X Y x y v with
    | none => rfl
    | some s => exact ih (v + 1) fuel (b ^^ s) (by omega) (by omega)
theorem md_isWithin_eq {g : gm_T} {n c : Nat} {X Y : Nat → Int} (hn : n < 30) (hG : rG c X Y) (h : isR g n c X Y) {x y : Int} (hx : -50 ≤ x ∧ x ≤ 50) (hy : -50 ≤ y ∧ y ≤ 50) : md_isWithin g (n : Int) x y = some (if winr c X Y x y = true then 1 else 0) := by
  unfold md_isWithin
  rw [jl_eq, jl_eq]
  exact md_within_lp hn hG h hx hy c 0 fz false (Nat.lt_of_le_of_lt hG.1.2 (fz_gt rfl)) (Nat.zero_add c)
theorem ck_within_lp {g : gm_T} {c : Nat} {X Y : Nat → Int} (hG : rG c X Y) (h : isC g c X Y) {x y : Int} (hx : -50 ≤ x ∧ x ≤ 50) (hy : -50 ≤ y ∧ y ≤ 50) : ∀ d v fuel (b : Bool), d < fuel → v + d = c → ck_holdsCell_l19 g (2 * x + 1) (2 * y + 1) fuel (if b = true then 1 else 0) (v : Int) = some (if wlp (wst c X Y x y) v d b = true then 1 else 0) := by
  have c8 := hG.1.2
  intro d
  induction d with
  | zero =>
    intro v fuel b hf hv
    obtain ⟨fuel, rfl⟩ : ∃ z, fuel = z + 1 := ⟨fuel - 1, by omega⟩
    unfold ck_holdsCell_l19
    rw [h.1, jg_pos ⟨rgn (by omega), rgn (by omega)⟩, if_neg (by omega), jg_pos (b01_z b)]
    rfl
  | succ d ih =>
    intro v fuel b hf hv
    obtain ⟨fuel, rfl⟩ : ∃ z, fuel = z + 1 := ⟨fuel - 1, by omega⟩
    have hk : v < c := by omega
    have hnx : rnx c v < c := rnx_lt (by omega)
    have bk := hG.2 v hk
    have bn := hG.2 _ hnx
    have wb := wcr_b hG hx hy hk
    have nxt : ∀ b, ck_holdsCell_l19 g (2 * x + 1) (2 * y + 1) fuel (if b = true then 1 else 0) ((v : Int) + 1) = some (if wlp (wst c X Y x y) (v + 1) d b = true then 1 else 0) := fun b => ih (v + 1) fuel b (by omega) (by omega)
    have nx0 : ck_holdsCell_l19 g (2 * x + 1) (2 * y + 1) fuel 0 ((v : Int) + 1) = _ := nxt false
    have nx1 : ck_holdsCell_l19 g (2 * x + 1) (2 * y + 1) fuel 1 ((v : Int) + 1) = _ := nxt true
    unfold ck_holdsCell_l19
    rw [h.1, jg_pos ⟨rgn (by omega), rgn (by omega)⟩, if_pos (by omega), ckn_eq hG h hk, jb1_some, jg_pos (by omega), Int.toNat_natCast, (h.2 _ hnx).2, jg_pos ⟨⟨by omega, by omega⟩, by omega, by omega⟩, ite_some2, jb1_some, jg_pos (by omega), Int.toNat_natCast, (h.2 v hk).2, jg_pos ⟨⟨by omega, by omega⟩, by omega, by omega⟩, ite_some2, jb1_some, (h.2 v hk).1, (h.2 _ hnx).1]
    show _ = some (if (match wse (2 * x + 1) (2 * y + 1) (2 * X v) (2 * Y v) (2 * X (rnx c v)) (2 * Y (rnx c v)) (2 * wcr c X Y x y v) with
        | none => false
        | some s => wlp (wst c X Y x y) (v + 1) d (b ^^ s)) = true then 1 else 0)
    have hw : (X (rnx c v) - X v) * (2 * y + 1 - 2 * Y v) - (Y (rnx c v) - Y v) * (2 * x + 1 - 2 * X v) = wcr c X Y x y v := rfl
    have hbf : (b ^^ false) = b := by cases b <;> rfl
    rw [jl_eq, hw]
    have rr : ∀ (P Q : Prop) [Decidable P] [Decidable Q], rg (if P then (0 : Int) else 1) ∧ rg (if Q then (0 : Int) else 1) := fun P Q _ _ => ⟨by split <;> exact rgk rfl, by split <;> exact rgk rfl⟩
    rw [jg_pos (rr _ _), jg_pos (show rg (wcr c X Y x y v) from ⟨by omega, by omega⟩)]
    unfold wse
    by_cases a1 : 2 * Y v ≤ 2 * y + 1
    · rw [if_pos a1, show decide (2 * y + 1 < 2 * Y v) = false from decide_eq_false (by omega)]
      by_cases a2 : 2 * Y (rnx c v) ≤ 2 * y + 1
      · rw [if_pos a2, show decide (2 * y + 1 < 2 * Y (rnx c v)) = false from decide_eq_false (by omega), if_pos rfl, if_pos rfl, nxt b]
        cases b <;> rfl
      · rw [if_neg a2, show decide (2 * y + 1 < 2 * Y (rnx c v)) = true from decide_eq_true (by omega), if_neg (show ¬ (0 : Int) = 1 by decide), if_neg (show ¬ (false = true) by decide)]
        by_cases z : wcr c X Y x y v = 0
        · rw [if_pos z, if_pos (show 2 * wcr c X Y x y v = 0 by omega)]
          rfl
        · rw [if_neg z, if_neg (show ¬ 2 * wcr c X Y x y v = 0 by omega)]
          by_cases le : wcr c X Y x y v ≤ 0
          · rw [if_pos le, jb1_some, jg_pos (rgk rfl), if_neg (show ¬ (0 : Int) = 1 by decide), nxt b, show decide (0 < 2 * wcr c X Y x y v) = false from decide_eq_false (by omega)]
            cases b <;> rfl
          · rw [if_neg le, jb1_some, jg_pos (rgk rfl), if_pos (show (1 : Int) = 1 from rfl), nx0, nx1, show decide (0 < 2 * wcr c X Y x y v) = true from decide_eq_true (by omega)]
            cases b with
            | true => exact jg_pos (show rg (if true = true then (1 : Int) else 0) from rgk rfl)
            | false => exact jg_pos (show rg (if false = true then (1 : Int) else 0) from rgk rfl)
    · rw [if_neg a1, show decide (2 * y + 1 < 2 * Y v) = true from decide_eq_true (by omega)]
      by_cases a2 : 2 * Y (rnx c v) ≤ 2 * y + 1
      · rw [if_pos a2, show decide (2 * y + 1 < 2 * Y (rnx c v)) = false from decide_eq_false (by omega), if_neg (show ¬ (1 : Int) = 0 by decide), if_neg (show ¬ (true = false) by decide)]
        by_cases z : wcr c X Y x y v = 0
        · rw [if_pos z, if_pos (show 2 * wcr c X Y x y v = 0 by omega)]
          rfl
        · rw [if_neg z, if_neg (show ¬ 2 * wcr c X Y x y v = 0 by omega)]
          by_cases le : wcr c X Y x y v ≤ 0
          · rw [if_pos le, jb1_some, jg_pos (rgk rfl), if_pos (show (0 : Int) = 0 from rfl), nx0, nx1, show decide (0 < 2 * wcr c X Y x y v) = false from decide_eq_false (by omega)]
            cases b with
            | true => exact jg_pos (show rg (if true = true then (1 : Int) else 0) from rgk rfl)
            | false => exact jg_pos (show rg (if false = true then (1 : Int) else 0) from rgk rfl)
          · rw [if_neg le, jb1_some, jg_pos (rgk rfl), if_neg (show ¬ (1 : Int) = 0 by decide), nxt b, show decide (0 < 2 * wcr c X Y x y v) = true from decide_eq_true (by omega)]
            cases b <;> rfl
      · rw [if_neg a2, show decide (2 * y + 1 < 2 * Y (rnx c v)) = true from decide_eq_true (by omega), if_pos rfl, if_pos rfl, nxt b]
        cases b <;> rfl
theorem ck_holdsCell_eq {g : gm_T} {c : Nat} {X Y : Nat → Int} (hG : rG c X Y) (h : isC g c X Y) {x y : Int} (hx : -50 ≤ x ∧ x ≤ 50) (hy : -50 ≤ y ∧ y ≤ 50) : ck_holdsCell g x y = some (if winr c X Y x y = true then 1 else 0) := by
  unfold ck_holdsCell
  rw [jl_eq, jl_eq]
  exact ck_within_lp hG h hx hy c 0 fz false (Nat.lt_of_le_of_lt hG.1.2 (fz_gt rfl)) (Nat.zero_add c)
