/-! Arrangements: the reference's best so far. -/
/-- the reference's best of m bits -/
def isBr (g : gm_T) (m : Nat) (s : cnd) : Prop := gm_I g 44 73 = s.1 ∧ (0 ≤ s.1 → gQ g 1 = s.2.1 ∧ (m = 3 → gQ g 2 = s.2.2) ∧ gQ g 0 = p0) ∧ (m = 2 → s.2.2 = p0)
theorem pl_b {p : plc} (h : bpl 200 p) : (rg p.1 ∧ rg p.2.1) ∧ rg p.2.2 := ⟨⟨⟨by have := h.1; omega, by have := h.1; omega⟩, by have := h.2.1; omega, by have := h.2.1; omega⟩, by have := h.2.2; omega, by have := h.2.2; omega⟩
theorem ahead_row {g : gm_T} {m i : Nat} (hm : gm_I g 44 72 = (m : Int)) (hi : i < m) (m3 : m ≤ 3) (h1 : bpl 200 (gT g i)) (h2 : bpl 200 (gQ g i)) {f : Nat} : md_isAhead_l2 g (f + 1) (i : Int) = @ite _ (gT g i = gQ g i) (gd _) (md_isAhead_l2 g f ((i : Int) + 1)) (some (@ite _ (plt (gT g i) (gQ g i)) (gd _) 1 0)) := by
  obtain ⟨⟨a1, a2⟩, a3⟩ := pl_b h1
  obtain ⟨⟨b1, b2⟩, b3⟩ := pl_b h2
  have t1 : (gT g i).1 = gm_I g 91 i := rfl
  have t2 : (gT g i).2.1 = gm_I g 92 i := rfl
  have t3 : (gT g i).2.2 = gm_I g 93 i := rfl
  have q1 : (gQ g i).1 = gm_I g 94 i := rfl
  have q2 : (gQ g i).2.1 = gm_I g 95 i := rfl
  have q3 : (gQ g i).2.2 = gm_I g 96 i := rfl
  rw [t1] at a1
  rw [t2] at a2
  rw [t3] at a3
  rw [q1] at b1
  rw [q2] at b2
  rw [q3] at b3
  have hne : (gT g i).1 ≠ (gQ g i).1 ∨ (gT g i).2.1 ≠ (gQ g i).2.1 ∨ (gT g i).2.2 ≠ (gQ g i).2.2 → gT g i ≠ gQ g i := fun z y => by
    rw [y] at z
    omega
  have fin : ∀ (u v : Int), (u < v ↔ plt (gT g i) (gQ g i)) → (if u < v then some (1 : Int) else some 0) = some (@ite _ (plt (gT g i) (gQ g i)) (gd _) 1 0) := fun u v z => by
    by_cases c : u < v
    · rw [if_pos c, @if_pos _ (gd _) (z.mp c)]
    · rw [if_neg c, @if_neg _ (gd _) (fun y => c (z.mpr y))]
  conv => lhs; unfold md_isAhead_l2
  rw [hm, jg_pos ⟨rgn (by omega), rgn (by omega)⟩, if_pos (by omega), jg_pos (by omega), Int.toNat_natCast, jg_pos ⟨a1, b1⟩]
  by_cases c1 : gm_I g 91 i = gm_I g 94 i
  · rw [if_pos c1, jg_pos ⟨a2, b2⟩]
    by_cases c2 : gm_I g 92 i = gm_I g 95 i
    · rw [if_pos c2, jg_pos ⟨a3, b3⟩]
      by_cases c3 : gm_I g 93 i = gm_I g 96 i
      · rw [if_pos c3, @if_pos _ (gd _) (pl_ext c1 c2 c3)]
      · rw [if_neg c3, @if_neg _ (gd _) (hne (by omega))]
        exact fin _ _ (by
          unfold plt
          omega)
    · rw [if_neg c2, @if_neg _ (gd _) (hne (by omega))]
      exact fin _ _ (by
        unfold plt
        omega)
  · rw [if_neg c1, @if_neg _ (gd _) (hne (by omega))]
    exact fin _ _ (by
      unfold plt
      omega)
theorem ahead_end {g : gm_T} {m : Nat} (hm : gm_I g 44 72 = (m : Int)) (m3 : m ≤ 3) {f : Nat} : md_isAhead_l2 g (f + 1) (m : Int) = some 0 := by
  unfold md_isAhead_l2
  rw [hm, jg_pos ⟨rgn (by omega), rgn (by omega)⟩, if_neg (by omega)]
theorem md_ahead_eq {g : gm_T} {m : Nat} (hm : gm_I g 44 72 = (m : Int)) (h23 : m = 2 ∨ m = 3) {s : cnd} (h0 : 0 ≤ s.1) (h : isBr g m s) (hs : bS s) {v : Int} {p q : plc} (hp : bpl 200 p) (hq : bpl 200 q) (hv : v = s.1) (e1 : gT g 1 = p) (e2 : m = 3 → gT g 2 = q) (e3 : m = 2 → q = p0) : md_isAhead g = some (@ite _ (clt (v, p, q) s) (gd _) 1 0) := by
  obtain ⟨-, k1, k2⟩ := h
  obtain ⟨k3, k4, -⟩ := k1 h0
  obtain ⟨-, b1, b2⟩ := hs
  unfold md_isAhead
  have r1 := ahead_row (i := 1) hm (by omega) (by omega) (by rw [e1]; exact hp) (by rw [k3]; exact b1) (f := 99999)
  rw [e1, k3] at r1
  rw [show fz = 99999 + 1 from rfl, show md_isAhead_l2 g (99999 + 1) 1 = _ from r1]
  by_cases c1 : p = s.2.1
  · rw [@if_pos _ (gd _) c1]
    rcases h23 with rfl | rfl
    · rw [show md_isAhead_l2 g 99999 (((1 : Nat) : Int) + 1) = _ from ahead_end (m := 2) (f := 99998) hm (by decide), @if_neg _ (gd _) (fun z : clt (v, p, q) s => by
        rcases z with z | ⟨-, z | ⟨-, z⟩⟩
        · dsimp only at z
          omega
        · dsimp only at z
          rw [c1] at z
          exact plt_irr _ z
        · dsimp only at z
          rw [e3 rfl, k2 rfl] at z
          exact plt_irr _ z)]
    · have r2 := ahead_row (i := 2) hm (by omega) (by omega) (by rw [e2 rfl]; exact hq) (by rw [k4 rfl]; exact b2) (f := 99998)
      rw [e2 rfl, k4 rfl] at r2
      rw [show md_isAhead_l2 g 99999 (((1 : Nat) : Int) + 1) = _ from r2]
      by_cases c2 : q = s.2.2
      · rw [@if_pos _ (gd _) c2, show md_isAhead_l2 g 99998 (((2 : Nat) : Int) + 1) = _ from ahead_end (m := 3) (f := 99997) hm (by decide), @if_neg _ (gd _) (fun z : clt (v, p, q) s => by
          rcases z with z | ⟨-, z | ⟨-, z⟩⟩
          · dsimp only at z
            omega
          · dsimp only at z
            rw [c1] at z
            exact plt_irr _ z
          · dsimp only at z
            rw [c2] at z
            exact plt_irr _ z)]
      · rw [@if_neg _ (gd _) c2]
        by_cases c3 : plt q s.2.2
        · rw [@if_pos _ (gd _) c3, @if_pos _ (gd _) (show clt (v, p, q) s from Or.inr ⟨hv, Or.inr ⟨c1, c3⟩⟩)]
        · rw [@if_neg _ (gd _) c3, @if_neg _ (gd _) (fun z : clt (v, p, q) s => by
            rcases z with z | ⟨-, z | ⟨-, z⟩⟩
            · dsimp only at z
              omega
            · dsimp only at z
              rw [c1] at z
              exact plt_irr _ z
            · exact c3 z)]
  · rw [@if_neg _ (gd _) c1]
    by_cases c3 : plt p s.2.1
    · rw [@if_pos _ (gd _) c3, @if_pos _ (gd _) (show clt (v, p, q) s from Or.inr ⟨hv, Or.inl c3⟩)]
    · rw [@if_neg _ (gd _) c3, @if_neg _ (gd _) (fun z : clt (v, p, q) s => by
        rcases z with z | ⟨-, z | ⟨z, -⟩⟩
        · dsimp only at z
          omega
        · exact c3 z
        · exact c1 z)]
def W_q (a k : Nat) : Bool := a == 94 || a == 95 || a == 96
theorem md_store_lp {g : gm_T} {m : Nat} (hm : gm_I g 44 72 = (m : Int)) (m3 : m ≤ 3) : ∀ (d i fuel : Nat) (g1 : gm_T), i + d = m → d < fuel → exc W_q nob g g1 → (∀ j, j < i → gQ g1 j = gT g j) → ∃ g2, md_judgesSet_l97 fuel (i : Int) g1 = some g2 ∧ exc W_q nob g g2 ∧ ∀ j, j < m → gQ g2 j = gT g j := by
  intro d
  induction d with
  | zero =>
    intro i fuel g1 hd hf x h
    obtain ⟨f, rfl⟩ : ∃ f, fuel = f + 1 := ⟨fuel - 1, by omega⟩
    unfold md_judgesSet_l97
    rw [x.1 44 72 rfl, hm, jg_pos ⟨rgn (by omega), rgn (by omega)⟩, if_neg (by omega)]
    exact ⟨g1, rfl, x, fun j hj => h j (by omega)⟩
  | succ d ih =>
    intro i fuel g1 hd hf x h
    obtain ⟨f, rfl⟩ : ∃ f, fuel = f + 1 := ⟨fuel - 1, by omega⟩
    obtain ⟨g2, r1, r2, r3⟩ := ih (i + 1) f (gm_wI (gm_wI (gm_wI g1 94 i (gm_I g1 91 i)) 95 i (gm_I g1 92 i)) 96 i (gm_I g1 93 i)) (by omega) (by omega) (exc_wI (exc_wI (exc_wI x rfl) rfl) rfl) (fun j hj => by
      by_cases z : j = i
      · unfold gQ gT
        rw [z, gI_oth (show 94 ≠ 96 by decide), gI_oth (show 94 ≠ 95 by decide), gI_eq, gI_oth (show 95 ≠ 96 by decide), gI_eq, gI_eq, x.1 91 i rfl, x.1 92 i rfl, x.1 93 i rfl]
      · have hj := h j (by omega)
        rw [← hj]
        unfold gQ
        rw [gI_oth (show 94 ≠ 96 by decide), gI_oth (show 94 ≠ 95 by decide), gI_ne z, gI_oth (show 95 ≠ 96 by decide), gI_ne z, gI_oth (show 95 ≠ 94 by decide), gI_ne z, gI_oth (show 96 ≠ 95 by decide), gI_oth (show 96 ≠ 94 by decide)])
    unfold md_judgesSet_l97
    rw [x.1 44 72 rfl, hm, jg_pos ⟨rgn (by omega), rgn (by omega)⟩, if_pos (by omega), jg_pos (by omega), jl_eq, jl_eq, jl_eq, Int.toNat_natCast, gI_oth (show 92 ≠ 94 by decide), gI_oth (show 93 ≠ 95 by decide), gI_oth (show 93 ≠ 94 by decide)]
    exact ⟨g2, r1, r2, r3⟩
def W_jg (a k : Nat) : Bool := W_q a k || W_p a k || (a == 44 && k == 73)
theorem jg_p {g g2 : gm_T} (h : exc W_p nob g g2) : exc W_jg nob g g2 := exc_mono h (fun a k q => by unfold W_jg; rw [q, Bool.or_true]; rfl) (fun _ _ q => q)
theorem jg_q {g g2 : gm_T} (h : exc W_q nob g g2) : exc W_jg nob g g2 := exc_mono h (fun a k q => by unfold W_jg; rw [q]; rfl) (fun _ _ q => q)
theorem md_tail_eq {g : gm_T} {m : Nat} (hm : gm_I g 44 72 = (m : Int)) (h23 : m = 2 ∨ m = 3) {s : cnd} (h : isBr g m s) (hs : bS s) {v : Int} (hv : v ≤ 20000) {p q : plc} (hp : bpl 200 p) (hq : bpl 200 q) (e0 : gT g 0 = p0) (e1 : gT g 1 = p) (e2 : m = 3 → gT g 2 = q) (e3 : m = 2 → q = p0) : (v < 0 ∧ -10 ≤ v → (jg (rg v) (if v < 0 then (some g) else (jg (rg (gm_I g 44 73)) (if (gm_I g 44 73) = (-1) then (jl (gm_wI g 44 73 v) fun (g20 : gm_T) => jb1 (md_judgesSet_l97 fz 0 g20) fun (g36 : gm_T) => some g36) else (if v ≤ (gm_I g 44 73) then (if v = (gm_I g 44 73) then (jb1 (md_isAhead g) fun (v37 : Int) => jg (rg v37) (if v37 = 0 then (some g) else (jl (gm_wI g 44 73 v) fun (g39 : gm_T) => jb1 (md_judgesSet_l97 fz 0 g39) fun (g49 : gm_T) => some g49))) else (some g)) else (jl (gm_wI g 44 73 v) fun (g50 : gm_T) => jb1 (md_judgesSet_l97 fz 0 g50) fun (g60 : gm_T) => some g60)))))) = some g) ∧ (0 ≤ v → ∃ g2, (jg (rg v) (if v < 0 then (some g) else (jg (rg (gm_I g 44 73)) (if (gm_I g 44 73) = (-1) then (jl (gm_wI g 44 73 v) fun (g20 : gm_T) => jb1 (md_judgesSet_l97 fz 0 g20) fun (g36 : gm_T) => some g36) else (if v ≤ (gm_I g 44 73) then (if v = (gm_I g 44 73) then (jb1 (md_isAhead g) fun (v37 : Int) => jg (rg v37) (if v37 = 0 then (some g) else (jl (gm_wI g 44 73 v) fun (g39 : gm_T) => jb1 (md_judgesSet_l97 fz 0 g39) fun (g49 : gm_T) => some g49))) else (some g)) else (jl (gm_wI g 44 73 v) fun (g50 : gm_T) => jb1 (md_judgesSet_l97 fz 0 g50) fun (g60 : gm_T) => some g60)))))) = some g2 ∧ exc W_jg nob g g2 ∧ isBr g2 m (updc (v, p, q) s)) := by
  obtain ⟨k0, k1, k2⟩ := id h
  have hb1 := hs.1
  refine ⟨fun hn => by rw [jg_pos ⟨by omega, by omega⟩, if_pos hn.1], fun h0 => ?_⟩
  have st : clt (v, p, q) s → ∃ g2, (jb1 (md_judgesSet_l97 fz 0 (gm_wI g 44 73 v)) fun (g36 : gm_T) => some g36) = some g2 ∧ exc W_jg nob g g2 ∧ isBr g2 m (updc (v, p, q) s) := fun hc => by
    have x0 : exc W_jg nob g (gm_wI g 44 73 v) := exc_wI exc_rf rfl
    obtain ⟨g2, r1, r2, r3⟩ := md_store_lp (g := gm_wI g 44 73 v) (m := m) (by rw [gI_ne (by decide)]; exact hm) (by omega) m 0 fz (gm_wI g 44 73 v) (by omega) (Nat.lt_of_le_of_lt (show m ≤ 300 by omega) (fz_gt rfl)) exc_rf (fun j hj => by omega)
    have gTw : ∀ j, gT (gm_wI g 44 73 v) j = gT g j := fun j => by
      unfold gT
      rw [gI_oth (by decide), gI_oth (by decide), gI_oth (by decide)]
    refine ⟨g2, ?_, exc_tr x0 (jg_q r2), ?_⟩
    · rw [show md_judgesSet_l97 fz 0 (gm_wI g 44 73 v) = _ from r1, jb1_some]
    · unfold updc
      rw [@if_pos _ (gd _) hc]
      refine ⟨by rw [r2.1 44 73 rfl, gI_eq], fun _ => ⟨by rw [r3 1 (by omega), gTw]; exact e1, fun z => by rw [r3 2 (by omega), gTw]; exact e2 z, by rw [r3 0 (by omega), gTw]; exact e0⟩, fun z => e3 z⟩
  have kp : ¬ clt (v, p, q) s → ∃ g2, some g = some g2 ∧ exc W_jg nob g g2 ∧ isBr g2 m (updc (v, p, q) s) := fun hc => by
    refine ⟨g, rfl, exc_rf, ?_⟩
    unfold updc
    rw [@if_neg _ (gd _) hc]
    exact h
  rw [jg_pos ⟨by omega, by omega⟩, if_neg (by omega), k0, jg_pos ⟨by omega, by omega⟩]
  by_cases c1 : s.1 = -1
  · rw [if_pos c1, jl_eq]
    exact st (Or.inl (by dsimp only; omega))
  · rw [if_neg c1]
    by_cases c2 : v ≤ s.1
    · rw [if_pos c2]
      by_cases c3 : v = s.1
      · rw [if_pos c3, md_ahead_eq hm h23 (by omega) h hs hp hq c3 e1 e2 e3, jb_gd]
        by_cases c4 : clt (v, p, q) s
        · rw [@if_pos _ (gd _) c4, jl_eq]
          exact st c4
        · rw [@if_neg _ (gd _) c4]
          exact kp c4
      · rw [if_neg c3]
        exact kp (fun z => by
          rcases z with z | ⟨z, -⟩
          · dsimp only at z
            omega
          · exact c3 z)
    · rw [if_neg c2, jl_eq]
      exact st (Or.inl (by dsimp only; omega))
