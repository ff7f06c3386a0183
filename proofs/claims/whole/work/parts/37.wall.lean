/-! Placings on the wall: what belongs together; the reference's held placing, its groups. -/
def hw (g : gm_T) (b : Nat) : Bool := decide (gm_I g 70 b ≠ 0)
def hp (g : gm_T) (b : Nat) : Bool := decide (gm_I g 71 b ≠ 0)
def Kb (g : gm_T) : Int := 3000 + 2400 * (jm g : Int)
def jpl (g : gm_T) (j : Nat) : plc := fpl g (jA g j) (jK g j) (jB g j) (jL g j)
/-- the placings P of the bits, in the class's cells, and what the reference has of them -/
def isW (n : Nat) (g : gm_T) (P : Nat → plc) : Prop := (∀ b, b < 30 → gm_J g 23 b = pp (P b)) ∧ (∀ b, n ≤ b → P b = p0) ∧ (∀ b, bpl (Kb g) (P b)) ∧ (∀ j, j < jm g → jE g j = true → P (jB g j) = pon (P (jA g j)) (jpl g j)) ∧ (∃ w u : Nat, gm_I g 22 3 = (w : Int) ∧ gm_I g 22 4 = (u : Int) ∧ w < 2 ^ 30 ∧ u < 2 ^ 30 ∧ ∀ b, w.testBit b = (decide (b < n) && hw g b) ∧ u.testBit b = (decide (b < n) && hp g b)) ∧ ∀ b, b < n → (gm_I g 70 b = 0 ∨ gm_I g 70 b = 1) ∧ (gm_I g 71 b = 0 ∨ gm_I g 71 b = 1) ∧ ((hw g b = true ∨ hp g b = true) → gm_I g 72 b = (P b).1 ∧ gm_I g 73 b = (P b).2.1 ∧ gm_I g 74 b = (P b).2.2)
def V_wall (n : Nat) (g : gm_T) : Prop := ∃ P, isW n g P
theorem isW_k (n : Nat) (g : gm_T) (P : Nat → plc) : isW n (keepA g) P ↔ isW n g P := Iff.rfl
theorem isW_tr {n : Nat} {g g2 : gm_T} {P : Nat → plc} (e : keepA g2 = keepA g) (h : isW n g P) : isW n g2 P := (isW_k n g2 P).mp (e ▸ (isW_k n g P).mpr h)
/-- the reference's part of it, told in the same order -/
def isWm (n : Nat) (g : gm_T) (P : Nat → plc) : Prop := True ∧ (∀ b, n ≤ b → P b = p0) ∧ (∀ b, bpl (Kb g) (P b)) ∧ (∀ j, j < jm g → jE g j = true → P (jB g j) = pon (P (jA g j)) (jpl g j)) ∧ True ∧ ∀ b, b < n → (gm_I g 70 b = 0 ∨ gm_I g 70 b = 1) ∧ (gm_I g 71 b = 0 ∨ gm_I g 71 b = 1) ∧ ((hw g b = true ∨ hp g b = true) → gm_I g 72 b = (P b).1 ∧ gm_I g 73 b = (P b).2.1 ∧ gm_I g 74 b = (P b).2.2)
theorem wm {n : Nat} {g : gm_T} {P : Nat → plc} (h : isW n g P) : isWm n g P := ⟨trivial, h.2.1, h.2.2.1, h.2.2.2.1, trivial, h.2.2.2.2.2⟩
theorem isWm_tr {n : Nat} {g g2 : gm_T} {P : Nat → plc} (e : keepC g2 = keepC g) (h : isWm n g P) : isWm n g2 P := by
  have h1 : isWm n (keepC g) P := h
  rw [← e] at h1
  exact h1
theorem c_jA {g g2 : gm_T} (e : keepC g2 = keepC g) : jA g2 = jA g := by
  show jA (keepC g2) = jA (keepC g)
  rw [e]
theorem c_jB {g g2 : gm_T} (e : keepC g2 = keepC g) : jB g2 = jB g := by
  show jB (keepC g2) = jB (keepC g)
  rw [e]
theorem c_jK {g g2 : gm_T} (e : keepC g2 = keepC g) : jK g2 = jK g := by
  show jK (keepC g2) = jK (keepC g)
  rw [e]
theorem c_jL {g g2 : gm_T} (e : keepC g2 = keepC g) : jL g2 = jL g := by
  show jL (keepC g2) = jL (keepC g)
  rw [e]
theorem c_jE {g g2 : gm_T} (e : keepC g2 = keepC g) : jE g2 = jE g := by
  show jE (keepC g2) = jE (keepC g)
  rw [e]
theorem c_jm {g g2 : gm_T} (e : keepC g2 = keepC g) : jm g2 = jm g := by
  show jm (keepC g2) = jm (keepC g)
  rw [e]
theorem c_cn {g g2 : gm_T} (e : keepC g2 = keepC g) : cn g2 = cn g := by
  show cn (keepC g2) = cn (keepC g)
  rw [e]
theorem c_jpl {g g2 : gm_T} (e : keepC g2 = keepC g) : jpl g2 = jpl g := by
  show jpl (keepC g2) = jpl (keepC g)
  rw [e]
theorem V_jn_tr {n : Nat} {g g2 : gm_T} (e : keepA g2 = keepA g) (h : V_jn n g) : V_jn n g2 := (V_jn_k n g2).mp (e ▸ (V_jn_k n g).mpr h)
theorem V_grp_tr {n : Nat} {g g2 : gm_T} (e : keepA g2 = keepA g) (h : V_grp n g) : V_grp n g2 := (V_grp_k n g2).mp (e ▸ (V_grp_k n g).mpr h)
theorem a_jA {g g2 : gm_T} (e : keepA g2 = keepA g) : jA g2 = jA g := by
  show jA (keepA g2) = jA (keepA g)
  rw [e]
theorem a_jB {g g2 : gm_T} (e : keepA g2 = keepA g) : jB g2 = jB g := by
  show jB (keepA g2) = jB (keepA g)
  rw [e]
theorem a_jK {g g2 : gm_T} (e : keepA g2 = keepA g) : jK g2 = jK g := by
  show jK (keepA g2) = jK (keepA g)
  rw [e]
theorem a_jL {g g2 : gm_T} (e : keepA g2 = keepA g) : jL g2 = jL g := by
  show jL (keepA g2) = jL (keepA g)
  rw [e]
theorem a_jE {g g2 : gm_T} (e : keepA g2 = keepA g) : jE g2 = jE g := by
  show jE (keepA g2) = jE (keepA g)
  rw [e]
theorem a_jm {g g2 : gm_T} (e : keepA g2 = keepA g) : jm g2 = jm g := by
  show jm (keepA g2) = jm (keepA g)
  rw [e]
theorem a_cn {g g2 : gm_T} (e : keepA g2 = keepA g) : cn g2 = cn g := by
  show cn (keepA g2) = cn (keepA g)
  rw [e]
theorem a_jpl {g g2 : gm_T} (e : keepA g2 = keepA g) : jpl g2 = jpl g := by
  show jpl (keepA g2) = jpl (keepA g)
  rw [e]
theorem bpl_okt {M : Int} {p : plc} (h : bpl M p) : okt p := h.1
theorem bpl_mono {M N : Int} {p : plc} (h : bpl M p) (hMN : M ≤ N) : bpl N p := ⟨h.1, ⟨by have := h.2.1; omega, by have := h.2.1; omega⟩, by have := h.2.2; omega, by have := h.2.2; omega⟩
/-- one placing seen from another -/
def rel (p q : plc) : plc := pon (pin p) q
theorem rel_okt {p q : plc} (hp : okt p) (hq : okt q) : okt (rel p q) := pon_okt (pin_okt hp) hq
theorem rel_self {p : plc} (hp : okt p) : rel p p = p0 := pin_on hp
theorem pon_rel {p q : plc} (hp : okt p) (hq : okt q) : pon p (rel p q) = q := by
  unfold rel
  rw [← pon_assoc hp (pin_okt hp), pon_in hp, p0_on hq]
theorem rel_on {p q r : plc} (hp : okt p) (hq : okt q) (hr : okt r) : pon (rel p q) r = rel p (pon q r) := by
  unfold rel
  rw [pon_assoc (pin_okt hp) hq]
theorem rel_rel {p q r : plc} (hp : okt p) (hq : okt q) (hr : okt r) : pon (rel p q) (rel q r) = rel p r := by
  rw [rel_on hp hq (rel_okt hq hr), pon_rel hq hr]
theorem pin_rel {p q : plc} (hp : okt p) (hq : okt q) : pin (rel p q) = rel q p := by
  unfold rel
  rw [pin_pon (pin_okt hp) hq, pin_pin hp]
theorem jn_jpl {n : Nat} {g : gm_T} (I : I_fit n g) (V : V_jm n g) {j : Nat} (hj : j < jm g) : bpl 40 (jpl g j) := by
  obtain ⟨⟨-, -, a3⟩, ⟨-, -, k3⟩, ⟨-, -, b3⟩, ⟨-, -, l3⟩, -, -, ht⟩ := V.2.1 j hj
  exact fpl_b I.2.1 a3 b3 k3 l3 ht
theorem rel_gR {n : Nat} {g : gm_T} (I : I_fit n g) (V : V_jm n g) {P : Nat → plc} (hP : isWm n g P) {a : Nat} : ∀ (d b : Nat), gR (jA g) (jB g) (jE g) (jm g) a d b → bpl (40 * (d : Int)) (rel (P a) (P b))
  | 0, b, h => by
    have hb : b = a := h
    rw [hb, rel_self (hP.2.2.1 a).1]
    exact ⟨⟨by decide, by decide⟩, ⟨by decide, by decide⟩, by decide, by decide⟩
  | d + 1, b, h => by
    have ok : ∀ c, okt (P c) := fun c => (hP.2.2.1 c).1
    rcases h with h | ⟨j, hj, hE, ⟨h, rfl⟩ | ⟨h, rfl⟩⟩
    · exact bpl_mono (rel_gR I V hP d b h) (by omega)
    · have h1 := rel_gR I V hP d _ h
      have h2 := jn_jpl I V hj
      have h3 := bpl_on h1 h2
      rw [rel_on (ok _) (ok _) h2.1, ← hP.2.2.2.1 j hj hE] at h3
      exact bpl_mono h3 (by omega)
    · have h1 := rel_gR I V hP d _ h
      have h2 := jn_jpl I V hj
      have h3 := bpl_on h1 (bpl_in h2)
      rw [rel_on (ok _) (ok _) (pin_okt h2.1), hP.2.2.2.1 j hj hE, pon_assoc (ok _) h2.1, pon_in h2.1, pon_0 (ok _)] at h3
      exact bpl_mono h3 (by omega)
theorem rel_b {n : Nat} {g : gm_T} (I : I_fit n g) (V : V_jm n g) {P : Nat → plc} (hP : isWm n g P) {a b : Nat} (ha : a < n) (h : cn g a b) : bpl 1160 (rel (P a) (P b)) := by
  have h30 := I.1.2.2
  exact bpl_mono (rel_gR I V hP (n - 1) b (gR_all (jendm V).1 ha h)) (by omega)
-- the held placing
def pH (g : gm_T) : plc := (gm_I g 44 49, gm_I g 44 50, gm_I g 44 51)
def W_p (a k : Nat) : Bool := a == 44 && (k == 49 || k == 50 || k == 51)
theorem scr_p {g g2 : gm_T} (h : exc W_p nob g g2) : exc scr scrJ g g2 := exc_mono h (fun a k q => by
  simp only [W_p, Bool.or_eq_true, Bool.and_eq_true, beq_iff_eq] at q
  rcases q with ⟨rfl, (rfl | rfl) | rfl⟩ <;> rfl) (fun _ _ q => by cases q)
theorem md_holds_eq (g : gm_T) (x y z : Int) : ∃ g2, md_holds g x y z = some g2 ∧ pH g2 = (x, y, z) ∧ exc W_p nob g g2 := ⟨_, rfl, rfl, exc_wI (exc_wI (exc_wI exc_rf rfl) rfl) rfl⟩
theorem md_then_eq {g : gm_T} {M N : Int} (hM : bpl M (pH g)) {x y z : Int} (hN : bpl N (x, y, z)) (hMN : M + N ≤ 1000000) : ∃ g2, md_then g x y z = some g2 ∧ pH g2 = pon (pH g) (x, y, z) ∧ exc W_p nob g g2 := by
  obtain ⟨⟨m1, m2⟩, ⟨m3, m4⟩, m5, m6⟩ := hM
  obtain ⟨⟨n1, n2⟩, ⟨n3, n4⟩, n5, n6⟩ := hN
  unfold pH at m1 m2 m3 m4 m5 m6
  dsimp only at m1 m2 m3 m4 m5 m6 n1 n2 n3 n4 n5 n6
  unfold md_then
  rw [md_turnedX_eq ⟨m1, m2⟩ ⟨by omega, by omega⟩ ⟨by omega, by omega⟩, jb1_some, jl_eq, md_turnedY_eq ⟨m1, m2⟩ ⟨by omega, by omega⟩ ⟨by omega, by omega⟩, jb1_some, jl_eq, jg_pos (by omega)]
  obtain ⟨g2, e1, e2, e3⟩ := md_holds_eq g ((gm_I g 44 49 + x) % 4) (gm_I g 44 50 + tX (gm_I g 44 49) y z) (gm_I g 44 51 + tY (gm_I g 44 49) y z)
  rw [e1, jb1_some]
  refine ⟨g2, rfl, ?_, e3⟩
  rw [e2]
  unfold pon pH
  dsimp only
  rw [Int.add_comm (gm_I g 44 50), Int.add_comm (gm_I g 44 51)]
theorem md_thenBack_eq {g : gm_T} {M N : Int} (hM : bpl M (pH g)) {x y z : Int} (hN : bpl N (x, y, z)) (hMN : M + N ≤ 1000000) (h0 : 0 ≤ M) : ∃ g2, md_thenBack g x y z = some g2 ∧ pH g2 = pon (pH g) (pin (x, y, z)) ∧ exc W_p nob g g2 := by
  have hb := bpl_in hN
  obtain ⟨⟨n1, n2⟩, ⟨n3, n4⟩, n5, n6⟩ := hN
  dsimp only at n1 n2 n3 n4 n5 n6
  have hs : 0 ≤ (4 - x) % 4 ∧ (4 - x) % 4 ≤ 3 := by omega
  unfold md_thenBack
  rw [jg_pos (by omega), jl_eq, md_turnedX_eq hs ⟨by omega, by omega⟩ ⟨by omega, by omega⟩, jb1_some, md_turnedY_eq hs ⟨by omega, by omega⟩ ⟨by omega, by omega⟩, jb1_some]
  have hp : pin (x, y, z) = ((4 - x) % 4, -tX ((4 - x) % 4) y z, -tY ((4 - x) % 4) y z) := by
    unfold pin
    dsimp only
    rw [(t_neg ((4 - x) % 4) y z).1, (t_neg ((4 - x) % 4) y z).2]
  rw [hp] at hb
  obtain ⟨g2, e1, e2, e3⟩ := md_then_eq hM hb hMN
  rw [e1, jb1_some, hp]
  exact ⟨g2, rfl, e2, e3⟩
/-- a join as the reference has it, also the one that is tried -/
def jok (n : Nat) (g : gm_T) (j : Nat) : Prop := (gm_I g 65 j = ((jA g j : Nat) : Int) ∧ jA g j < n) ∧ (gm_I g 66 j = ((jK g j : Nat) : Int) ∧ ((jK g j : Nat) : Int) < mE g (jA g j)) ∧ (gm_I g 67 j = ((jB g j : Nat) : Int) ∧ jB g j < n) ∧ (gm_I g 68 j = ((jL g j : Nat) : Int) ∧ ((jL g j : Nat) : Int) < mE g (jB g j)) ∧ jA g j ≠ jB g j ∧ tn g (jA g j) (jK g j) (jB g j) (jL g j) ≠ -1
theorem jok_of {n : Nat} {g : gm_T} (V : V_jm n g) {j : Nat} (hj : j < jm g) : jok n g j := by
  obtain ⟨⟨-, a2, a3⟩, ⟨-, k2, k3⟩, ⟨-, b2, b3⟩, ⟨-, l2, l3⟩, -, h1, h2⟩ := V.2.1 j hj
  exact ⟨⟨a2, a3⟩, ⟨k2, k3⟩, ⟨b2, b3⟩, ⟨l2, l3⟩, h1, h2⟩
theorem jok_tr {n : Nat} {g g2 : gm_T} (e : keepA g2 = keepA g) {j : Nat} (h : jok n g j) : jok n g2 j := by
  have h1 : jok n (keepA g) j := h
  rw [← e] at h1
  exact h1
theorem jok_trm {n : Nat} {g g2 : gm_T} (e : keepC g2 = keepC g) {j : Nat} (h : jok n g j) : jok n g2 j := by
  have h1 : jok n (keepC g) j := h
  rw [← e] at h1
  exact h1
theorem jok_b {n : Nat} {g : gm_T} (I : I_fit n g) {j : Nat} (h : jok n g j) : bpl 40 (jpl g j) := by
  obtain ⟨⟨-, a3⟩, ⟨-, k3⟩, ⟨-, b3⟩, ⟨-, l3⟩, -, h2⟩ := h
  exact fpl_b I.2.1 a3 b3 k3 l3 h2
theorem md_thenJoin_eq {n : Nat} {g : gm_T} (I : I_fit n g) {j : Nat} (hj : j < 60) (h : jok n g j) {M : Int} (hM : bpl M (pH g)) (hMN : M ≤ 900000) (h0 : 0 ≤ M) : (∃ g2, md_thenJoin g (j : Int) = some g2 ∧ pH g2 = pon (pH g) (jpl g j) ∧ exc W_p nob g g2) ∧ ∃ g2, md_thenJoinBack g (j : Int) = some g2 ∧ pH g2 = pon (pH g) (pin (jpl g j)) ∧ exc W_p nob g g2 := by
  have hb := jok_b I h
  have h30 := I.1.2.2
  obtain ⟨⟨a2, a3⟩, ⟨k2, k3⟩, ⟨b2, b3⟩, ⟨l2, l3⟩, h1, h2⟩ := h
  obtain ⟨x1, y1⟩ := md_fitX_eq I a3 b3 h1 k3 l3 h2
  have e1 := (I.2.2.2.2.2.1 _ _ _ _ a3 b3 h1 k3 l3).1
  have a8 := (I.2.1 _ a3).1.2.2
  have b8 := (I.2.1 _ b3).1.2.2
  have hEa : mE g (jA g j) = gm_I g 46 (jA g j) := rfl
  have hEb : mE g (jB g j) = gm_I g 46 (jB g j) := rfl
  have hat : (240 * (8 * ((jA g j : Nat) : Int) + ((jK g j : Nat) : Int)) + 8 * ((jB g j : Nat) : Int) + ((jL g j : Nat) : Int)).toNat = at4 (jA g j) (jK g j) (jB g j) (jL g j) := by unfold at4; omega
  have hpl : jpl g j = (tn g (jA g j) (jK g j) (jB g j) (jL g j), fX g (jA g j) (jK g j) (jB g j) (jL g j), fY g (jA g j) (jK g j) (jB g j) (jL g j)) := rfl
  rw [hpl] at hb ⊢
  unfold md_thenJoin md_thenJoinBack md_entry
  rw [jg_pos (by omega), jg_pos (by omega), Int.toNat_natCast, a2, k2, b2, l2, jb1_some, jb1_some, jg_pos (by omega), jg_pos (by omega), x1, y1, hat, e1]
  simp only [jb1_some]
  refine ⟨?_, ?_⟩
  · obtain ⟨g2, f1, f2, f3⟩ := md_then_eq hM hb (by omega)
    rw [f1, jb1_some]
    exact ⟨g2, rfl, f2, f3⟩
  · obtain ⟨g2, f1, f2, f3⟩ := md_thenBack_eq hM hb (by omega) h0
    rw [f1, jb1_some]
    exact ⟨g2, rfl, f2, f3⟩
theorem md_isHeld_eq {g : gm_T} {M N : Int} (hM : bpl M (pH g)) {x y z : Int} (hN : bpl N (x, y, z)) (h1 : M ≤ 2000000000) (h2 : N ≤ 2000000000) : md_isHeld g x y z = some (if pH g = (x, y, z) then 1 else 0) := by
  obtain ⟨⟨m1, m2⟩, ⟨m3, m4⟩, m5, m6⟩ := hM
  obtain ⟨⟨n1, n2⟩, ⟨n3, n4⟩, n5, n6⟩ := hN
  unfold pH at m1 m2 m3 m4 m5 m6
  dsimp only at m1 m2 m3 m4 m5 m6 n1 n2 n3 n4 n5 n6
  unfold md_isHeld pH
  rw [jg_pos ⟨⟨by omega, by omega⟩, by omega, by omega⟩]
  by_cases c1 : gm_I g 44 49 = x
  · rw [if_pos c1, jg_pos ⟨⟨by omega, by omega⟩, by omega, by omega⟩]
    by_cases c2 : gm_I g 44 50 = y
    · rw [if_pos c2, jg_pos ⟨⟨by omega, by omega⟩, by omega, by omega⟩]
      by_cases c3 : gm_I g 44 51 = z
      · rw [if_pos c3, if_pos (by rw [c1, c2, c3])]
      · rw [if_neg c3, if_neg (fun q => c3 (congrArg (fun p : plc => p.2.2) q))]
    · rw [if_neg c2, if_neg (fun q => c2 (congrArg (fun p : plc => p.2.1) q))]
  · rw [if_neg c1, if_neg (fun q => c1 (congrArg (fun p : plc => p.1) q))]
-- the reference's groups
noncomputable def rt (g : gm_T) (b : Nat) : Nat := lst fun c => cn g b c
theorem rt_sp (g : gm_T) (b : Nat) : cn g b (rt g b) ∧ ∀ c, cn g b c → rt g b ≤ c := by
  obtain ⟨h1, h2⟩ := lst_sp (P := fun c => cn g b c) ⟨b, gC_rf b⟩
  refine ⟨h1, fun c hc => ?_⟩
  rcases Nat.lt_or_ge c (rt g b) with q | q
  · exact absurd hc (h2 c q)
  · exact q
theorem rt_le (g : gm_T) (b : Nat) : rt g b ≤ b := (rt_sp g b).2 b (gC_rf b)
theorem rt_cn {g : gm_T} {b c : Nat} (h : cn g b c) : rt g b = rt g c := by
  have h1 := (rt_sp g b).2 (rt g c) (gC_tr h (rt_sp g c).1)
  have h2 := (rt_sp g c).2 (rt g b) (gC_tr (gC_sy h) (rt_sp g b).1)
  omega
theorem rt_iff {g : gm_T} {b c : Nat} : rt g b = rt g c ↔ cn g b c := ⟨fun h => gC_tr (rt_sp g b).1 (h ▸ gC_sy (rt_sp g c).1), rt_cn⟩
theorem rt_rt (g : gm_T) (b : Nat) : rt g (rt g b) = rt g b := (rt_cn (rt_sp g b).1).symm
theorem c_rt {g g2 : gm_T} (e : keepC g2 = keepC g) : rt g2 = rt g := by
  unfold rt
  rw [c_cn e]
theorem a_rt {g g2 : gm_T} (e : keepA g2 = keepA g) : rt g2 = rt g := by
  unfold rt
  rw [a_cn e]
def gG (g : gm_T) (b : Nat) : plc := (gm_I g 79 b, gm_I g 80 b, gm_I g 81 b)
def W_gr (a k : Nat) : Bool := a == 78 || a == 79 || a == 80 || a == 81 || (a == 44 && (k == 49 || k == 50 || k == 51))
theorem scr_gr {g g2 : gm_T} (h : exc W_gr nob g g2) : exc scr scrJ g g2 := exc_mono h (fun a k q => by
  simp only [W_gr, Bool.or_eq_true, Bool.and_eq_true, beq_iff_eq] at q
  rcases q with (((rfl | rfl) | rfl) | rfl) | ⟨rfl, (rfl | rfl) | rfl⟩ <;> rfl) (fun _ _ q => by cases q)
theorem gr_p {g g2 : gm_T} (h : exc W_p nob g g2) : exc W_gr nob g g2 := exc_mono h (fun a k q => by
  simp only [W_p, W_gr, Bool.or_eq_true, Bool.and_eq_true, beq_iff_eq] at q ⊢
  omega) (fun _ _ q => q)
/-- while the group of r is gathered -/
def GS (n : Nat) (g : gm_T) (P : Nat → plc) (r : Nat) (h : gm_T) : Prop := ∀ b, b < n → (rt g b < r → gm_I h 78 b = (rt g b : Int) ∧ gG h b = rel (P (rt g b)) (P b)) ∧ (r < rt g b → gm_I h 78 b = -1) ∧ (rt g b = r → (gm_I h 78 b = (r : Int) ∧ gG h b = rel (P r) (P b)) ∨ gm_I h 78 b = -1)
theorem GS_in {n : Nat} {g : gm_T} {P : Nat → plc} {r : Nat} {h : gm_T} (H : GS n g P r h) {b : Nat} (hb : b < n) : -1 ≤ gm_I h 78 b ∧ gm_I h 78 b < (n : Int) ∧ (gm_I h 78 b = (r : Int) → rt g b = r ∧ gG h b = rel (P r) (P b)) := by
  obtain ⟨h1, h2, h3⟩ := H b hb
  have hr := rt_le g b
  rcases Nat.lt_trichotomy (rt g b) r with q | q | q
  · have := (h1 q).1
    exact ⟨by omega, by omega, fun z => by omega⟩
  · rcases h3 q with h4 | h4
    · have := h4.1
      exact ⟨by omega, by omega, fun z => ⟨q, h4.2⟩⟩
    · exact ⟨by omega, by omega, fun z => by omega⟩
  · have := h2 q
    exact ⟨by omega, by omega, fun z => by omega⟩
theorem md_reaches_eq {n : Nat} {g : gm_T} (I : I_fit n g) (V : V_jm n g) {P : Nat → plc} (hP : isWm n g P) {r : Nat} (hr : r < n) {h : gm_T} (he : exc W_gr nob g h) (H : GS n g P r h) {j : Nat} (hj : j < jm g) : (md_reaches h (j : Int) (r : Int) = some (0, h) ∧ (jE g j = true → (gm_I h 78 (jA g j) = (r : Int) ↔ gm_I h 78 (jB g j) = (r : Int)))) ∨ ∃ h2, md_reaches h (j : Int) (r : Int) = some (1, h2) ∧ exc W_gr nob g h2 ∧ GS n g P r h2 ∧ (∀ b, b < n → gm_I h 78 b = (r : Int) → gm_I h2 78 b = (r : Int)) ∧ ∃ b, b < n ∧ gm_I h2 78 b = (r : Int) ∧ gm_I h 78 b ≠ (r : Int) := by
  have h30 := I.1.2.2
  have m60 := (jm_60m V).1
  have ok : ∀ c, okt (P c) := fun c => (hP.2.2.1 c).1
  have hjok := jok_of V hj
  obtain ⟨⟨-, a2, a3⟩, -, ⟨-, b2, b3⟩, -, h01, hne, -⟩ := V.2.1 j hj
  have q65 : gm_I h 65 j = ((jA g j : Nat) : Int) := by rw [he.1 65 j rfl, a2]
  have q67 : gm_I h 67 j = ((jB g j : Nat) : Int) := by rw [he.1 67 j rfl, b2]
  have q69 : gm_I h 69 j = gm_I g 69 j := he.1 69 j rfl
  have eh := keepC_scr (scr_gr he)
  obtain ⟨rA1, rA2, rA3⟩ := GS_in H a3
  obtain ⟨rB1, rB2, rB3⟩ := GS_in H b3
  have key : ∀ (c e : Nat), c < n → e < n → c ≠ e → gm_I h 78 c = (r : Int) → gm_I h 78 e ≠ (r : Int) → cn g c e → ∀ h1 : gm_T, exc W_p nob h h1 → pH h1 = rel (P r) (P e) → ∃ h2, md_sets h1 (e : Int) (r : Int) = some h2 ∧ exc W_gr nob g h2 ∧ GS n g P r h2 ∧ (∀ b, b < n → gm_I h 78 b = (r : Int) → gm_I h2 78 b = (r : Int)) ∧ ∃ b, b < n ∧ gm_I h2 78 b = (r : Int) ∧ gm_I h 78 b ≠ (r : Int) := by
    intro c e hc hen hce hrc hre hcn h1 hx hpH
    have hrtc := ((GS_in H hc).2.2 hrc).1
    have hrte : rt g e = r := by rw [← rt_cn hcn]; exact hrtc
    unfold md_sets
    rw [jg_pos (by omega)]
    simp only [jl_eq, Int.toNat_natCast]
    generalize hG : gm_wI (gm_wI (gm_wI (gm_wI h1 78 e (r : Int)) 79 e _) 80 e _) 81 e _ = h2
    have g78 : ∀ b, gm_I h2 78 b = if b = e then (r : Int) else gm_I h 78 b := by
      intro b
      rw [← hG, gI_oth (by decide), gI_oth (by decide), gI_oth (by decide)]
      by_cases hb : b = e
      · rw [if_pos hb, hb, gI_eq]
      · rw [if_neg hb, gI_ne hb, hx.1 78 b rfl]
    have gGe : gG h2 e = rel (P r) (P e) := by
      rw [← hpH, ← hG]
      unfold gG
      refine pl_ext ?_ ?_ ?_
      · dsimp only
        rw [gI_oth (by decide), gI_oth (by decide), gI_eq]
        rfl
      · dsimp only
        rw [gI_oth (by decide), gI_eq]
        rfl
      · dsimp only
        rw [gI_eq]
        rfl
    have gGo : ∀ b, b ≠ e → gG h2 b = gG h b := by
      intro b hb
      rw [← hG]
      unfold gG
      refine pl_ext ?_ ?_ ?_
      · dsimp only
        rw [gI_oth (by decide), gI_oth (by decide), gI_ne hb, gI_oth (by decide), hx.1 79 b rfl]
      · dsimp only
        rw [gI_oth (by decide), gI_ne hb, gI_oth (by decide), gI_oth (by decide), hx.1 80 b rfl]
      · dsimp only
        rw [gI_ne hb, gI_oth (by decide), gI_oth (by decide), gI_oth (by decide), hx.1 81 b rfl]
    refine ⟨h2, rfl, ?_, fun b hb => ?_, fun b hb q => ?_, e, hen, by rw [g78, if_pos rfl], hre⟩
    · rw [← hG]
      exact exc_wI (exc_wI (exc_wI (exc_wI (exc_tr he (gr_p hx)) rfl) rfl) rfl) rfl
    · rw [g78 b]
      by_cases hbe : b = e
      · subst hbe
        rw [if_pos rfl]
        exact ⟨fun q => by omega, fun q => by omega, fun _ => Or.inl ⟨rfl, gGe⟩⟩
      · rw [if_neg hbe, gGo b hbe]
        exact H b hb
    · rw [g78 b]
      split
      · rfl
      · exact q
  unfold md_reaches
  rw [jg_pos (by omega), jl_eq, jl_eq, Int.toNat_natCast, q65, q67, q69]
  by_cases hE : jE g j = true
  · have h1 : gm_I g 69 j = 1 := by
      unfold jE at hE
      have := of_decide_eq_true hE
      omega
    rw [h1, jg_pos (rgk rfl), if_neg n10, jg_pos (by omega), Int.toNat_natCast, jg_pos ⟨⟨by omega, by omega⟩, rgn (by omega)⟩, ite_some2, jb1_some, jg_pos (by omega), Int.toNat_natCast, jg_pos ⟨⟨by omega, by omega⟩, rgn (by omega)⟩, ite_some2, jb1_some, jg_pos ⟨rg01, rg01⟩]
    have hAB : cn g (jA g j) (jB g j) := gC_AB hj hE (gC_rf _)
    by_cases cA : gm_I h 78 (jA g j) = (r : Int)
    · by_cases cB : gm_I h 78 (jB g j) = (r : Int)
      · left
        rw [if_pos cA, if_pos cB, if_pos rfl]
        exact ⟨rfl, fun _ => ⟨fun _ => cB, fun _ => cA⟩⟩
      · right
        rw [if_pos cA, if_neg cB, if_neg n10, jg_pos ⟨⟨by omega, by omega⟩, rgn (by omega)⟩, if_pos cA]
        obtain ⟨p1, p2⟩ := rA3 cA
        obtain ⟨h1, e1, e2, e3⟩ := md_holds_eq h (gm_I h 79 (jA g j)) (gm_I h 80 (jA g j)) (gm_I h 81 (jA g j))
        have e2' : pH h1 = rel (P r) (P (jA g j)) := e2.trans p2
        have hcr : cn g r (jA g j) := by rw [← p1]; exact gC_sy (rt_sp g _).1
        have hb := rel_b I V hP hr hcr
        have eh1 := (keepC_scr (scr_p e3)).trans eh
        obtain ⟨h2, f1, f2, f3⟩ := (md_thenJoin_eq (I_fit_tr (keepF_C eh1) I) (show j < 60 by omega) (jok_trm eh1 hjok) (M := 1160) (by rw [e2']; exact hb) (by decide) (by decide)).1
        rw [c_jpl eh1, e2', rel_on (ok _) (ok _) (jok_b I hjok).1, ← hP.2.2.2.1 j hj hE] at f2
        obtain ⟨h3, k1, k2⟩ := key (jA g j) (jB g j) a3 b3 hne cA cB hAB h2 (exc_tr e3 f3) f2
        rw [e1, jb1_some, f1, jb1_some, k1, jb1_some]
        exact ⟨h3, rfl, k2⟩
    · by_cases cB : gm_I h 78 (jB g j) = (r : Int)
      · right
        rw [if_neg cA, if_pos cB, if_neg (show ¬ (0 : Int) = 1 by decide), jg_pos ⟨⟨by omega, by omega⟩, rgn (by omega)⟩, if_neg cA]
        obtain ⟨p1, p2⟩ := rB3 cB
        obtain ⟨h1, e1, e2, e3⟩ := md_holds_eq h (gm_I h 79 (jB g j)) (gm_I h 80 (jB g j)) (gm_I h 81 (jB g j))
        have e2' : pH h1 = rel (P r) (P (jB g j)) := e2.trans p2
        have hcr : cn g r (jB g j) := by rw [← p1]; exact gC_sy (rt_sp g _).1
        have hb := rel_b I V hP hr hcr
        have eh1 := (keepC_scr (scr_p e3)).trans eh
        obtain ⟨h2, f1, f2, f3⟩ := (md_thenJoin_eq (I_fit_tr (keepF_C eh1) I) (show j < 60 by omega) (jok_trm eh1 hjok) (M := 1160) (by rw [e2']; exact hb) (by decide) (by decide)).2
        have hj40 := (jok_b I hjok).1
        rw [c_jpl eh1, e2', rel_on (ok _) (ok _) (pin_okt hj40), hP.2.2.2.1 j hj hE, pon_assoc (ok _) hj40, pon_in hj40, pon_0 (ok _)] at f2
        obtain ⟨h3, k1, k2⟩ := key (jB g j) (jA g j) b3 a3 (fun z => hne z.symm) cB cA (gC_sy hAB) h2 (exc_tr e3 f3) f2
        rw [e1, jb1_some, f1, jb1_some, k1, jb1_some]
        exact ⟨h3, rfl, k2⟩
      · left
        rw [if_neg cA, if_neg cB, if_pos rfl]
        exact ⟨rfl, fun _ => ⟨fun z => absurd z cA, fun z => absurd z cB⟩⟩
  · have h1 : gm_I g 69 j = 0 := by
      unfold jE at hE
      rcases h01 with q | q
      · exact q
      · exact absurd (decide_eq_true (by omega)) hE
    left
    rw [h1, jg_pos (rgk rfl), if_pos rfl]
    exact ⟨rfl, fun q => absurd q hE⟩
