/-! Questions: what a letter stands for. -/
def rI (a k : Nat) : Bool := R_fit a k || (Nat.ble 14 a && Nat.ble a 19) || (a == 22 && (k == 3 || k == 4)) || (a == 44 && k == 24) || (Nat.ble 65 a && Nat.ble a 74)
def rJI (a k : Nat) : Bool := Nat.ble 111 a || a == 14 || a == 23
def keepI (g : gm_T) : gm_T := (fun a k => if rI a k = true then g.1 a k else 0, fun a k => if rJI a k = true then g.2 a k else 0)
theorem keepI_exc {W WJ : Nat → Nat → Bool} {g g2 : gm_T} (h : exc W WJ g g2) (hw : ∀ a k, rI a k = true → W a k = false) (hj : ∀ a k, rJI a k = true → WJ a k = false) : keepI g2 = keepI g := by
  unfold keepI
  refine Prod.ext ?_ ?_
  · funext a k
    dsimp only
    split
    · rename_i q
      exact h.1 a k (hw a k q)
    · rfl
  · funext a k
    dsimp only
    split
    · rename_i q
      exact h.2 a k (hj a k q)
    · rfl
theorem keepF_keepI (g : gm_T) : keepF (keepI g) = keepF g := by
  unfold keepF keepI
  refine Prod.ext ?_ ?_
  · funext a k
    dsimp only
    cases q : R_fit a k with
    | false => rfl
    | true =>
      have : rI a k = true := by
        unfold rI
        rw [q]
        rfl
      rw [this]
      rfl
  · funext a k
    dsimp only
    cases q : Nat.ble 111 a with
    | false => rfl
    | true =>
      have : rJI a k = true := by
        unfold rJI
        rw [q]
        rfl
      rw [this]
      rfl
theorem keepF_I {g g2 : gm_T} (e : keepI g2 = keepI g) : keepF g2 = keepF g := by
  rw [← keepF_keepI g2, e, keepF_keepI]
theorem IW_I {n : Nat} {g g2 : gm_T} {P : Nat → plc} (e : keepI g2 = keepI g) (h : IW n g P) : IW n g2 P := by
  have h1 : V_jn n (keepI g) := h.2.1
  have h2 : V_grp n (keepI g) := h.2.2.1
  have h3 : isW n (keepI g) P := h.2.2.2
  rw [← e] at h1 h2 h3
  exact ⟨I_fit_tr (keepF_I e) h.1, h1, h2, h3⟩
/-- how many joins a bit has -/
def cnj (g : gm_T) (b j : Nat) : Bool := jE g j && (decide (jA g j = b) || decide (jB g j = b))
noncomputable def lvv (n : Nat) (g : gm_T) (a c : Int) : Int := if c = 99 then gm_I g 50 a.toNat else if c = 101 then gm_I g 46 a.toNat else if c = 103 then ((gsz n g (rt g a.toNat) : Nat) : Int) else if c = 106 then ((ct (cnj g a.toNat) (jm g) : Nat) : Int) else if c = 110 then gm_I g 57 a.toNat else if c = 112 then gm_I g 56 a.toNat else if c = 115 then (if gm_I g 55 a.toNat < 0 then 9 else gm_I g 55 a.toNat) else if c = 116 then gm_I g 54 a.toNat else if c = 118 then (if pvd n g a.toNat = true then 1 else 0) else if c = 119 then @ite _ (onW n g a.toNat) (gd _) 1 0 else (if bxv g a.toNat < 0 then 99 else bxv g a.toNat)
theorem eqs_I {n : Nat} {g g2 : gm_T} (e : keepI g2 = keepI g) : jm g2 = jm g ∧ cnj g2 = cnj g ∧ onW n g2 = onW n g ∧ rt g2 = rt g := by
  show jm (keepI g2) = jm (keepI g) ∧ cnj (keepI g2) = cnj (keepI g) ∧ onW n (keepI g2) = onW n (keepI g) ∧ rt (keepI g2) = rt (keepI g)
  rw [e]
  exact ⟨rfl, rfl, rfl, rfl⟩
theorem pvd_I {n : Nat} {g g2 : gm_T} (e : keepI g2 = keepI g) : pvd n g2 = pvd n g := by
  have j1 : jA g2 = jA g ∧ jB g2 = jB g ∧ jK g2 = jK g ∧ jL g2 = jL g ∧ jE g2 = jE g ∧ hw g2 = hw g := by
    show jA (keepI g2) = jA (keepI g) ∧ jB (keepI g2) = jB (keepI g) ∧ jK (keepI g2) = jK (keepI g) ∧ jL (keepI g2) = jL (keepI g) ∧ jE (keepI g2) = jE (keepI g) ∧ hw (keepI g2) = hw (keepI g)
    rw [e]
    exact ⟨rfl, rfl, rfl, rfl, rfl, rfl⟩
  obtain ⟨jA_, jB_, jK_, jL_, jE_, hw_⟩ := j1
  have eF := keepF_I e
  have kB : ∀ a k b l, isB n g2 a k b l = isB n g a k b l := fun a k b l => by
    unfold isB rvs oth ky
    simp only [k_mE eF, k_isF eF, k_scv eF, k_tn eF]
  have kE : bE n g2 = bE n g := by
    funext j
    unfold bE
    rw [jE_, jA_, jK_, jB_, jL_, kB]
  funext b
  unfold pvd pfr pf
  rw [hw_, jA_, jB_, (eqs_I (n := n) e).1, kE]
theorem lvv_I {n : Nat} {g g2 : gm_T} (e : keepI g2 = keepI g) (hb : ∀ b, bxv g2 b = bxv g b) : lvv n g2 = lvv n g := by
  obtain ⟨k4, k3, k6, k2⟩ := eqs_I (n := n) e
  have k1 : gsz n g2 = gsz n g := by
    show gsz n (keepI g2) = gsz n (keepI g)
    rw [e]
  have k5 := pvd_I (n := n) e
  have k7 : ∀ k, gm_I g2 50 k = gm_I g 50 k ∧ gm_I g2 46 k = gm_I g 46 k ∧ gm_I g2 57 k = gm_I g 57 k ∧ gm_I g2 56 k = gm_I g 56 k ∧ gm_I g2 55 k = gm_I g 55 k ∧ gm_I g2 54 k = gm_I g 54 k := fun k => by
    show gm_I (keepI g2) 50 k = gm_I (keepI g) 50 k ∧ gm_I (keepI g2) 46 k = gm_I (keepI g) 46 k ∧ gm_I (keepI g2) 57 k = gm_I (keepI g) 57 k ∧ gm_I (keepI g2) 56 k = gm_I (keepI g) 56 k ∧ gm_I (keepI g2) 55 k = gm_I (keepI g) 55 k ∧ gm_I (keepI g2) 54 k = gm_I (keepI g) 54 k
    rw [e]
    exact ⟨rfl, rfl, rfl, rfl, rfl, rfl⟩
  funext a c
  obtain ⟨q1, q2, q3, q4, q5, q6⟩ := k7 a.toNat
  unfold lvv
  rw [k1, k2, k3, k4, k5, k6, q1, q2, q3, q4, q5, q6, hb]
theorem lvv_rg {n : Nat} {g : gm_T} {P : Nat → plc} (h : IW n g P) (hx : V_box n g) {b : Nat} (hb : b < n) (c : Int) : rg (lvv n g (b : Int) c) := by
  obtain ⟨⟨-, e1, e2⟩, -, ⟨-, s1, s2⟩, -, ⟨-, t1, t2⟩, ⟨-, r1, r2⟩, ⟨-, p1, p2⟩, ⟨-, c1, c2⟩, -⟩ := h.1.2.1 b hb
  have h30 := h.1.1.2.2
  have z1 : gsz n g (rt g b) ≤ n := ct_le _ n
  have z2 := ct_le (cnj g b) (jm g)
  have z3 := (jm_60 h.2.1).1
  have z4 := bxv_in hx b
  unfold lvv
  rw [Int.toNat_natCast]
  (repeat' split) <;> exact ⟨by omega, by omega⟩
theorem bxv_e {g g2 : gm_T} (e : ∀ a k, ((a == 44 && k == 87) || a == 104 || a == 105 || a == 106) = true → gm_I g2 a k = gm_I g a k) (b : Nat) : bxv g2 b = bxv g b := by
  have h : ∀ m, bx_at g2 (b : Int) 999 m = bx_at g (b : Int) 999 m := fun m => by
    induction m with
    | zero => rfl
    | succ m ih =>
      unfold bx_at
      rw [ih, e 104 m rfl, e 105 m rfl, e 106 m rfl]
  unfold bxv
  rw [e 44 87 rfl, h]
theorem V_box_e {n : Nat} {g g2 : gm_T} (e : ∀ a k, ((a == 32 && k == 0) || (a == 44 && k == 87) || a == 33 || a == 34 || a == 35 || a == 104 || a == 105 || a == 106) = true → gm_I g2 a k = gm_I g a k) (h : V_box n g) : V_box n g2 := by
  unfold V_box at h ⊢
  rw [e 32 0 rfl, e 44 87 rfl]
  simp only [fun k => e 33 k rfl, fun k => e 34 k rfl, fun k => e 35 k rfl, fun k => e 104 k rfl, fun k => e 105 k rfl, fun k => e 106 k rfl]
  exact h
theorem cx_bn_eq {n : Nat} {g : gm_T} (h30 : n ≤ 30) (hx : V_box n g) {b : Nat} (hb : b < n) : cx_boxNow g (b : Int) = some (bxv g b) ∧ md_boxOf g (b : Int) 999 (gm_I g 44 87) = some (bxv g b) := by
  obtain ⟨⟨w1, w2, w3⟩, -⟩ := id hx
  constructor
  · unfold cx_boxNow
    rw [w1, cx_boxOf_eq h30 hx (rgn (by omega)) (rgk rfl) ⟨w2, Int.le_refl _⟩, jb1_some]
    rfl
  · rw [md_boxOf_eq h30 hx (rgn (by omega)) (rgk rfl) ⟨w2, Int.le_refl _⟩]
    rfl
theorem cj_cAt_lp {n : Nat} {g : gm_T} (h30 : n ≤ 30) (V : V_jn n g) {b : Nat} (hb : b < n) : ∀ (d k fuel : Nat), k + d = jm g → d < fuel → cj_countAt_l4 g (b : Int) fuel ((ct (cnj g b) k : Nat) : Int) (k : Int) = some ((ct (cnj g b) (jm g) : Nat) : Int) := by
  obtain ⟨m60, m1, m2⟩ := jm_60 V
  obtain ⟨T, t1, t2⟩ := isM_jE V
  intro d
  induction d with
  | zero =>
    intro k fuel hd hf
    obtain ⟨f, rfl⟩ : ∃ f, fuel = f + 1 := ⟨fuel - 1, by omega⟩
    have hk : k = jm g := by omega
    unfold cj_countAt_l4
    rw [m2, jg_pos ⟨rgn (by omega), rgn (by omega)⟩, if_neg (by omega), hk]
  | succ d ih =>
    intro k fuel hd hf
    obtain ⟨f, rfl⟩ : ∃ f, fuel = f + 1 := ⟨fuel - 1, by omega⟩
    have next := ih (k + 1) f (by omega) (by omega)
    obtain ⟨⟨a1, a2, a3⟩, -, ⟨b1, b2, b3⟩, -⟩ := V.2.1 k (by omega)
    have hcn : cnj g b k = (jE g k && (decide (jA g k = b) || decide (jB g k = b))) := rfl
    unfold cj_countAt_l4
    rw [m2, jg_pos ⟨rgn (by omega), rgn (by omega)⟩, if_pos (by omega), t1, isIn_eq g (Nat.lt_trans t2.1 (by decide)) (by omega), jb_tst, t2.2 k (by omega)]
    cases c : jE g k with
    | false =>
      rw [c, Bool.false_and] at hcn
      rw [← ct_s0 (by rw [hcn]; decide)] at next
      rw [if_neg (by decide)]
      exact next
    | true =>
      rw [c, Bool.true_and] at hcn
      rw [if_pos rfl, jg_pos (by omega), Int.toNat_natCast, a1, a2, b1, b2, jg_pos ⟨rgn (by omega), rgn (by omega)⟩]
      by_cases q1 : jA g k = b
      · rw [decide_eq_true q1, Bool.true_or] at hcn
        rw [← ct_s1 hcn] at next
        rw [if_pos (by omega)]
        exact next
      · rw [if_neg (by omega), jg_pos (rgn (by omega))]
        by_cases q2 : jB g k = b
        · rw [decide_eq_true q2, Bool.or_true] at hcn
          rw [← ct_s1 hcn] at next
          rw [if_pos (by omega)]
          exact next
        · rw [decide_eq_false q1, decide_eq_false q2] at hcn
          rw [← ct_s0 (by rw [hcn]; decide)] at next
          rw [if_neg (by omega)]
          exact next
theorem md_lj_lp {n : Nat} {g : gm_T} (h30 : n ≤ 30) (V : V_jm n g) {b : Nat} (hb : b < n) : ∀ (d k fuel : Nat), k + d = jm g → d < fuel → md_letter_l166 g (b : Int) fuel ((ct (cnj g b) k : Nat) : Int) (k : Int) = some ((ct (cnj g b) (jm g) : Nat) : Int) := by
  obtain ⟨m60, m1, -⟩ := jm_60m V
  intro d
  induction d with
  | zero =>
    intro k fuel hd hf
    obtain ⟨f, rfl⟩ : ∃ f, fuel = f + 1 := ⟨fuel - 1, by omega⟩
    have hk : k = jm g := by omega
    unfold md_letter_l166
    rw [m1, jg_pos ⟨rgn (by omega), rgn (by omega)⟩, if_neg (by omega), hk]
  | succ d ih =>
    intro k fuel hd hf
    obtain ⟨f, rfl⟩ : ∃ f, fuel = f + 1 := ⟨fuel - 1, by omega⟩
    have next := ih (k + 1) f (by omega) (by omega)
    obtain ⟨⟨-, a2, a3⟩, -, ⟨-, b2, b3⟩, -, h01, -⟩ := V.2.1 k (by omega)
    have hE : jE g k = decide (gm_I g 69 k ≠ 0) := rfl
    have hcn : cnj g b k = (jE g k && (decide (jA g k = b) || decide (jB g k = b))) := rfl
    unfold md_letter_l166
    rw [m1, jg_pos ⟨rgn (by omega), rgn (by omega)⟩, if_pos (by omega), jg_pos (by omega), Int.toNat_natCast]
    rcases h01 with z | z
    · rw [z] at hE
      rw [hE] at hcn
      rw [← ct_s0 (by rw [hcn]; simp)] at next
      rw [z, jg_pos (rgk rfl), if_pos rfl, jl_eq, Int.add_zero]
      exact next
    · rw [z] at hE
      rw [show jE g k = true by rw [hE]; decide, Bool.true_and] at hcn
      rw [z, jg_pos (rgk rfl), if_neg n10, a2, b2, jg_pos ⟨rgn (by omega), rgn (by omega)⟩]
      by_cases q1 : jA g k = b
      · rw [decide_eq_true q1, Bool.true_or] at hcn
        rw [← ct_s1 hcn] at next
        rw [if_pos (by omega), jl_eq]
        exact next
      · rw [if_neg (by omega), jg_pos (rgn (by omega))]
        by_cases q2 : jB g k = b
        · rw [decide_eq_true q2, Bool.or_true] at hcn
          rw [← ct_s1 hcn] at next
          rw [if_pos (by omega), jl_eq]
          exact next
        · rw [decide_eq_false q1, decide_eq_false q2] at hcn
          rw [← ct_s0 (by rw [hcn]; decide)] at next
          rw [if_neg (by omega), jl_eq, Int.add_zero]
          exact next
/-- the class's value of a letter -/
theorem cq_val_eq {n : Nat} {g : gm_T} {P : Nat → plc} (h : IW n g P) (hx : V_box n g) {b : Nat} (hb : b < n) {c : Int} (hl : isLt c) (h8 : ∃ S : Nat, gm_I g 40 8 = (S : Int) ∧ S < 2 ^ 30 ∧ ∀ c, S.testBit c = true ↔ c < n ∧ onW n g c) (h9 : c = 118 → ∃ S : Nat, gm_I g 40 9 = (S : Int) ∧ S < 2 ^ 30 ∧ ∀ c, S.testBit c = true ↔ c < n ∧ pvd n g c = true) : cq_valueOf n g c (b : Int) = some (lvv n g (b : Int) c) := by
  have h30 := h.1.1.2.2
  obtain ⟨⟨e0, e1, e2⟩, -, ⟨s0, s1, s2⟩, -, ⟨t0, t1, t2⟩, ⟨r0, r1, r2⟩, ⟨p0', p1, p2⟩, ⟨c0, c1, c2⟩, -⟩ := h.1.2.1 b hb
  have z4 := bxv_in hx b
  unfold cq_valueOf
  rw [jg_pos (by omega), Int.toNat_natCast]
  rcases hl with rfl | rfl | rfl | rfl | rfl | rfl | rfl | rfl | rfl | rfl | rfl
  · rw [jg_pos (rgk rfl)]
    show (jb1 (cx_boxNow g (b : Int)) fun (v3 : Int) => jg (rg v3) (if v3 < 0 then (some 99) else (some v3))) = some (if bxv g b < 0 then 99 else bxv g b)
    rw [(cx_bn_eq h30 hx hb).1, jb1_some, jg_pos ⟨by omega, by omega⟩, ite_some2]
  · rw [jg_pos (rgk rfl)]
    show some (gm_I g (bA b) 7) = some (gm_I g 50 b)
    rw [s0]
  · rw [jg_pos (rgk rfl)]
    show some (gm_I g (bA b) 3) = some (gm_I g 46 b)
    rw [e0]
  · rw [jg_pos (rgk rfl)]
    obtain ⟨M, m1, m2⟩ := h.2.2.1 b hb
    show (jg (0 ≤ (b : Int) ∧ (b : Int) < 30) (jb1 (jd_bitCount g (gm_I g 19 b)) fun (v47 : Int) => some v47)) = some ((gsz n g (rt g b) : Nat) : Int)
    rw [jg_pos (by omega), m1, bc_grp h30 h.2.1 g hb m2, jb1_some]
  · rw [jg_pos (rgk rfl)]
    have k1 := cj_cAt_lp h30 h.2.1 hb (jm g) 0 fz (by omega) (Nat.lt_of_le_of_lt (show jm g ≤ 300 by have := (jm_60 h.2.1).1; omega) (fz_gt rfl))
    show (jb1 (cj_countAt g (b : Int)) fun (v41 : Int) => some v41) = some ((ct (cnj g b) (jm g) : Nat) : Int)
    unfold cj_countAt
    rw [show cj_countAt_l4 g (b : Int) fz 0 0 = _ from k1, jb1_some, jb1_some]
  · rw [jg_pos (rgk rfl)]
    show some (gm_I g (bA b) 12) = some (gm_I g 57 b)
    rw [c0]
  · rw [jg_pos (rgk rfl)]
    show some (gm_I g (bA b) 2) = some (gm_I g 56 b)
    rw [p0']
  · rw [jg_pos (rgk rfl)]
    show (jg (rg (gm_I g (bA b) 1)) (if (gm_I g (bA b) 1) < 0 then (some 9) else (some (gm_I g (bA b) 1)))) = some (if gm_I g 55 b < 0 then 9 else gm_I g 55 b)
    rw [r0, jg_pos ⟨by omega, by omega⟩, ite_some2]
  · rw [jg_pos (rgk rfl)]
    show some (gm_I g (bA b) 0) = some (gm_I g 54 b)
    rw [t0]
  · obtain ⟨S, k1, k2, k3⟩ := h9 rfl
    rw [jg_pos (rgk rfl)]
    show some (zA (zSr (gm_I g 40 9) (b : Int)) 1) = some (if pvd n g b = true then 1 else 0)
    rw [k1, zbit (by omega) (by omega)]
    by_cases z : S.testBit b = true
    · rw [if_pos z, if_pos ((k3 b).mp z).2]
    · rw [if_neg z, if_neg (fun y => z ((k3 b).mpr ⟨hb, y⟩))]
  · obtain ⟨S, k1, k2, k3⟩ := h8
    rw [jg_pos (rgk rfl)]
    show some (zA (zSr (gm_I g 40 8) (b : Int)) 1) = some (@ite _ (onW n g b) (gd _) 1 0)
    rw [k1, zbit (by omega) (by omega)]
    by_cases z : S.testBit b = true
    · rw [if_pos z, @if_pos _ (gd _) ((k3 b).mp z).2]
    · rw [if_neg z, @if_neg _ (gd _) (fun y => z ((k3 b).mpr ⟨hb, y⟩))]
/-- the reference's value of a letter -/
theorem md_let_eq {n : Nat} {g : gm_T} {P : Nat → plc} (h : IW n g P) {g1 : gm_T} (e : keepI g1 = keepI g) (H : isGr n g P g1) (hx : V_box n g1) (hbx : ∀ b, bxv g1 b = bxv g b) {b : Nat} (hb : b < n) (ha : gm_I g1 44 86 = (b : Int)) {c : Int} (hl : isLt c) (h102 : gm_I g1 102 b = @ite _ (onW n g b) (gd _) 1 0) (h101 : gm_I g1 101 b = if pvd n g b = true then 1 else 0) : md_letter g1 c = some (lvv n g (b : Int) c) := by
  have h30 := h.1.1.2.2
  have eF := keepF_I e
  have I1 := I_fit_tr eF h.1
  have V1 := vm (IW_I e h).2.1
  have k7 : gm_I g1 50 b = gm_I g 50 b ∧ gm_I g1 46 b = gm_I g 46 b ∧ gm_I g1 57 b = gm_I g 57 b ∧ gm_I g1 56 b = gm_I g 56 b ∧ gm_I g1 55 b = gm_I g 55 b ∧ gm_I g1 54 b = gm_I g 54 b := by
    show gm_I (keepF g1) 50 b = gm_I (keepF g) 50 b ∧ gm_I (keepF g1) 46 b = gm_I (keepF g) 46 b ∧ gm_I (keepF g1) 57 b = gm_I (keepF g) 57 b ∧ gm_I (keepF g1) 56 b = gm_I (keepF g) 56 b ∧ gm_I (keepF g1) 55 b = gm_I (keepF g) 55 b ∧ gm_I (keepF g1) 54 b = gm_I (keepF g) 54 b
    rw [eF]
    exact ⟨rfl, rfl, rfl, rfl, rfl, rfl⟩
  obtain ⟨q1, q2, q3, q4, q5, q6⟩ := k7
  obtain ⟨⟨-, e1, e2⟩, -, ⟨-, s1, s2⟩, -, ⟨-, t1, t2⟩, ⟨-, r1, r2⟩, ⟨-, p1, p2⟩, ⟨-, c1, c2⟩, -⟩ := h.1.2.1 b hb
  have z4 := bxv_in hx b
  have z5 := (cx_bn_eq h30 hx hb).2
  rw [hbx] at z4 z5
  have hrt := rt_le g b
  obtain ⟨hjm, hcn, -⟩ := eqs_I (n := n) e
  unfold md_letter
  rw [jl_eq, ha, Int.toNat_natCast]
  rcases hl with rfl | rfl | rfl | rfl | rfl | rfl | rfl | rfl | rfl | rfl | rfl
  · rw [jg_pos (rgk rfl)]
    show (jb1 (md_boxOf g1 (b : Int) 999 (gm_I g1 44 87)) fun (v3 : Int) => jg (rg v3) (if v3 = (-1) then (some 99) else (some v3))) = some (if bxv g b < 0 then 99 else bxv g b)
    rw [z5, jb1_some, jg_pos ⟨by omega, by omega⟩]
    by_cases z : bxv g b < 0
    · rw [if_pos z, if_pos (by omega)]
    · rw [if_neg z, if_neg (by omega)]
  · rw [jg_pos (rgk rfl)]
    show (jg (0 ≤ (b : Int) ∧ (b : Int) < 30) (some (gm_I g1 50 b))) = some (gm_I g 50 b)
    rw [jg_pos (by omega), q1]
  · rw [jg_pos (rgk rfl)]
    show (jg (0 ≤ (b : Int) ∧ (b : Int) < 30) (some (gm_I g1 46 b))) = some (gm_I g 46 b)
    rw [jg_pos (by omega), q2]
  · rw [jg_pos (rgk rfl)]
    show (jg (0 ≤ (b : Int) ∧ (b : Int) < 30) (jb1 (md_sizeOf g1 (gm_I g1 78 b)) fun (v76 : Int) => some v76)) = some ((gsz n g (rt g b) : Nat) : Int)
    rw [jg_pos (by omega), (H b hb).1, md_sizeOf_eq h.1.1 I1.1.2.1 H (by omega), jb1_some]
  · rw [jg_pos (rgk rfl)]
    have k1 := md_lj_lp h30 V1 hb (jm g1) 0 fz (by omega) (Nat.lt_of_le_of_lt (show jm g1 ≤ 300 by have := (jm_60m V1).1; omega) (fz_gt rfl))
    rw [hcn, hjm] at k1
    show (jb1 (md_letter_l166 g1 (b : Int) fz 0 0) fun (v69 : Int) => some v69) = some ((ct (cnj g b) (jm g) : Nat) : Int)
    rw [show md_letter_l166 g1 (b : Int) fz 0 0 = _ from k1, jb1_some]
  · rw [jg_pos (rgk rfl)]
    show (jg (0 ≤ (b : Int) ∧ (b : Int) < 30) (some (gm_I g1 57 b))) = some (gm_I g 57 b)
    rw [jg_pos (by omega), q3]
  · rw [jg_pos (rgk rfl)]
    show (jg (0 ≤ (b : Int) ∧ (b : Int) < 30) (some (gm_I g1 56 b))) = some (gm_I g 56 b)
    rw [jg_pos (by omega), q4]
  · rw [jg_pos (rgk rfl)]
    show (jg (0 ≤ (b : Int) ∧ (b : Int) < 30) (jg (rg (gm_I g1 55 b)) (if (gm_I g1 55 b) = (-1) then (some 9) else (some (gm_I g1 55 b))))) = some (if gm_I g 55 b < 0 then 9 else gm_I g 55 b)
    rw [jg_pos (by omega), q5, jg_pos ⟨by omega, by omega⟩]
    by_cases z : gm_I g 55 b < 0
    · rw [if_pos z, if_pos (by omega)]
    · rw [if_neg z, if_neg (by omega)]
  · rw [jg_pos (rgk rfl)]
    show (jg (0 ≤ (b : Int) ∧ (b : Int) < 30) (some (gm_I g1 54 b))) = some (gm_I g 54 b)
    rw [jg_pos (by omega), q6]
  · rw [jg_pos (rgk rfl)]
    show (jg (0 ≤ (b : Int) ∧ (b : Int) < 30) (jg (rg (gm_I g1 101 b)) (if (gm_I g1 101 b) = 0 then (some 0) else (some 1)))) = some (if pvd n g b = true then 1 else 0)
    rw [jg_pos (by omega), h101]
    by_cases z : pvd n g b = true
    · rw [if_pos z, jg_pos (rgk rfl), if_neg n10]
    · rw [if_neg z, jg_pos (rgk rfl), if_pos rfl]
  · rw [jg_pos (rgk rfl)]
    show (jg (0 ≤ (b : Int) ∧ (b : Int) < 30) (jg (rg (gm_I g1 102 b)) (if (gm_I g1 102 b) = 0 then (some 0) else (some 1)))) = some (@ite _ (onW n g b) (gd _) 1 0)
    rw [jg_pos (by omega), h102]
    by_cases z : onW n g b
    · rw [@if_pos _ (gd _) z, jg_pos (rgk rfl), if_neg n10]
    · rw [@if_neg _ (gd _) z, jg_pos (rgk rfl), if_pos rfl]
