/-! The ring: what both sides reckon with. -/
def rG (c : Nat) (X Y : Nat → Int) : Prop := (3 ≤ c ∧ c ≤ 8) ∧ ∀ k, k < c → (-20 ≤ X k ∧ X k ≤ 20) ∧ -20 ≤ Y k ∧ Y k ≤ 20
def isC (g : gm_T) (c : Nat) (X Y : Nat → Int) : Prop := gm_I g 3 3 = (c : Int) ∧ ∀ k, k < c → gm_I g 4 k = X k ∧ gm_I g 5 k = Y k
def isR (g : gm_T) (n c : Nat) (X Y : Nat → Int) : Prop := gm_I g 46 n = (c : Int) ∧ ∀ k, k < c → gm_I g 47 (8 * n + k) = X k ∧ gm_I g 48 (8 * n + k) = Y k
def rnx (c k : Nat) : Nat := if k + 1 < c then k + 1 else 0
theorem rnx_lt {c k : Nat} (h : 0 < c) : rnx c k < c := by
  unfold rnx
  split <;> omega
def rdx (c : Nat) (X : Nat → Int) (k : Nat) : Int := X (rnx c k) - X k
def rtu (c : Nat) (X Y : Nat → Int) (k m : Nat) : Int := rdx c X k * (Y m - Y k) - rdx c Y k * (X m - X k)
def rsg (v : Int) : Int := if v < 0 then -1 else if v = 0 then 0 else 1
def rsp (c : Nat) (X Y : Nat → Int) (k m : Nat) : Bool := decide (((zmin (X k) (X (rnx c k)) ≤ X m ∧ X m ≤ zmax (X k) (X (rnx c k))) ∧ zmin (Y k) (Y (rnx c k)) ≤ Y m) ∧ Y m ≤ zmax (Y k) (Y (rnx c k)))
def rfo (c : Nat) (X Y : Nat → Int) (k m : Nat) : Bool := decide (rdx c X k * rdx c Y m - rdx c Y k * rdx c X m = 0 ∧ rdx c X k * rdx c X m + rdx c Y k * rdx c Y m < 0)
def rcx (c : Nat) (X Y : Nat → Int) (k m : Nat) : Bool := (decide (rsg (rtu c X Y k m) * rsg (rtu c X Y k (rnx c m)) < 0) && decide (rsg (rtu c X Y m k) * rsg (rtu c X Y m (rnx c k)) < 0)) || (decide (rsg (rtu c X Y k m) = 0) && rsp c X Y k m) || (decide (rsg (rtu c X Y k (rnx c m)) = 0) && rsp c X Y k (rnx c m)) || (decide (rsg (rtu c X Y m k) = 0) && rsp c X Y m k) || (decide (rsg (rtu c X Y m (rnx c k)) = 0) && rsp c X Y m (rnx c k))
def rmw (c : Nat) (X Y : Nat → Int) (k m : Nat) : Bool := if rnx c k = m then rfo c X Y k m else if rnx c m = k then rfo c X Y m k else rcx c X Y k m
theorem pb40 {a b : Int} (ha : -40 ≤ a ∧ a ≤ 40) (hb : -40 ≤ b ∧ b ≤ 40) : -1600 ≤ a * b ∧ a * b ≤ 1600 := by
  have h := Nat.mul_le_mul (show a.natAbs ≤ 40 by omega) (show b.natAbs ≤ 40 by omega)
  rw [← Int.natAbs_mul] at h
  omega
theorem rdx_b {c k : Nat} {X Y : Nat → Int} (h : rG c X Y) (hk : k < c) : (-40 ≤ rdx c X k ∧ rdx c X k ≤ 40) ∧ -40 ≤ rdx c Y k ∧ rdx c Y k ≤ 40 := by
  have h1 := h.2 k hk
  have h2 := h.2 (rnx c k) (rnx_lt (by omega))
  unfold rdx
  omega
theorem rtu_b {c k m : Nat} {X Y : Nat → Int} (h : rG c X Y) (hk : k < c) (hm : m < c) : -3200 ≤ rtu c X Y k m ∧ rtu c X Y k m ≤ 3200 := by
  have h1 := h.2 k hk
  have h2 := h.2 m hm
  have d := rdx_b h hk
  have p1 := pb40 d.1 (b := Y m - Y k) (by omega)
  have p2 := pb40 d.2 (b := X m - X k) (by omega)
  unfold rtu
  omega
theorem rsg_b (v : Int) : -1 ≤ rsg v ∧ rsg v ≤ 1 := by
  unfold rsg
  split
  · decide
  · split <;> decide
theorem rsg_m (v w : Int) : rg (rsg v * rsg w) := by
  have h := pb40 (a := rsg v) (b := rsg w) (by have := rsg_b v; omega) (by have := rsg_b w; omega)
  exact ⟨by omega, by omega⟩
theorem rsg_r (v : Int) : rg (rsg v) := ⟨by have := rsg_b v; omega, by have := rsg_b v; omega⟩
theorem zmin_b {x y : Int} (hx : -20 ≤ x ∧ x ≤ 20) (hy : -20 ≤ y ∧ y ≤ 20) : -20 ≤ zmin x y ∧ zmin x y ≤ 20 := by
  unfold zmin
  split <;> omega
theorem zmax_b {x y : Int} (hx : -20 ≤ x ∧ x ≤ 20) (hy : -20 ≤ y ∧ y ≤ 20) : -20 ≤ zmax x y ∧ zmax x y ≤ 20 := by
  unfold zmax
  split <;> omega
theorem rg20 {x : Int} (h : -20 ≤ x ∧ x ≤ 20) : rg x := ⟨by omega, by omega⟩
theorem b01_r (b : Bool) : rg (if b = true then (1 : Int) else 0) := rg01
theorem b01_z (b : Bool) : (if b = true then (1 : Int) else 0) = 0 ∨ (if b = true then (1 : Int) else 0) = 1 := by
  cases b
  · exact Or.inl rfl
  · exact Or.inr rfl
theorem ckn_eq {g : gm_T} {c : Nat} {X Y : Nat → Int} (hG : rG c X Y) (h : isC g c X Y) {k : Nat} (hk : k < c) : ck_next g (k : Int) = some ((rnx c k : Nat) : Int) := by
  have c8 := hG.1.2
  unfold ck_next rnx
  rw [h.1, jg_pos ⟨⟨by omega, by omega⟩, rgn (by omega)⟩]
  by_cases e : k + 1 < c
  · rw [if_pos (by omega), if_pos e]; rfl
  · rw [if_neg (by omega), if_neg e]; rfl
theorem ck_side_eq {g : gm_T} {c : Nat} {X Y : Nat → Int} (hG : rG c X Y) (h : isC g c X Y) {k m : Nat} (hk : k < c) (hm : m < c) : ck_side g (k : Int) (m : Int) = some (rsg (rtu c X Y k m)) := by
  have c8 := hG.1.2
  have hn : rnx c k < c := rnx_lt (by omega)
  have b := rtu_b hG hk hm
  unfold ck_side
  rw [ckn_eq hG h hk, jb1_some, jg_pos (by omega), jg_pos (by omega), jg_pos (by omega), Int.toNat_natCast, Int.toNat_natCast, Int.toNat_natCast, (h.2 k hk).1, (h.2 k hk).2, (h.2 m hm).1, (h.2 m hm).2, (h.2 _ hn).1, (h.2 _ hn).2, jl_eq]
  unfold jd_compare
  show jb1 (jg (rg (rtu c X Y k m) ∧ rg 0) (if rtu c X Y k m < 0 then some (-1) else if rtu c X Y k m = 0 then some 0 else some 1)) (fun v6 => some v6) = _
  rw [jg_pos ⟨⟨by omega, by omega⟩, rgk rfl⟩]
  unfold rsg
  by_cases e : rtu c X Y k m < 0
  · rw [if_pos e, if_pos e]; rfl
  · rw [if_neg e, if_neg e]
    by_cases e2 : rtu c X Y k m = 0
    · rw [if_pos e2, if_pos e2]; rfl
    · rw [if_neg e2, if_neg e2]; rfl
theorem ck_spans_eq {g : gm_T} {c : Nat} {X Y : Nat → Int} (hG : rG c X Y) (h : isC g c X Y) {k m : Nat} (hk : k < c) (hm : m < c) : ck_spans g (k : Int) (m : Int) = some (if rsp c X Y k m = true then 1 else 0) := by
  have c8 := hG.1.2
  have hn : rnx c k < c := rnx_lt (by omega)
  have bk := hG.2 k hk
  have bm := hG.2 m hm
  have bn := hG.2 _ hn
  unfold ck_spans rsp
  rw [ckn_eq hG h hk, jb1_some, jg_pos (by omega), jg_pos (by omega), Int.toNat_natCast, Int.toNat_natCast, (h.2 k hk).1, (h.2 _ hn).1, jg_pos ⟨rg20 bk.1, rg20 bn.1⟩, jg_pos (by omega), Int.toNat_natCast, (h.2 m hm).1, jg_pos ⟨rg20 (zmin_b bk.1 bn.1), rg20 bm.1⟩]
  by_cases e1 : zmin (X k) (X (rnx c k)) ≤ X m
  · rw [if_pos e1, jg_pos (rg20 (zmax_b bk.1 bn.1))]
    by_cases e2 : X m ≤ zmax (X k) (X (rnx c k))
    · rw [if_pos e2, (h.2 k hk).2, (h.2 _ hn).2, jg_pos ⟨rg20 bk.2, rg20 bn.2⟩, (h.2 m hm).2, jg_pos ⟨rg20 (zmin_b bk.2 bn.2), rg20 bm.2⟩]
      by_cases e3 : zmin (Y k) (Y (rnx c k)) ≤ Y m
      · rw [if_pos e3, jg_pos (rg20 (zmax_b bk.2 bn.2))]
        by_cases e4 : Y m ≤ zmax (Y k) (Y (rnx c k))
        · rw [if_pos e4, if_pos (decide_eq_true ⟨⟨⟨e1, e2⟩, e3⟩, e4⟩)]
        · rw [if_neg e4, if_neg (fun q => e4 (of_decide_eq_true q).2)]
      · rw [if_neg e3, if_neg (fun q => e3 (of_decide_eq_true q).1.2)]
    · rw [if_neg e2, if_neg (fun q => e2 (of_decide_eq_true q).1.1.2)]
  · rw [if_neg e1, if_neg (fun q => e1 (of_decide_eq_true q).1.1.1)]
theorem ck_foldsBack_eq {g : gm_T} {c : Nat} {X Y : Nat → Int} (hG : rG c X Y) (h : isC g c X Y) {k m : Nat} (hk : k < c) (hm : m < c) : ck_foldsBack g (k : Int) (m : Int) = some (if rfo c X Y k m = true then 1 else 0) := by
  have c8 := hG.1.2
  have hn : rnx c k < c := rnx_lt (by omega)
  have hn2 : rnx c m < c := rnx_lt (by omega)
  have dk := rdx_b hG hk
  have dm := rdx_b hG hm
  have p1 := pb40 dk.1 dm.2
  have p2 := pb40 dk.2 dm.1
  have p3 := pb40 dk.1 dm.1
  have p4 := pb40 dk.2 dm.2
  unfold ck_foldsBack rfo
  rw [ckn_eq hG h hk, jb1_some, jg_pos (by omega), jg_pos (by omega), jl_eq, jb1_some, jg_pos (by omega), jl_eq, ckn_eq hG h hm, jb1_some, jg_pos (by omega), jg_pos (by omega), jl_eq, jb1_some, jg_pos (by omega), jl_eq]
  rw [Int.toNat_natCast, Int.toNat_natCast, Int.toNat_natCast, Int.toNat_natCast, (h.2 k hk).1, (h.2 k hk).2, (h.2 m hm).1, (h.2 m hm).2, (h.2 _ hn).1, (h.2 _ hn).2, (h.2 _ hn2).1, (h.2 _ hn2).2]
  show jg (rg (rdx c X k * rdx c Y m - rdx c Y k * rdx c X m)) (if rdx c X k * rdx c Y m - rdx c Y k * rdx c X m = 0 then jg (rg (rdx c X k * rdx c X m + rdx c Y k * rdx c Y m)) (if rdx c X k * rdx c X m + rdx c Y k * rdx c Y m < 0 then some 1 else some 0) else some 0) = _
  rw [jg_pos ⟨by omega, by omega⟩]
  by_cases e1 : rdx c X k * rdx c Y m - rdx c Y k * rdx c X m = 0
  · rw [if_pos e1, jg_pos ⟨by omega, by omega⟩]
    by_cases e2 : rdx c X k * rdx c X m + rdx c Y k * rdx c Y m < 0
    · rw [if_pos e2, if_pos (decide_eq_true ⟨e1, e2⟩)]
    · rw [if_neg e2, if_neg (fun q => e2 (of_decide_eq_true q).2)]
  · rw [if_neg e1, if_neg (fun q => e1 (of_decide_eq_true q).1)]
theorem ck_cross_eq {g : gm_T} {c : Nat} {X Y : Nat → Int} (hG : rG c X Y) (h : isC g c X Y) {k m : Nat} (hk : k < c) (hm : m < c) : ck_cross g (k : Int) (m : Int) = some (if rcx c X Y k m = true then 1 else 0) := by
  have hn : rnx c k < c := rnx_lt (by omega)
  have hn2 : rnx c m < c := rnx_lt (by omega)
  unfold ck_cross rcx
  simp only [ckn_eq hG h hk, ckn_eq hG h hm, ck_side_eq hG h hk hm, ck_side_eq hG h hk hn2, ck_side_eq hG h hm hk, ck_side_eq hG h hm hn, jb1_some, jg_pos (rsg_m _ _), jg_pos (rsg_r _)]
  simp only [ck_spans_eq hG h hk hm, ck_spans_eq hG h hk hn2, ck_spans_eq hG h hm hk, ck_spans_eq hG h hm hn, jb_tst]
  generalize rsp c X Y k m = s1
  generalize rsp c X Y k (rnx c m) = s2
  generalize rsp c X Y m k = s3
  generalize rsp c X Y m (rnx c k) = s4
  generalize rsg (rtu c X Y k m) = a1
  generalize rsg (rtu c X Y k (rnx c m)) = a2
  generalize rsg (rtu c X Y m k) = a3
  generalize rsg (rtu c X Y m (rnx c k)) = a4
  generalize hP : decide (a1 * a2 < 0) = P1
  generalize hQ : decide (a3 * a4 < 0) = P2
  generalize h1 : decide (a1 = 0) = q1
  generalize h2 : decide (a2 = 0) = q2
  generalize h3 : decide (a3 = 0) = q3
  generalize h4 : decide (a4 = 0) = q4
  have e0 : (a1 * a2 < 0) = (P1 = true) := by rw [← hP]; simp
  have e5 : (a3 * a4 < 0) = (P2 = true) := by rw [← hQ]; simp
  have e1 : (a1 = 0) = (q1 = true) := by rw [← h1]; simp
  have e2 : (a2 = 0) = (q2 = true) := by rw [← h2]; simp
  have e3 : (a3 = 0) = (q3 = true) := by rw [← h3]; simp
  have e4 : (a4 = 0) = (q4 = true) := by rw [← h4]; simp
  simp only [e0, e5, e1, e2, e3, e4]
  clear e0 e5 e1 e2 e3 e4 hP hQ h1 h2 h3 h4
  cases P1 <;> cases P2 <;> cases q1 <;> cases s1 <;> cases q2 <;> cases s2 <;> cases q3 <;> cases s3 <;> cases q4 <;> cases s4 <;> rfl
theorem ck_meetWrongly_eq {g : gm_T} {c : Nat} {X Y : Nat → Int} (hG : rG c X Y) (h : isC g c X Y) {k m : Nat} (hk : k < c) (hm : m < c) : ck_meetWrongly g (k : Int) (m : Int) = some (if rmw c X Y k m = true then 1 else 0) := by
  have c8 := hG.1.2
  have hn : rnx c k < c := rnx_lt (by omega)
  have hn2 : rnx c m < c := rnx_lt (by omega)
  unfold ck_meetWrongly rmw
  rw [ckn_eq hG h hk, jb1_some, jg_pos ⟨rgn (by omega), rgn (by omega)⟩]
  by_cases e : rnx c k = m
  · rw [if_pos (by rw [e]), if_pos e, ck_foldsBack_eq hG h hk hm, jb1_some, jg_pos (b01_z _)]
  · rw [if_neg (by omega), if_neg e, ckn_eq hG h hm, jb1_some, jg_pos ⟨rgn (by omega), rgn (by omega)⟩]
    by_cases e2 : rnx c m = k
    · rw [if_pos (by rw [e2]), if_pos e2, ck_foldsBack_eq hG h hm hk, jb1_some, jg_pos (b01_z _)]
    · rw [if_neg (by omega), if_neg e2, ck_cross_eq hG h hk hm, jb1_some, jg_pos (b01_z _)]
