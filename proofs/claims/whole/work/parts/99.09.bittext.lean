/-! A bit's text as a whole; the class reads it. -/
abbrev ptl : Type := List (Int × Int × Int)
/-- corners, the first at p, at most f: they, where they end or are wrong, whether they are wrong -/
noncomputable def cpr (t : Nat → Int) : Nat → Nat → ptl × Nat × Bool
  | 0, p => ([], p, true)
  | f + 1, p => match pnt 58 t p with
    | (none, e) => ([], e, true)
    | (some q, e) => if 0 < f ∧ t e = 59 then (q :: (cpr t f (e + 1)).1, (cpr t f (e + 1)).2) else ([q], e, decide (5 < f))
/-- spots, at most f -/
noncomputable def spr (t : Nat → Int) : Nat → Nat → ptl × Nat × Bool
  | 0, p => ([], p, false)
  | f + 1, p => if t p = 124 then (match pnt 61 t (p + 1) with
    | (none, e) => ([], e, true)
    | (some q, e) => (q :: (spr t f e).1, (spr t f e).2)) else ([], p, false)
theorem cpr_n {t : Nat → Int} {f p e : Nat} (h : pnt 58 t p = (none, e)) : cpr t (f + 1) p = ([], e, true) := by
  show (match pnt 58 t p with
    | (none, e) => ([], e, true)
    | (some q, e) => if 0 < f ∧ t e = 59 then (q :: (cpr t f (e + 1)).1, (cpr t f (e + 1)).2) else ([q], e, decide (5 < f))) = _
  rw [h]
theorem cpr_m {t : Nat → Int} {f p e : Nat} {q : Int × Int × Int} (h : pnt 58 t p = (some q, e)) (h2 : 0 < f ∧ t e = 59) : cpr t (f + 1) p = (q :: (cpr t f (e + 1)).1, (cpr t f (e + 1)).2) := by
  show (match pnt 58 t p with
    | (none, e) => ([], e, true)
    | (some q, e) => if 0 < f ∧ t e = 59 then (q :: (cpr t f (e + 1)).1, (cpr t f (e + 1)).2) else ([q], e, decide (5 < f))) = _
  rw [h]
  exact if_pos h2
theorem cpr_e {t : Nat → Int} {f p e : Nat} {q : Int × Int × Int} (h : pnt 58 t p = (some q, e)) (h2 : ¬ (0 < f ∧ t e = 59)) : cpr t (f + 1) p = ([q], e, decide (5 < f)) := by
  show (match pnt 58 t p with
    | (none, e) => ([], e, true)
    | (some q, e) => if 0 < f ∧ t e = 59 then (q :: (cpr t f (e + 1)).1, (cpr t f (e + 1)).2) else ([q], e, decide (5 < f))) = _
  rw [h]
  exact if_neg h2
theorem spr_z {t : Nat → Int} {f p : Nat} (h : ¬ t p = 124) : spr t f p = ([], p, false) := by
  cases f with
  | zero => rfl
  | succ f => exact if_neg h
theorem spr_n {t : Nat → Int} {f p e : Nat} (h0 : t p = 124) (h : pnt 61 t (p + 1) = (none, e)) : spr t (f + 1) p = ([], e, true) := by
  have k : spr t (f + 1) p = (match pnt 61 t (p + 1) with
    | (none, e) => ([], e, true)
    | (some q, e) => (q :: (spr t f e).1, (spr t f e).2)) := if_pos h0
  rw [k, h]
theorem spr_m {t : Nat → Int} {f p e : Nat} {q : Int × Int × Int} (h0 : t p = 124) (h : pnt 61 t (p + 1) = (some q, e)) : spr t (f + 1) p = (q :: (spr t f e).1, (spr t f e).2) := by
  have k : spr t (f + 1) p = (match pnt 61 t (p + 1) with
    | (none, e) => ([], e, true)
    | (some q, e) => (q :: (spr t f e).1, (spr t f e).2)) := if_pos h0
  rw [k, h]
def okl (l : ptl) : Prop := ∀ q, q ∈ l → (-20 ≤ q.1 ∧ q.1 ≤ 20) ∧ (-20 ≤ q.2.1 ∧ q.2.1 ≤ 20) ∧ 0 ≤ q.2.2 ∧ q.2.2 ≤ 9
theorem cpr_ok {t : Nat → Int} {L : Nat} (h : endT t L) : ∀ f p, p ≤ L → (cpr t f p).2.1 ≤ L ∧ okl (cpr t f p).1 ∧ (cpr t f p).1.length ≤ f := by
  intro f
  induction f with
  | zero => intro p hp; exact ⟨hp, (fun q k => by cases k), Nat.le_refl _⟩
  | succ f ih =>
    intro p hp
    have o := pnt_ok (c := 58) h hp (by decide)
    rcases hr : pnt 58 t p with ⟨_ | q, e⟩
    · rw [cpr_n hr]
      rw [hr] at o
      exact ⟨o.1.2, (fun q k => by cases k), Nat.zero_le _⟩
    · rw [hr] at o
      have oq := o.2.1 q.1 q.2.1 q.2.2 rfl
      by_cases c : 0 < f ∧ t e = 59
      · rw [cpr_m hr c]
        have w := ih (e + 1) (qlt_L h (by omega))
        refine ⟨w.1, fun q2 k => ?_, Nat.succ_le_succ w.2.2⟩
        rcases List.mem_cons.mp k with rfl | k
        · exact oq
        · exact w.2.1 q2 k
      · rw [cpr_e hr c]
        refine ⟨o.1.2, fun q2 k => ?_, by show 1 ≤ f + 1; omega⟩
        rw [List.mem_singleton.mp k]
        exact oq
theorem spr_ok {t : Nat → Int} {L : Nat} (h : endT t L) : ∀ f p, p ≤ L → (spr t f p).2.1 ≤ L ∧ okl (spr t f p).1 ∧ (spr t f p).1.length ≤ f := by
  intro f
  induction f with
  | zero => intro p hp; exact ⟨hp, (fun q k => by cases k), Nat.le_refl _⟩
  | succ f ih =>
    intro p hp
    by_cases c0 : t p = 124
    · have o := pnt_ok (c := 61) (p := p + 1) h (qlt_L h (by omega)) (by decide)
      rcases hr : pnt 61 t (p + 1) with ⟨_ | q, e⟩
      · rw [spr_n c0 hr]
        rw [hr] at o
        exact ⟨o.1.2, (fun q k => by cases k), Nat.zero_le _⟩
      · rw [hr] at o
        have oq := o.2.1 q.1 q.2.1 q.2.2 rfl
        rw [spr_m c0 hr]
        have w := ih e o.1.2
        refine ⟨w.1, fun q2 k => ?_, Nat.succ_le_succ w.2.2⟩
        rcases List.mem_cons.mp k with rfl | k
        · exact oq
        · exact w.2.1 q2 k
    · rw [spr_z c0]
      exact ⟨hp, (fun q k => by cases k), Nat.zero_le _⟩
/-- cells A, B, C from k on hold the points -/
def cP (g : gm_T) (A B C k : Nat) (l : ptl) : Prop := ∀ i q, l[i]? = some q → gm_I g A (k + i) = q.1 ∧ gm_I g B (k + i) = q.2.1 ∧ gm_I g C (k + i) = q.2.2
theorem cP_nil {g : gm_T} {A B C k : Nat} : cP g A B C k [] := fun i q h => by cases h
theorem cP_cons {g : gm_T} {A B C k : Nat} {q : Int × Int × Int} {l : ptl} (h1 : gm_I g A k = q.1 ∧ gm_I g B k = q.2.1 ∧ gm_I g C k = q.2.2) (h2 : cP g A B C (k + 1) l) : cP g A B C k (q :: l) := fun i q2 h => by
  cases i with
  | zero => cases h; exact h1
  | succ i =>
    rw [List.getElem?_cons_succ] at h
    have := h2 i q2 h
    rw [show k + (i + 1) = k + 1 + i from by omega]
    exact this
def W_ck (a k : Nat) : Bool := (a == 3 && (k == 1 || k == 2 || k == 3)) || (a == 4 || a == 5 || a == 6)
def W_cs (a k : Nat) : Bool := (a == 3 && (k == 1 || k == 2 || k == 7)) || (a == 7 || a == 8 || a == 9)
theorem W_p4_cc {k : Nat} {g g2 : gm_T} (x : exc (W_p4 k) nob g g2) : exc W_ck nob g g2 := exc_mono x (fun a j q => by
  unfold W_p4 at q
  unfold W_ck
  simp only [Bool.or_eq_true, Bool.and_eq_true] at q ⊢
  rcases q with ⟨q1, q2⟩ | ⟨q1, q2⟩
  · exact Or.inl ⟨q1, Or.inl q2⟩
  · exact Or.inr q1) (fun a j q => by cases q)
theorem W_p7_cs {k : Nat} {g g2 : gm_T} (x : exc (W_p7 k) nob g g2) : exc W_cs nob g g2 := exc_mono x (fun a j q => by
  unfold W_p7 at q
  unfold W_cs
  simp only [Bool.or_eq_true, Bool.and_eq_true] at q ⊢
  rcases q with ⟨q1, q2⟩ | ⟨q1, q2⟩
  · exact Or.inl ⟨q1, Or.inl q2⟩
  · exact Or.inr q1) (fun a j q => by cases q)
/-- what the class's reading of a list of points ends with -/
def cRes (W : Nat → Nat → Bool) (A B C F k : Nat) (g g2 : gm_T) (u : ptl × Nat × Bool) (r : gm_T ⊕ (Int × gm_T)) (ft : Bool) : Prop := exc W nob g g2 ∧ gm_I g2 3 1 = (u.2.1 : Int) ∧ cP g2 A B C k u.1 ∧ (∀ j, j < k → gm_I g2 A j = gm_I g A j ∧ gm_I g2 B j = gm_I g B j ∧ gm_I g2 C j = gm_I g C j) ∧ ((r = .inr ((u.2.1 : Int), g2) ∧ u.2.2 = true) ∨ (r = .inl g2 ∧ gm_I g2 3 F = ((k + u.1.length : Nat) : Int) ∧ u.2.2 = ft))
theorem ck_l15_rd {t : Nat → Int} {L : Nat} : ∀ (f fuel k p : Nat) (g : gm_T), f < fuel → k + f + 1 = 8 → isTc g L t → gm_I g 3 1 = (p : Int) → p ≤ L → gm_I g 3 3 = (k : Int) → ∃ r g2, (jb2 (ck_readPoint_4 g 58 (gm_I g 3 3)) fun (v7 : Int) (g8 : gm_T) => jg (rg v7) (if v7 = 0 then (some (Sum.inr ((gm_I g8 3 1), g8))) else (jl (gm_wI g8 3 3 ((gm_I g8 3 3) + 1)) fun (g10 : gm_T) => ck_readTape_l15 fuel g10))) = some r ∧ cRes W_ck 4 5 6 3 k g g2 (cpr t (f + 1) p) r (decide (k + (cpr t (f + 1) p).1.length < 3)) := by
  intro f
  induction f with
  | zero =>
    intro fuel k p g hfu hkf hT h1 hp h3
    obtain ⟨fuel, rfl⟩ : ∃ z, fuel = z + 1 := ⟨fuel - 1, by omega⟩
    obtain ⟨g8, e8, x8, y8, z8⟩ := ck_readPoint_4_eq hT h1 hp (c := 58) (rgk rfl) (by decide) (k := k) (by omega)
    have fr : ∀ j, j < k → gm_I g8 4 j = gm_I g 4 j ∧ gm_I g8 5 j = gm_I g 5 j ∧ gm_I g8 6 j = gm_I g 6 j := fun j hj => by
      have q : (j == k) = false := beq_eq_false_iff_ne.mpr (by omega)
      exact ⟨x8.1 4 j (by unfold W_p4; rw [q]; rfl), x8.1 5 j (by unfold W_p4; rw [q]; rfl), x8.1 6 j (by unfold W_p4; rw [q]; rfl)⟩
    have X8 : exc W_ck nob g g8 := W_p4_cc x8
    have c8 : gm_I g8 3 3 = (k : Int) := by rw [x8.1 3 3 rfl]; exact h3
    rcases hr : pnt 58 t p with ⟨_ | q, e⟩
    · rw [hr] at e8 y8
      replace e8 : ck_readPoint_4 g 58 (k : Int) = some (0, g8) := e8
      replace y8 : gm_I g8 3 1 = (e : Int) := y8
      rw [h3, e8, jb2_some, jg_pos (rgk rfl), if_pos rfl, y8, cpr_n hr]
      exact ⟨_, g8, rfl, X8, y8, cP_nil, fr, Or.inl ⟨rfl, rfl⟩⟩
    rw [hr] at e8 y8 z8
    have eL : e ≤ L := by have := (pnt_ok (c := 58) hT.2.2.2 hp (by decide)).1.2; rw [hr] at this; exact this
    replace e8 : ck_readPoint_4 g 58 (k : Int) = some (1, g8) := e8
    replace y8 : gm_I g8 3 1 = (e : Int) := y8
    have z8 := z8 q.1 q.2.1 q.2.2 rfl
    rw [h3, e8, jb2_some, jg_pos (rgk rfl), if_neg n10, jl_eq, c8]
    have X10 : exc W_ck nob g (gm_wI g8 3 3 ((k : Int) + 1)) := exc_wI X8 rfl
    have T10 := isTc_rc (fun _ => rfl) rfl X10 hT
    have c10 : gm_I (gm_wI g8 3 3 ((k : Int) + 1)) 3 3 = ((k + 1 : Nat) : Int) := gI_eq
    have p10 : gm_I (gm_wI g8 3 3 ((k : Int) + 1)) 3 1 = (e : Int) := by rw [gI_ne (by decide)]; exact y8
    have hs : ∀ A j, A ≠ 3 → gm_I (gm_wI g8 3 3 ((k : Int) + 1)) A j = gm_I g8 A j := fun A j hA => gI_oth hA
    have fr10 : ∀ j, j < k → gm_I (gm_wI g8 3 3 ((k : Int) + 1)) 4 j = gm_I g 4 j ∧ gm_I (gm_wI g8 3 3 ((k : Int) + 1)) 5 j = gm_I g 5 j ∧ gm_I (gm_wI g8 3 3 ((k : Int) + 1)) 6 j = gm_I g 6 j := fun j hj => by
      rw [hs 4 j (by decide), hs 5 j (by decide), hs 6 j (by decide)]; exact fr j hj
    have z10 : gm_I (gm_wI g8 3 3 ((k : Int) + 1)) 4 k = q.1 ∧ gm_I (gm_wI g8 3 3 ((k : Int) + 1)) 5 k = q.2.1 ∧ gm_I (gm_wI g8 3 3 ((k : Int) + 1)) 6 k = q.2.2 := by
      rw [hs 4 k (by decide), hs 5 k (by decide), hs 6 k (by decide)]; exact z8
    unfold ck_readTape_l15
    rw [c10, jg_pos (rgn (by omega))]
    rw [if_neg (by omega), cpr_e hr (fun z => absurd z.1 (Nat.lt_irrefl 0))]
    exact ⟨_, _, rfl, X10, p10, cP_cons z10 cP_nil, fr10, Or.inr ⟨rfl, c10, by show decide (5 < 0) = decide (k + 1 < 3); rw [decide_eq_decide]; omega⟩⟩
  | succ f ih =>
    intro fuel k p g hfu hkf hT h1 hp h3
    obtain ⟨fuel, rfl⟩ : ∃ z, fuel = z + 1 := ⟨fuel - 1, by omega⟩
    obtain ⟨g8, e8, x8, y8, z8⟩ := ck_readPoint_4_eq hT h1 hp (c := 58) (rgk rfl) (by decide) (k := k) (by omega)
    have fr : ∀ j, j < k → gm_I g8 4 j = gm_I g 4 j ∧ gm_I g8 5 j = gm_I g 5 j ∧ gm_I g8 6 j = gm_I g 6 j := fun j hj => by
      have q : (j == k) = false := beq_eq_false_iff_ne.mpr (by omega)
      exact ⟨x8.1 4 j (by unfold W_p4; rw [q]; rfl), x8.1 5 j (by unfold W_p4; rw [q]; rfl), x8.1 6 j (by unfold W_p4; rw [q]; rfl)⟩
    have X8 : exc W_ck nob g g8 := W_p4_cc x8
    have c8 : gm_I g8 3 3 = (k : Int) := by rw [x8.1 3 3 rfl]; exact h3
    rcases hr : pnt 58 t p with ⟨_ | q, e⟩
    · rw [hr] at e8 y8
      replace e8 : ck_readPoint_4 g 58 (k : Int) = some (0, g8) := e8
      replace y8 : gm_I g8 3 1 = (e : Int) := y8
      rw [h3, e8, jb2_some, jg_pos (rgk rfl), if_pos rfl, y8, cpr_n hr]
      exact ⟨_, g8, rfl, X8, y8, cP_nil, fr, Or.inl ⟨rfl, rfl⟩⟩
    rw [hr] at e8 y8 z8
    have eL : e ≤ L := by have := (pnt_ok (c := 58) hT.2.2.2 hp (by decide)).1.2; rw [hr] at this; exact this
    replace e8 : ck_readPoint_4 g 58 (k : Int) = some (1, g8) := e8
    replace y8 : gm_I g8 3 1 = (e : Int) := y8
    have z8 := z8 q.1 q.2.1 q.2.2 rfl
    rw [h3, e8, jb2_some, jg_pos (rgk rfl), if_neg n10, jl_eq, c8]
    have X10 : exc W_ck nob g (gm_wI g8 3 3 ((k : Int) + 1)) := exc_wI X8 rfl
    have T10 := isTc_rc (fun _ => rfl) rfl X10 hT
    have c10 : gm_I (gm_wI g8 3 3 ((k : Int) + 1)) 3 3 = ((k + 1 : Nat) : Int) := gI_eq
    have p10 : gm_I (gm_wI g8 3 3 ((k : Int) + 1)) 3 1 = (e : Int) := by rw [gI_ne (by decide)]; exact y8
    have hs : ∀ A j, A ≠ 3 → gm_I (gm_wI g8 3 3 ((k : Int) + 1)) A j = gm_I g8 A j := fun A j hA => gI_oth hA
    have fr10 : ∀ j, j < k → gm_I (gm_wI g8 3 3 ((k : Int) + 1)) 4 j = gm_I g 4 j ∧ gm_I (gm_wI g8 3 3 ((k : Int) + 1)) 5 j = gm_I g 5 j ∧ gm_I (gm_wI g8 3 3 ((k : Int) + 1)) 6 j = gm_I g 6 j := fun j hj => by
      rw [hs 4 j (by decide), hs 5 j (by decide), hs 6 j (by decide)]; exact fr j hj
    have z10 : gm_I (gm_wI g8 3 3 ((k : Int) + 1)) 4 k = q.1 ∧ gm_I (gm_wI g8 3 3 ((k : Int) + 1)) 5 k = q.2.1 ∧ gm_I (gm_wI g8 3 3 ((k : Int) + 1)) 6 k = q.2.2 := by
      rw [hs 4 k (by decide), hs 5 k (by decide), hs 6 k (by decide)]; exact z8
    unfold ck_readTape_l15
    rw [c10, jg_pos (rgn (by omega))]
    rw [if_pos (by omega), if_neg (by omega), ck_skip_eq T10 p10 eL (rgk rfl), jb2_some]
    by_cases c : t e = 59
    · have e1 : e + 1 ≤ L := qlt_L hT.2.2.2 (p := e) (by omega)
      rw [if_pos c, if_pos c, jg_pos (rgk rfl), if_neg n10, cpr_m hr ⟨Nat.succ_pos f, c⟩]
      have X12 : exc W_ck nob g (gm_wI (gm_wI g8 3 3 ((k : Int) + 1)) 3 1 ((e : Int) + 1)) := exc_wI X10 rfl
      obtain ⟨r, g2, er, xr, yr, zr, fr2, wr⟩ := ih fuel (k + 1) (e + 1) (gm_wI (gm_wI g8 3 3 ((k : Int) + 1)) 3 1 ((e : Int) + 1)) (by omega) (by omega) (isTc_rc (fun _ => rfl) rfl X12 hT) gI_eq e1 (by rw [gI_ne (by decide)]; exact c10)
      have hs2 : ∀ A j, A ≠ 3 → gm_I (gm_wI (gm_wI g8 3 3 ((k : Int) + 1)) 3 1 ((e : Int) + 1)) A j = gm_I (gm_wI g8 3 3 ((k : Int) + 1)) A j := fun A j hA => gI_oth hA
      refine ⟨r, g2, er, exc_tr X12 xr, yr, cP_cons ?_ zr, fun j hj => ?_, ?_⟩
      · have w := fr2 k (by omega)
        rw [w.1, w.2.1, w.2.2, hs2 4 k (by decide), hs2 5 k (by decide), hs2 6 k (by decide)]
        exact z10
      · have w := fr2 j (by omega)
        rw [w.1, w.2.1, w.2.2, hs2 4 j (by decide), hs2 5 j (by decide), hs2 6 j (by decide)]
        exact fr10 j hj
      · have hl : k + 1 + (cpr t (f + 1) (e + 1)).1.length = k + (q :: (cpr t (f + 1) (e + 1)).1).length := by rw [List.length_cons]; omega
        rw [hl] at wr
        exact wr
    · rw [if_neg c, if_neg c, jg_pos (rgk rfl), if_pos rfl, cpr_e hr (fun z => c z.2)]
      exact ⟨_, _, rfl, X10, p10, cP_cons z10 cP_nil, fr10, Or.inr ⟨rfl, c10, by show decide (5 < f + 1) = decide (k + 1 < 3); rw [decide_eq_decide]; omega⟩⟩
