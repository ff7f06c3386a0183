/-! A bit's text: the class reads it all. -/
theorem ck_l96_eq {t : Nat → Int} {L : Nat} : ∀ (f fuel k p : Nat) (g : gm_T), f < fuel → k + f = 5 → isTc g L t → gm_I g 3 1 = (p : Int) → p ≤ L → gm_I g 3 7 = (k : Int) → ∃ r g2, ck_readTape_l96 fuel g = some r ∧ cRes W_cs 7 8 9 7 k g g2 (spr t f p) r false := by
  intro f
  induction f with
  | zero =>
    intro fuel k p g hfu hkf hT h1 hp h3
    obtain ⟨fuel, rfl⟩ : ∃ z, fuel = z + 1 := ⟨fuel - 1, by omega⟩
    unfold ck_readTape_l96
    rw [h3, jg_pos (rgn (by omega)), if_neg (by omega)]
    exact ⟨_, g, rfl, exc_rf, h1, cP_nil, fun j hj => ⟨rfl, rfl, rfl⟩, Or.inr ⟨rfl, h3, rfl⟩⟩
  | succ f ih =>
    intro fuel k p g hfu hkf hT h1 hp h3
    obtain ⟨fuel, rfl⟩ : ∃ z, fuel = z + 1 := ⟨fuel - 1, by omega⟩
    unfold ck_readTape_l96
    rw [h3, jg_pos (rgn (by omega)), if_pos (by omega), ck_skip_eq hT h1 hp (rgk rfl), jb2_some]
    by_cases c : t p = 124
    rotate_left
    · rw [if_neg c, if_neg c, jg_pos (rgk rfl), if_pos rfl, spr_z c]
      exact ⟨_, g, rfl, exc_rf, h1, cP_nil, fun j hj => ⟨rfl, rfl, rfl⟩, Or.inr ⟨rfl, h3, rfl⟩⟩
    have p1 : p + 1 ≤ L := qlt_L hT.2.2.2 (p := p) (by omega)
    rw [if_pos c, if_pos c, jg_pos (rgk rfl), if_neg n10]
    have X4 : exc W_cs nob g (gm_wI g 3 1 ((p : Int) + 1)) := exc_wI exc_rf rfl
    have T4 := isTc_rc (fun _ => rfl) rfl X4 hT
    have c4 : gm_I (gm_wI g 3 1 ((p : Int) + 1)) 3 7 = (k : Int) := by rw [gI_ne (by decide)]; exact h3
    have hs4 : ∀ A j, A ≠ 3 → gm_I (gm_wI g 3 1 ((p : Int) + 1)) A j = gm_I g A j := fun A j hA => gI_oth hA
    obtain ⟨g8, e8, x8, y8, z8⟩ := ck_readPoint_7_eq T4 (p := p + 1) gI_eq p1 (c := 61) (rgk rfl) (by decide) (k := k) (by omega)
    have fr : ∀ j, j < k → gm_I g8 7 j = gm_I g 7 j ∧ gm_I g8 8 j = gm_I g 8 j ∧ gm_I g8 9 j = gm_I g 9 j := fun j hj => by
      have q : (j == k) = false := beq_eq_false_iff_ne.mpr (by omega)
      rw [← hs4 7 j (by decide), ← hs4 8 j (by decide), ← hs4 9 j (by decide)]
      exact ⟨x8.1 7 j (by unfold W_p7; rw [q]; rfl), x8.1 8 j (by unfold W_p7; rw [q]; rfl), x8.1 9 j (by unfold W_p7; rw [q]; rfl)⟩
    have X8 : exc W_cs nob g g8 := exc_tr X4 (W_p7_cs x8)
    have c8 : gm_I g8 3 7 = (k : Int) := by rw [x8.1 3 7 rfl]; exact c4
    rw [c4]
    rcases hr : pnt 61 t (p + 1) with ⟨_ | q, e⟩
    · rw [hr] at e8 y8
      replace e8 : ck_readPoint_7 (gm_wI g 3 1 ((p : Int) + 1)) 61 (k : Int) = some (0, g8) := e8
      replace y8 : gm_I g8 3 1 = (e : Int) := y8
      rw [e8, jb2_some, jg_pos (rgk rfl), if_pos rfl, y8, spr_n c hr]
      exact ⟨_, g8, rfl, X8, y8, cP_nil, fr, Or.inl ⟨rfl, rfl⟩⟩
    rw [hr] at e8 y8 z8
    have eL : e ≤ L := by have := (pnt_ok (c := 61) hT.2.2.2 p1 (by decide)).1.2; rw [hr] at this; exact this
    replace e8 : ck_readPoint_7 (gm_wI g 3 1 ((p : Int) + 1)) 61 (k : Int) = some (1, g8) := e8
    replace y8 : gm_I g8 3 1 = (e : Int) := y8
    have z8 := z8 q.1 q.2.1 q.2.2 rfl
    rw [e8, jb2_some, jg_pos (rgk rfl), if_neg n10, jl_eq, c8, spr_m c hr]
    have X10 : exc W_cs nob g (gm_wI g8 3 7 ((k : Int) + 1)) := exc_wI X8 rfl
    have hs : ∀ A j, A ≠ 3 → gm_I (gm_wI g8 3 7 ((k : Int) + 1)) A j = gm_I g8 A j := fun A j hA => gI_oth hA
    obtain ⟨r, g2, er, xr, yr, zr, fr2, wr⟩ := ih fuel (k + 1) e (gm_wI g8 3 7 ((k : Int) + 1)) (by omega) (by omega) (isTc_rc (fun _ => rfl) rfl X10 hT) (by rw [gI_ne (by decide)]; exact y8) eL gI_eq
    refine ⟨r, g2, er, exc_tr X10 xr, yr, cP_cons ?_ zr, fun j hj => ?_, ?_⟩
    · have w := fr2 k (by omega)
      rw [w.1, w.2.1, w.2.2, hs 7 k (by decide), hs 8 k (by decide), hs 9 k (by decide)]
      exact z8
    · have w := fr2 j (by omega)
      rw [w.1, w.2.1, w.2.2, hs 7 j (by decide), hs 8 j (by decide), hs 9 j (by decide)]
      exact fr j hj
    · have hl : k + 1 + (spr t f e).1.length = k + (q :: (spr t f e).1).length := by rw [List.length_cons]; omega
      rw [hl] at wr
      exact wr
/-- the FAULT of a text of length L, if there is one -/
noncomputable def bflt (t : Nat → Int) (L : Nat) : Option Nat := if (cpr t 8 0).2.2 = true then some (cpr t 8 0).2.1 else if (spr t 5 (cpr t 8 0).2.1).2.2 = true then some (spr t 5 (cpr t 8 0).2.1).2.1 else if (spr t 5 (cpr t 8 0).2.1).2.1 = L then none else some (spr t 5 (cpr t 8 0).2.1).2.1
noncomputable def bcor (t : Nat → Int) : ptl := (cpr t 8 0).1
noncomputable def bspt (t : Nat → Int) : ptl := (spr t 5 (cpr t 8 0).2.1).1
def W_ct (a k : Nat) : Bool := (a == 3 && (k == 1 || k == 2 || k == 3 || k == 7)) || (a == 4 || a == 5 || a == 6) || (a == 7 || a == 8 || a == 9)
theorem W_ck_ct {g g2 : gm_T} (x : exc W_ck nob g g2) : exc W_ct nob g g2 := exc_mono x (fun a j q => by
  unfold W_ck at q
  unfold W_ct
  simp only [Bool.or_eq_true, Bool.and_eq_true] at q ⊢
  rcases q with ⟨q1, q2⟩ | q
  · exact Or.inl (Or.inl ⟨q1, Or.inl q2⟩)
  · exact Or.inl (Or.inr q)) (fun a j q => by cases q)
theorem W_cs_ct {g g2 : gm_T} (x : exc W_cs nob g g2) : exc W_ct nob g g2 := exc_mono x (fun a j q => by
  unfold W_cs at q
  unfold W_ct
  simp only [Bool.or_eq_true, Bool.and_eq_true] at q ⊢
  rcases q with ⟨q1, q2⟩ | q
  · exact Or.inl (Or.inl ⟨q1, by rcases q2 with (q2 | q2) | q2 <;> simp [q2]⟩)
  · exact Or.inr q) (fun a j q => by cases q)
theorem ck_readTape_eq {g : gm_T} {L : Nat} {t : Nat → Int} (hT : isTc g L t) : ∃ r g2, ck_readTape g = some (r, g2) ∧ exc W_ct nob g g2 ∧ ((∃ e : Nat, bflt t L = some e ∧ r = (e : Int)) ∨ (bflt t L = none ∧ r = -1 ∧ cP g2 4 5 6 0 (bcor t) ∧ cP g2 7 8 9 0 (bspt t) ∧ gm_I g2 3 3 = ((bcor t).length : Int) ∧ gm_I g2 3 7 = ((bspt t).length : Int) ∧ 3 ≤ (bcor t).length)) := by
  have L240 := hT.2.1
  have hE := hT.2.2.2
  unfold ck_readTape
  rw [jl_eq, jl_eq, jl_eq]
  have X3 : exc W_ct nob g (gm_wI (gm_wI (gm_wI g 3 1 0) 3 3 0) 3 7 0) := exc_wI (exc_wI (exc_wI exc_rf rfl) rfl) rfl
  have T3 := isTc_rc (fun _ => rfl) rfl X3 hT
  have k3 : gm_I (gm_wI (gm_wI (gm_wI g 3 1 0) 3 3 0) 3 7 0) 3 3 = ((0 : Nat) : Int) := by rw [gI_ne (by decide), gI_eq]; rfl
  have p3 : gm_I (gm_wI (gm_wI (gm_wI g 3 1 0) 3 3 0) 3 7 0) 3 1 = ((0 : Nat) : Int) := by rw [gI_ne (by decide), gI_ne (by decide), gI_eq]; rfl
  have s3 : gm_I (gm_wI (gm_wI (gm_wI g 3 1 0) 3 3 0) 3 7 0) 3 7 = ((0 : Nat) : Int) := by rw [gI_eq]; rfl
  generalize gm_wI (gm_wI (gm_wI g 3 1 0) 3 3 0) 3 7 0 = g3 at *
  obtain ⟨r, g2, er, xr, yr, zr, -, wr⟩ := ck_l15_rd (L := L) 7 99999 0 0 g3 (by decide) rfl T3 p3 (Nat.zero_le _) k3
  rw [show (7 + 1 : Nat) = 8 from rfl] at yr zr wr
  have e1 : ck_readTape_l15 fz g3 = some r := by
    rw [← er]
    show ck_readTape_l15 (99999 + 1) g3 = _
    rw [ck_readTape_l15, k3, jg_pos (rgk rfl), if_pos (by decide), if_pos (show ((0 : Nat) : Int) = 0 from rfl)]
  rw [e1]
  have cok := cpr_ok hE 8 0 (Nat.zero_le _)
  rcases wr with ⟨rfl, w2⟩ | ⟨rfl, w1, w2⟩
  · rw [jc1_inr]
    exact ⟨_, g2, rfl, exc_tr X3 (W_ck_ct xr), Or.inl ⟨_, by unfold bflt; rw [if_pos w2], rfl⟩⟩
  rw [jc1_inl, w1]
  have h8 := cok.2.2
  rw [Nat.zero_add] at w1 w2 ⊢
  rw [jg_pos (rgn (by omega))]
  by_cases c3 : (cpr t 8 0).1.length < 3
  · rw [if_pos (by omega), yr]
    have w3 : (cpr t 8 0).2.2 = true := by rw [w2]; exact decide_eq_true c3
    exact ⟨_, g2, rfl, exc_tr X3 (W_ck_ct xr), Or.inl ⟨_, by unfold bflt; rw [if_pos w3], rfl⟩⟩
  have w3 : ¬ (cpr t 8 0).2.2 = true := by rw [w2]; exact fun k => c3 (of_decide_eq_true k)
  rw [if_neg (by omega)]
  have X2 := exc_tr X3 (W_ck_ct xr)
  have T2 := isTc_rc (fun _ => rfl) rfl X2 hT
  have s2 : gm_I g2 3 7 = ((0 : Nat) : Int) := by rw [xr.1 3 7 rfl]; exact s3
  obtain ⟨r, g4, e4, x4, y4, z4, -, v4⟩ := ck_l96_eq (L := L) 5 fz 0 (cpr t 8 0).2.1 g2 (fz_gt rfl) rfl T2 yr cok.1 s2
  rw [e4]
  have sok := spr_ok hE 5 (cpr t 8 0).2.1 cok.1
  have X4 := exc_tr X2 (W_cs_ct x4)
  rcases v4 with ⟨rfl, v2⟩ | ⟨rfl, v1, v2⟩
  · rw [jc1_inr]
    exact ⟨_, g4, rfl, X4, Or.inl ⟨_, by unfold bflt; rw [if_neg w3, if_pos v2], rfl⟩⟩
  have v3 : ¬ (spr t 5 (cpr t 8 0).2.1).2.2 = true := by rw [v2]; decide
  have t4 : gm_I g4 1 0 = (L : Int) := by rw [X4.1 1 0 rfl]; exact hT.1
  rw [jc1_inl, y4, t4, jg_pos ⟨rgn (by have := sok.1; omega), rgn (by omega)⟩]
  by_cases c5 : (spr t 5 (cpr t 8 0).2.1).2.1 = L
  · rw [if_pos (by rw [c5])]
    refine ⟨_, g4, rfl, X4, Or.inr ⟨by unfold bflt; rw [if_neg w3, if_neg v3, if_pos c5], rfl, ?_, z4, ?_, ?_, by unfold bcor; omega⟩⟩
    · intro i q hq
      have := zr i q hq
      rw [x4.1 4 _ rfl, x4.1 5 _ rfl, x4.1 6 _ rfl]
      exact this
    · rw [x4.1 3 3 rfl]; exact w1
    · rw [v1, Nat.zero_add]; rfl
  · rw [if_neg (by omega)]
    exact ⟨_, g4, rfl, X4, Or.inl ⟨_, by unfold bflt; rw [if_neg w3, if_neg v3, if_neg c5], rfl⟩⟩
