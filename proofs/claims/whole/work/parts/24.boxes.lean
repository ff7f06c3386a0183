/-! Entries of boxes: enter, box. -/
def V_box (n : Nat) (g : gm_T) : Prop := (gm_I g 32 0 = gm_I g 44 87 ∧ 0 ≤ gm_I g 44 87 ∧ gm_I g 44 87 ≤ 100) ∧ ∀ k : Nat, (k : Int) < gm_I g 44 87 → (gm_I g 33 k = gm_I g 104 k ∧ 0 ≤ gm_I g 104 k ∧ gm_I g 104 k < (n : Int)) ∧ (gm_I g 34 k = gm_I g 105 k ∧ -1 ≤ gm_I g 105 k ∧ gm_I g 105 k ≤ 9) ∧ (gm_I g 35 k = gm_I g 106 k ∧ 0 ≤ gm_I g 106 k ∧ gm_I g 106 k ≤ 999)
def W_box (a k : Nat) : Bool := (a == 32 && k == 0) || (a == 44 && k == 87) || a == 33 || a == 34 || a == 35 || a == 104 || a == 105 || a == 106
theorem op_enter {n : Nat} {g : gm_T} (hn : V_num n g) (h : V_box n g) {a b c : Int} (ha : rg a) (hb : rg b) (hc : rg c) : ∃ r g1 g2, cw_enter g a b c = some (r, g1) ∧ md_enter g1 a b c = some (r, g2) ∧ V_box n g2 ∧ exc W_box nob g g2 := by
  obtain ⟨⟨q1, q2, q3⟩, q4⟩ := id h
  have h30 := hn.2.2
  unfold cw_enter
  simp only [cw_isBit_eq hn ha, cw_isDay_eq hc, jb_tst, jg_pos hb]
  by_cases h1 : 0 ≤ a ∧ a < (n : Int)
  · by_cases h2 : -1 ≤ b ∧ b ≤ 9
    · by_cases h3 : 0 ≤ c ∧ c ≤ 999
      · rw [if_pos h1, if_neg (by omega), if_pos (by omega), if_pos h3]
        have hrc : rg (gm_I g 44 87) := ⟨by omega, by omega⟩
        have hfull : cx_isFull g = some (if gm_I g 44 87 = 100 then 1 else 0) := by
          unfold cx_isFull
          rw [q1, jg_pos hrc]
          by_cases hq : gm_I g 44 87 = 100
          · rw [if_neg (by omega), if_pos hq]
          · rw [if_pos (by omega), if_neg hq]
        rw [hfull, jb_tst]
        by_cases h4 : gm_I g 44 87 = 100
        · rw [if_pos h4]
          refine ⟨-4, g, g, rfl, ?_, h, exc_rf⟩
          unfold md_enter
          simp only [md_isBit_eq hn ha, md_in_eq hb (rgk rfl : rg (-1)) (rgk rfl : rg 9), md_in_eq hc (rgk rfl : rg 0) (rgk rfl : rg 999), jb_tst]
          rw [if_pos h1, if_pos h2, if_pos h3, jg_pos hrc, if_pos h4]
        · rw [if_neg h4]
          unfold cx_addEntry
          rw [hfull, jb_tst, if_neg h4, q1, jg_pos (by omega)]
          simp only [jl_eq, gI_wI, q1]
          simp only [show ((32 : Nat) = 33) = False from by simp, show ((32 : Nat) = 34) = False from by simp, show ((32 : Nat) = 35) = False from by simp, if_false, if_true, q1]
          rw [jg_pos (by omega), jg_pos (by omega)]
          generalize hk : (gm_I g 44 87).toNat = k
          have hke : gm_I g 44 87 = (k : Int) := by omega
          refine ⟨gm_I g 44 87 + 1, gm_wI (gm_wI (gm_wI (gm_wI g 33 k a) 34 k b) 35 k c) 32 0 (gm_I g 44 87 + 1), gm_wI (gm_wI (gm_wI (gm_wI (gm_wI (gm_wI (gm_wI (gm_wI g 33 k a) 34 k b) 35 k c) 32 0 (gm_I g 44 87 + 1)) 104 k a) 105 k b) 106 k c) 44 87 (gm_I g 44 87 + 1), rfl, ?_, ?_, ?_⟩
          · have hn2 : V_num n (gm_wI (gm_wI (gm_wI (gm_wI g 33 k a) 34 k b) 35 k c) 32 0 (gm_I g 44 87 + 1)) := hn
            unfold md_enter
            simp only [md_isBit_eq hn2 ha, md_in_eq hb (rgk rfl : rg (-1)) (rgk rfl : rg 9), md_in_eq hc (rgk rfl : rg 0) (rgk rfl : rg 999), jb_tst]
            rw [if_pos h1, if_pos h2, if_pos h3]
            simp only [jl_eq, gI_wI]
            simp only [Nat.reduceEqDiff, if_false, if_true]
            rw [jg_pos hrc, if_neg h4, jg_pos (by omega), jg_pos (by omega), jg_pos (by omega), hk]
          · unfold V_box
            simp only [gI_wI]
            simp only [Nat.reduceEqDiff, if_false, if_true]
            refine ⟨⟨trivial, by omega, by omega⟩, fun j hj => ?_⟩
            by_cases hjk : j = k
            · subst hjk
              simp only [if_true]
              exact ⟨⟨trivial, h1⟩, ⟨trivial, h2⟩, ⟨trivial, h3⟩⟩
            · simp only [hjk, if_false]
              exact q4 j (by omega)
          · exact exc_wI (exc_wI (exc_wI (exc_wI (exc_wI (exc_wI (exc_wI (exc_wI exc_rf rfl) rfl) rfl) rfl) rfl) rfl) rfl) rfl
      · rw [if_pos h1, if_neg (by omega), if_pos (by omega), if_neg h3]
        refine ⟨-2, g, g, rfl, ?_, h, exc_rf⟩
        unfold md_enter
        simp only [md_isBit_eq hn ha, md_in_eq hb (rgk rfl : rg (-1)) (rgk rfl : rg 9), md_in_eq hc (rgk rfl : rg 0) (rgk rfl : rg 999), jb_tst]
        rw [if_pos h1, if_pos h2, if_neg h3]
    · rw [if_pos h1]
      refine ⟨-1, g, g, ?_, ?_, h, exc_rf⟩
      · by_cases h5 : b < -1
        · rw [if_pos h5]
        · rw [if_neg h5, if_neg (by omega)]
      · unfold md_enter
        simp only [md_isBit_eq hn ha, md_in_eq hb (rgk rfl : rg (-1)) (rgk rfl : rg 9), jb_tst]
        rw [if_pos h1, if_neg h2]
  · rw [if_neg h1]
    refine ⟨-1, g, g, rfl, ?_, h, exc_rf⟩
    unfold md_enter
    simp only [md_isBit_eq hn ha, jb_tst]
    rw [if_neg h1]
/-- the box at a day by the first e entries: the latest entry of the bit up to that day, of several the last one -/
def bx_at (g : gm_T) (bit day : Int) : Nat → Int × Int
  | 0 => (-1, -1)
  | e + 1 => let p := bx_at g bit day e
    if gm_I g 104 e = bit ∧ gm_I g 106 e ≤ day ∧ p.2 ≤ gm_I g 106 e then (gm_I g 105 e, gm_I g 106 e) else p
theorem bx_ge (g : gm_T) (bit day : Int) : ∀ e, -1 ≤ (bx_at g bit day e).2
  | 0 => by unfold bx_at; exact Int.le_refl _
  | e + 1 => by
    have h := bx_ge g bit day e
    unfold bx_at
    dsimp only
    split
    · omega
    · exact h
theorem bx_in {n : Nat} {g : gm_T} (h : V_box n g) (bit day : Int) : ∀ e : Nat, (e : Int) ≤ gm_I g 44 87 → (bx_at g bit day e).2 ≤ 999 ∧ -1 ≤ (bx_at g bit day e).1 ∧ (bx_at g bit day e).1 ≤ 9
  | 0, _ => by unfold bx_at; decide
  | e + 1, he => by
    have h1 := bx_in h bit day e (by omega)
    obtain ⟨-, ⟨b1, b2, b3⟩, c1, c2, c3⟩ := h.2 e (by omega)
    unfold bx_at
    dsimp only
    split
    · exact ⟨c3, b2, b3⟩
    · exact h1
theorem cx_boxOf_lp {n : Nat} {g : gm_T} (h30 : n ≤ 30) (h : V_box n g) {bit day e : Int} (hb : rg bit) (hd : rg day) (he : 0 ≤ e ∧ e ≤ gm_I g 44 87) : ∀ (fuel k : Nat), (k : Int) ≤ e → e.toNat < fuel + k → cx_boxOf_l9 g bit day e fuel (bx_at g bit day k).1 (bx_at g bit day k).2 (k : Int) = some (bx_at g bit day e.toNat).1 := by
  obtain ⟨⟨q1, q2, q3⟩, q4⟩ := id h
  intro fuel
  induction fuel with
  | zero => intro k h1 h2; omega
  | succ fuel ih =>
    intro k h1 h2
    unfold cx_boxOf_l9
    rw [jg_pos (show rg (k : Int) ∧ rg e from ⟨⟨by omega, by omega⟩, by omega, by omega⟩), q1, jg_pos (show rg (gm_I g 44 87) from ⟨by omega, by omega⟩)]
    by_cases hk : (k : Int) < e
    · obtain ⟨⟨a1, a2, a3⟩, ⟨b1, b2, b3⟩, c1, c2, c3⟩ := q4 k (by omega)
      have hge := bx_ge g bit day k
      have hle := (bx_in h bit day k (by omega)).1
      have i1 := ih (k + 1) (by omega) (by omega)
      rw [show ((k + 1 : Nat) : Int) = (k : Int) + 1 by omega] at i1
      rw [if_pos hk, if_pos (by omega), jg_pos (by omega), Int.toNat_natCast, a1, b1, c1, jg_pos (show rg (gm_I g 104 k) ∧ rg bit from ⟨⟨by omega, by omega⟩, hb⟩), jg_pos (show rg (gm_I g 106 k) ∧ rg day from ⟨⟨by omega, by omega⟩, hd⟩), jg_pos (show rg (bx_at g bit day k).2 from ⟨by omega, by omega⟩)]
      rw [← i1]
      simp only [jl_eq]
      conv => rhs; unfold bx_at
      dsimp only
      by_cases e1 : gm_I g 104 k = bit
      · rw [if_pos e1]
        by_cases e2 : gm_I g 106 k ≤ day
        · rw [if_pos e2]
          by_cases e3 : gm_I g 106 k < (bx_at g bit day k).2
          · rw [if_pos e3, if_neg (by omega)]
          · rw [if_neg e3, if_pos ⟨e1, e2, by omega⟩]
        · rw [if_neg e2, if_neg (fun q => e2 q.2.1)]
      · rw [if_neg e1, if_neg (fun q => e1 q.1)]
    · rw [if_neg hk, show e.toNat = k by omega]
theorem cx_boxOf_eq {n : Nat} {g : gm_T} (h30 : n ≤ 30) (h : V_box n g) {bit day e : Int} (hb : rg bit) (hd : rg day) (he : 0 ≤ e ∧ e ≤ gm_I g 44 87) : cx_boxOf g bit day e = some (bx_at g bit day e.toNat).1 := by
  unfold cx_boxOf
  have h1 := cx_boxOf_lp h30 h hb hd he fz 0 (by omega) (by have := h.1.2.2; have : 1000 < fz := fz_gt rfl; omega)
  rw [show ((0 : Nat) : Int) = 0 from rfl, show bx_at g bit day 0 = (-1, -1) from rfl] at h1
  rw [h1]
  rfl
/-- where the reference stands: the entry that it holds for the best -/
def bx_st (g : gm_T) (bit day : Int) (k : Nat) (v : Int) : Prop := (v = -1 ∧ bx_at g bit day k = (-1, -1)) ∨ (0 ≤ v ∧ v < (k : Int) ∧ bx_at g bit day k = (gm_I g 105 v.toNat, gm_I g 106 v.toNat))
theorem md_boxOf_lp {n : Nat} {g : gm_T} (h30 : n ≤ 30) (h : V_box n g) {bit day e : Int} (hb : rg bit) (hd : rg day) (he : 0 ≤ e ∧ e ≤ gm_I g 44 87) : ∀ (fuel k : Nat) (v : Int), (k : Int) ≤ e → e.toNat < fuel + k → bx_st g bit day k v → ∃ w, md_boxOf_l6 g bit day e fuel v (k : Int) = some w ∧ bx_st g bit day e.toNat w := by
  obtain ⟨⟨q1, q2, q3⟩, q4⟩ := id h
  intro fuel
  induction fuel with
  | zero => intro k v h1 h2; omega
  | succ fuel ih =>
    intro k v h1 h2 hv
    unfold md_boxOf_l6
    rw [jg_pos (show rg (k : Int) ∧ rg e from ⟨⟨by omega, by omega⟩, by omega, by omega⟩)]
    by_cases hk : (k : Int) < e
    · obtain ⟨⟨a1, a2, a3⟩, ⟨b1, b2, b3⟩, c1, c2, c3⟩ := q4 k (by omega)
      have i1 := fun w => ih (k + 1) w (by omega) (by omega)
      rw [show ((k + 1 : Nat) : Int) = (k : Int) + 1 by omega] at i1
      have hs : bx_at g bit day (k + 1) = if gm_I g 104 k = bit ∧ gm_I g 106 k ≤ day ∧ (bx_at g bit day k).2 ≤ gm_I g 106 k then (gm_I g 105 k, gm_I g 106 k) else bx_at g bit day k := rfl
      have keep : ¬ (gm_I g 104 k = bit ∧ gm_I g 106 k ≤ day ∧ (bx_at g bit day k).2 ≤ gm_I g 106 k) → bx_st g bit day (k + 1) v := fun hq => by
        unfold bx_st
        rw [hs, if_neg hq]
        rcases hv with hv | hv
        · exact Or.inl hv
        · exact Or.inr ⟨hv.1, by omega, hv.2.2⟩
      have take : (gm_I g 104 k = bit ∧ gm_I g 106 k ≤ day ∧ (bx_at g bit day k).2 ≤ gm_I g 106 k) → bx_st g bit day (k + 1) (k : Int) := fun hq => by
        unfold bx_st
        rw [hs, if_pos hq, Int.toNat_natCast]
        exact Or.inr ⟨by omega, by omega, rfl⟩
      rw [if_pos hk, jg_pos (by omega), Int.toNat_natCast, jg_pos (show rg (gm_I g 104 k) ∧ rg bit from ⟨⟨by omega, by omega⟩, hb⟩), jg_pos (show rg (gm_I g 106 k) ∧ rg day from ⟨⟨by omega, by omega⟩, hd⟩)]
      have hrv : rg v := by
        rcases hv with hv | hv
        · rw [hv.1]; exact rgk rfl
        · exact ⟨by omega, by omega⟩
      by_cases e1 : gm_I g 104 k = bit
      · rw [if_pos e1]
        by_cases e2 : gm_I g 106 k ≤ day
        · rw [if_pos e2, jb1_some, jg_pos (rgk rfl), if_neg (by decide), jg_pos hrv]
          rcases hv with hv | hv
          · rw [if_pos hv.1]
            refine i1 _ (take ⟨e1, e2, ?_⟩)
            rw [hv.2]
            show (-1 : Int) ≤ _
            omega
          · rw [if_neg (by omega), jg_pos (by omega)]
            obtain ⟨-, -, d1, d2, d3⟩ := q4 v.toNat (by omega)
            rw [jg_pos (show rg (gm_I g 106 k) ∧ rg (gm_I g 106 v.toNat) from ⟨⟨by omega, by omega⟩, by omega, by omega⟩)]
            have hp : (bx_at g bit day k).2 = gm_I g 106 v.toNat := by rw [hv.2.2]
            by_cases e3 : gm_I g 106 k < gm_I g 106 v.toNat
            · rw [if_pos e3]
              exact i1 _ (keep (by rw [hp]; omega))
            · rw [if_neg e3]
              exact i1 _ (take ⟨e1, e2, by rw [hp]; omega⟩)
        · rw [if_neg e2, jb1_some, jg_pos (rgk rfl), if_pos rfl]
          exact i1 _ (keep (fun q => e2 q.2.1))
      · rw [if_neg e1, jb1_some, jg_pos (rgk rfl), if_pos rfl]
        exact i1 _ (keep (fun q => e1 q.1))
    · rw [if_neg hk]
      exact ⟨v, rfl, by rw [show e.toNat = k by omega]; exact hv⟩
theorem md_boxOf_eq {n : Nat} {g : gm_T} (h30 : n ≤ 30) (h : V_box n g) {bit day e : Int} (hb : rg bit) (hd : rg day) (he : 0 ≤ e ∧ e ≤ gm_I g 44 87) : md_boxOf g bit day e = some (bx_at g bit day e.toNat).1 := by
  unfold md_boxOf
  obtain ⟨w, h1, h2⟩ := md_boxOf_lp h30 h hb hd he fz 0 (-1) (by omega) (by have := h.1.2.2; have : 1000 < fz := fz_gt rfl; omega) (Or.inl ⟨rfl, rfl⟩)
  have h3 := h.1.2.2
  rw [show ((0 : Nat) : Int) = 0 from rfl] at h1
  rw [h1, jb1_some]
  rcases h2 with h2 | h2
  · rw [h2.1, jg_pos (rgk rfl), if_pos rfl, h2.2]
  · rw [jg_pos ⟨by omega, by omega⟩, if_neg (by omega), jg_pos (by omega), h2.2.2]
theorem op_box {n : Nat} {g : gm_T} (hn : V_num n g) (h : V_box n g) {a b c : Int} (ha : rg a) (hb : rg b) (hc : rg c) : ∃ r, cw_box g a b c = some r ∧ md_box g a b c = some r := by
  obtain ⟨⟨q1, q2, q3⟩, q4⟩ := id h
  have h30 := hn.2.2
  unfold cw_box md_box
  simp only [cw_isBit_eq hn ha, md_isBit_eq hn ha, cw_isDay_eq hb, md_in_eq hb (rgk rfl : rg 0) (rgk rfl : rg 999), md_in_eq hc (rgk rfl : rg 0) (show rg (gm_I g 44 87) from ⟨by omega, by omega⟩), jb_tst, jg_pos hc, q1, jg_pos (show rg (gm_I g 44 87) from ⟨by omega, by omega⟩)]
  by_cases h1 : 0 ≤ a ∧ a < (n : Int)
  · rw [if_pos h1, if_pos h1]
    by_cases h2 : 0 ≤ c ∧ c ≤ gm_I g 44 87
    · rw [if_neg (by omega), if_pos h2.2, if_pos h2]
      by_cases h3 : 0 ≤ b ∧ b ≤ 999
      · rw [if_pos h3, if_pos h3, cx_boxOf_eq h30 h ha hb h2, md_boxOf_eq h30 h ha hb h2, jb1_some, jb1_some]
        obtain ⟨-, w2, w3⟩ := bx_in h a b c.toNat (by omega)
        rw [jg_pos ⟨by omega, by omega⟩, jg_pos ⟨by omega, by omega⟩]
        by_cases h4 : (bx_at g a b c.toNat).1 < 0
        · rw [if_pos h4, if_pos (by omega)]
          exact ⟨_, rfl, rfl⟩
        · rw [if_neg h4, if_neg (by omega)]
          exact ⟨_, rfl, rfl⟩
      · rw [if_neg h3, if_neg h3]
        exact ⟨_, rfl, rfl⟩
    · rw [if_neg h2]
      refine ⟨-1, ?_, rfl⟩
      by_cases h5 : c < 0
      · rw [if_pos h5]
      · rw [if_neg h5, if_neg (by omega)]
  · rw [if_neg h1, if_neg h1]
    exact ⟨_, rfl, rfl⟩
