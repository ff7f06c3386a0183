/-! The class's call of bit: what it comes to. -/
def W_cb (a k : Nat) : Bool := W_ct a k || (a == 1 && k == 0)
def okB (a b c : Int) : Prop := (1 ≤ a ∧ a ≤ 99) ∧ (-1 ≤ b ∧ b ≤ 3) ∧ 0 ≤ c ∧ c ≤ 9
theorem bflt_le {t : Nat → Int} {L e : Nat} (h : endT t L) (f : bflt t L = some e) : e ≤ L := by
  have w := cpr_ok h 8 0 (Nat.zero_le _)
  have v := spr_ok h 5 (cpr t 8 0).2.1 w.1
  unfold bflt at f
  split at f
  · cases f; exact w.1
  · split at f
    · cases f; exact v.1
    · split at f
      · cases f
      · cases f; exact v.1
/-- what the class has read and found good so far -/
def rdB (g7 : gm_T) (t : Nat → Int) : Prop := 3 ≤ (bcor t).length ∧ cP g7 4 5 6 0 (bcor t) ∧ cP g7 7 8 9 0 (bspt t) ∧ gm_I g7 3 3 = ((bcor t).length : Int) ∧ gm_I g7 3 7 = ((bspt t).length : Int)
noncomputable def mkB (n : Nat) (g7 : gm_T) (a1 a2 a3 : Int) : Option (Int × gm_T) := jl (gm_I g7 10 1) fun (v13 : Int) => jl (bw_g g7 (bA n) (fun _ => 0)) fun (g14 : gm_T) => jb1 (cb_init n g14 a1 a2 a3) fun (g15 : gm_T) => jb1 (cf_addBit n g15) fun (g16 : gm_T) => jb1 (cj_addBit g16 v13) fun (g17 : gm_T) => jg (gm_I g17 10 1 = ((n + 1 : Nat) : Int)) (some (v13, g17))
theorem cw_bit_cls {n L : Nat} {g : gm_T} {t : Nat → Int} (hn : gm_I g 10 1 = (n : Int)) (h30 : n ≤ 30) (hT : isTc g L t) {a b c : Int} (ha : rg a) (hb : rg b) (hc : rg c) : (¬ okB a b c ∧ cw_bit n g a b c = some (-2, g)) ∨ (okB a b c ∧ n = 30 ∧ cw_bit n g a b c = some (-4, g)) ∨ (okB a b c ∧ n < 30 ∧ ∃ g7, exc W_cb nob g g7 ∧ gm_I g7 1 0 = 0 ∧ ((∃ e : Nat, bflt t L = some e ∧ cw_bit n g a b c = some (-10 - (e : Int), g7)) ∨ (bflt t L = none ∧ rdB g7 t ∧ ((rng (bcor t).length (ptx (bcor t)) (pty (bcor t)) = false ∧ cw_bit n g a b c = some (-5, g7)) ∨ (rng (bcor t).length (ptx (bcor t)) (pty (bcor t)) = true ∧ ((anq (gsq (bcor t).length (ptx (bcor t)) (pty (bcor t)) (ptx (bspt t)) (pty (bspt t))) 0 (bspt t).length = true ∧ cw_bit n g a b c = some (-6, g7)) ∨ (anq (gsq (bcor t).length (ptx (bcor t)) (pty (bcor t)) (ptx (bspt t)) (pty (bspt t))) 0 (bspt t).length = false ∧ cw_bit n g a b c = mkB n g7 a b c))))))) := by
  have hE := hT.2.2.2
  have L240 := hT.2.1
  unfold cw_bit
  rw [jg_pos ha, jg_pos hb, jg_pos hc, hn, jg_pos (rgn (by omega)), jg_pos (show (n : Int) = (n : Int) from rfl), jg_pos (show (n : Int) = (n : Int) from rfl)]
  by_cases o : okB a b c
  rotate_left
  · refine Or.inl ⟨o, ?_⟩
    unfold okB at o
    by_cases a1 : a < 1
    · rw [if_pos a1]
    rw [if_neg a1]
    by_cases a2 : a ≤ 99
    rotate_left
    · rw [if_neg a2]
    rw [if_pos a2]
    by_cases b1 : b < -1
    · rw [if_pos b1]
    rw [if_neg b1]
    by_cases b2 : b ≤ 3
    rotate_left
    · rw [if_neg b2]
    rw [if_pos b2]
    by_cases c1 : c < 0
    · rw [if_pos c1]
    rw [if_neg c1, if_neg (by omega)]
  refine Or.inr ?_
  have o' := o
  unfold okB at o'
  rw [if_neg (by omega), if_pos (by omega), if_neg (by omega), if_pos (by omega), if_neg (by omega), if_pos (by omega)]
  by_cases e30 : n = 30
  · refine Or.inl ⟨o, e30, ?_⟩
    rw [if_pos (by omega)]
  refine Or.inr ⟨o, by omega, ?_⟩
  rw [if_neg (by omega)]
  obtain ⟨r, g6, e6, x6, w6⟩ := ck_readTape_eq hT
  have X7 : exc W_cb nob g (gm_wI g6 1 0 0) := exc_wI (exc_mono x6 (fun a j q => by unfold W_cb; rw [q]; rfl) (fun a j q => q)) rfl
  have n7 : gm_I (gm_wI g6 1 0 0) 10 1 = (n : Int) := by rw [X7.1 10 1 rfl]; exact hn
  refine ⟨gm_wI g6 1 0 0, X7, gI_eq, ?_⟩
  rw [e6, jb2_some, jl_eq]
  rcases w6 with ⟨e, f1, f2⟩ | ⟨f1, f2, p1, p2, p3, p4, p5⟩
  · refine Or.inl ⟨e, f1, ?_⟩
    have eL : (e : Int) ≤ 240 := by
      have := bflt_le hE f1
      omega
    rw [f2, jg_pos (rgn (by omega)), if_neg (by omega), n7, jg_pos rfl]
  · refine Or.inr ⟨f1, ?_⟩
    have P1 : cP (gm_wI g6 1 0 0) 4 5 6 0 (bcor t) := fun i q hq => by
      rw [gI_oth (by decide), gI_oth (by decide), gI_oth (by decide)]
      exact p1 i q hq
    have P2 : cP (gm_wI g6 1 0 0) 7 8 9 0 (bspt t) := fun i q hq => by
      rw [gI_oth (by decide), gI_oth (by decide), gI_oth (by decide)]
      exact p2 i q hq
    have P3 : gm_I (gm_wI g6 1 0 0) 3 3 = ((bcor t).length : Int) := by rw [gI_oth (by decide)]; exact p3
    have P4 : gm_I (gm_wI g6 1 0 0) 3 7 = ((bspt t).length : Int) := by rw [gI_oth (by decide)]; exact p4
    have k1 := bcor_ok hE
    have k2 := bspt_ok hE
    have hG := rG_of k1.1 p5 k1.2
    have hC := isC_of P1 P3
    refine ⟨⟨p5, P1, P2, P3, P4⟩, ?_⟩
    rw [f2, jg_pos (rgk rfl), if_pos (by decide), ck_isRing_eq hG hC, jb_tst, ck_hasGoodSpots_eq hG hC (sG_of k2.1 k2.2) (isCs_of P2 P4), n7, jg_pos (show (n : Int) = (n : Int) from rfl), jg_pos (show (n : Int) = (n : Int) from rfl)]
    cases er : rng (bcor t).length (ptx (bcor t)) (pty (bcor t)) with
    | false => exact Or.inl ⟨rfl, rfl⟩
    | true =>
      refine Or.inr ⟨rfl, ?_⟩
      rw [if_pos rfl]
      cases es : anq (gsq (bcor t).length (ptx (bcor t)) (pty (bcor t)) (ptx (bspt t)) (pty (bspt t))) 0 (bspt t).length with
      | true =>
        refine Or.inl ⟨rfl, ?_⟩
        rw [if_pos rfl, jb1_some, jg_pos (rgk rfl), if_pos rfl]
      | false =>
        refine Or.inr ⟨rfl, ?_⟩
        unfold mkB
        rw [if_neg (by decide), jb1_some, jg_pos (rgk rfl), if_neg n10, n7]
