/-! Questions: the class's loop, one round. -/
theorem cq_end {n L : Nat} {t : Nat → Int} {g : gm_T} (h : isTc g L t) {w : Int} {rd fuel : Nat} (hr : rd ≤ L) : cq_readTape_l39 n (fuel + 1) w (L : Int) (rd : Int) g = some (.inl (w, g)) := by
  have l2 := h.2.1
  unfold cq_readTape_l39
  rw [jg_pos (rgn (by omega))]
  by_cases c : (rd : Int) < 240
  · rw [if_pos c, h.1, jg_pos ⟨rgn (by omega), rgn (by omega)⟩, if_neg (by omega)]
  · rw [if_neg c]
/-- a round while a factor is wanted -/
theorem cq_want {n L : Nat} {t : Nat → Int} {g : gm_T} (h : isTc g L t) {p rd fuel : Nat} (hp : p < L) (hr : rd ≤ p) {q : Int} (hq : rg q) {g2 : gm_T} (hf : cq_readFactor n g (p : Int) (t p) = some (q, g2)) : cq_readTape_l39 n (fuel + 1) 1 (p : Int) (rd : Int) g = if q ≤ (p : Int) then some (.inr (-q, g2)) else if t p = 33 then cq_readTape_l39 n fuel 1 q ((rd : Int) + 1) g2 else if t p = 40 then cq_readTape_l39 n fuel 1 q ((rd : Int) + 1) g2 else cq_readTape_l39 n fuel 0 q ((rd : Int) + 1) g2 := by
  have l2 := h.2.1
  have hb := isT_b2 h p
  conv => lhs; unfold cq_readTape_l39
  rw [jg_pos (rgn (by omega)), if_pos (by omega), h.1, jg_pos ⟨rgn (by omega), rgn (by omega)⟩, if_pos (by omega), ct_peek_eq h (by omega), jb1_some, jg_pos (rgk rfl), if_neg n10, hf, jb2_some, jb2_some, jg_pos hq]
  by_cases c : q ≤ (p : Int)
  · rw [if_pos c, if_pos c]
  · rw [if_neg c, if_neg c, jg_pos (rgk rfl), if_neg n10, jg_pos ⟨by omega, by omega⟩]
/-- a round behind a factor -/
theorem cq_behd {n L : Nat} {t : Nat → Int} {g : gm_T} (h : isTc g L t) {p rd fuel : Nat} (hp : p < L) (hr : rd ≤ p) {q : Int} (hq : rg q) {g2 : gm_T} (hf : cq_readBehind g (p : Int) (t p) = some (q, g2)) : cq_readTape_l39 n (fuel + 1) 0 (p : Int) (rd : Int) g = if q ≤ (p : Int) then some (.inr (-q, g2)) else if t p = 41 then cq_readTape_l39 n fuel 0 q ((rd : Int) + 1) g2 else cq_readTape_l39 n fuel 1 q ((rd : Int) + 1) g2 := by
  have l2 := h.2.1
  have hb := isT_b2 h p
  conv => lhs; unfold cq_readTape_l39
  rw [jg_pos (rgn (by omega)), if_pos (by omega), h.1, jg_pos ⟨rgn (by omega), rgn (by omega)⟩, if_pos (by omega), ct_peek_eq h (by omega), jb1_some, jg_pos (rgk rfl), if_pos rfl, hf, jb2_some, jb2_some, jg_pos hq]
  by_cases c : q ≤ (p : Int)
  · rw [if_pos c, if_pos c]
  · rw [if_neg c, if_neg c, jg_pos (rgk rfl), if_pos rfl, jg_pos ⟨by omega, by omega⟩]
theorem cq_bang {g : gm_T} {n L d : Nat} {t : Nat → Int} {T F : Nat → Nat → Bool} {N : Nat → Bool} (h : isQ g n L t d T F N) (hd : d < 241) {p : Nat} (hc : t p = 33) : ∃ g2, cq_readFactor n g (p : Int) (t p) = some ((p : Int) + 1, g2) ∧ exc W_cq nob g g2 ∧ isQ g2 n L t d T F (fu N d (!N d)) := by
  obtain ⟨h1, h2, h3, h4⟩ := h
  obtain ⟨a1, a2, a3⟩ := h4 d (Nat.le_refl d)
  have fin : ∀ v, v = wI1 (!N d) → exc W_cq nob g (gm_wI g 43 d v) ∧ isQ (gm_wI g 43 d v) n L t d T F (fu N d (!N d)) := fun v hv => by
    have x : exc W_cq nob g (gm_wI g 43 d v) := exc_wI exc_rf rfl
    refine ⟨x, isTc_cq x h1, by rw [gI_oth (by decide)]; exact h2, by rw [gI_oth (by decide)]; exact h3, fun i hi => ?_⟩
    rw [gI_oth (show 41 ≠ 43 by decide), gI_oth (show 42 ≠ 43 by decide)]
    by_cases z : i = d
    · rw [z, fu_eq, gI_eq]
      exact ⟨a1, a2, hv⟩
    · rw [fu_ne z, gI_ne z]
      exact h4 i hi
  unfold cq_readFactor
  rw [hc, jg_pos (rgk rfl), if_pos rfl, h2, jg_pos (by omega), Int.toNat_natCast, a3, jg_pos (wI1_rg _)]
  cases hN : N d with
  | false =>
    rw [hN] at fin
    obtain ⟨k1, k2⟩ := fin 1 rfl
    rw [wI1_f, if_pos rfl, jl_eq]
    exact ⟨_, rfl, k1, k2⟩
  | true =>
    rw [hN] at fin
    obtain ⟨k1, k2⟩ := fin 0 rfl
    rw [wI1_t, if_neg n10, jl_eq]
    exact ⟨_, rfl, k1, k2⟩
theorem cq_paren {g : gm_T} {n L d : Nat} {t : Nat → Int} {T F : Nat → Nat → Bool} {N : Nat → Bool} (h : isQ g n L t d T F N) (hd : d + 1 < 241) {p : Nat} (hc : t p = 40) : ∃ g2, cq_readFactor n g (p : Int) (t p) = some ((p : Int) + 1, g2) ∧ exc W_cq nob g g2 ∧ isQ g2 n L t (d + 1) (fu T (d + 1) (fun _ => false)) (fu F (d + 1) (fun _ => true)) (fu N (d + 1) false) := by
  obtain ⟨g2, k1, k2, k3⟩ := cq_open_eq h hd
  refine ⟨g2, ?_, k2, k3⟩
  unfold cq_readFactor
  rw [hc, jg_pos (rgk rfl), if_neg (by decide), if_pos rfl, k1, jb1_some]
/-- a comparison -/
theorem cq_test {g : gm_T} {n L d : Nat} {t : Nat → Int} (hE : endT t L) {T F : Nat → Nat → Bool} {N : Nat → Bool} (h30 : n ≤ 30) (hn : gm_I g 10 1 = (n : Int)) (h : isQ g n L t d T F N) (hd : d < 241) {p : Nat} (hp : p < L) (c1 : t p ≠ 33) (c2 : t p ≠ 40) {lv : Int → Int → Int} (hcv : isLt (t p) → ∀ b : Nat, b < n → cq_valueOf n g (t p) (b : Int) = some (lv (b : Int) (t p)) ∧ rg (lv (b : Int) (t p))) : ((qtst t (evl lv) p).2.2 = true → cq_readFactor n g (p : Int) (t p) = some (-((qtst t (evl lv) p).2.1 : Int), g)) ∧ ((qtst t (evl lv) p).2.2 = false → ∃ g2, cq_readFactor n g (p : Int) (t p) = some (((qtst t (evl lv) p).2.1 : Int), g2) ∧ exc W_cq nob g g2 ∧ isQ g2 n L t d T (fu F d (fun b => F d b && (xor (N d) ((qtst t (evl lv) p).1 (b : Int))))) (fu N d false)) := by
  obtain ⟨h1, -⟩ := id h
  have L240 := h1.2.1
  have hb := isT_b2 h1 p
  have hb1 := isT_b2 h1 (p + 1)
  have e0 : cq_readFactor n g (p : Int) (t p) = jb2 (cq_readComparison n g (p : Int) (t p)) (fun (v7 : Int) (g8 : gm_T) => some (v7, g8)) := by
    unfold cq_readFactor
    rw [jg_pos ⟨by omega, by omega⟩, if_neg c1, if_neg c2]
  rw [e0]
  unfold cq_readComparison qtst
  rw [cq_isLetter_eq ⟨by omega, by omega⟩, jb_gd]
  by_cases q1 : isLt (t p)
  rotate_left
  · rw [@if_neg _ (gd _) q1, @if_neg _ (gd _) q1]
    exact ⟨fun _ => rfl, fun z => by cases z⟩
  rw [@if_pos _ (gd _) q1, @if_pos _ (gd _) q1, show (p : Int) + 1 = ((p + 1 : Nat) : Int) from rfl, ct_peek_eq h1 (by omega), jb1_some, jg_pos (show rg (t (p + 1)) from ⟨by omega, by omega⟩)]
  by_cases q2 : isOp (t (p + 1))
  rotate_left
  · have o3 : ¬ (t (p + 1) = 60 ∨ t (p + 1) = 61 ∨ t (p + 1) = 62) := q2
    rw [@if_neg _ (gd _) q2, if_neg (show ¬ t (p + 1) = 60 by omega), if_neg (show ¬ t (p + 1) = 61 by omega), if_neg (show ¬ t (p + 1) = 62 by omega), jb2_some]
    refine ⟨fun _ => ?_, fun z => by cases z⟩
    dsimp only
    rw [show -(p : Int) - 1 = -((p + 1 : Nat) : Int) by omega]
  have l1 := qlt_L hE (p := p + 1) (by unfold isOp at q2; omega)
  have hb2 := isT_b2 h1 (p + 2)
  rw [@if_pos _ (gd _) q2]
  have body : ((@ite _ (isDg (t (p + 2))) (gd _) (fun a => evl lv a (t p) (t (p + 1)) (cqn t p).1, (cqn t p).2, false) (fun _ => false, p + 2, true) : qres).2.2 = true → jb2 (jb1 (ct_digit g ((p : Int) + 2)) fun (v5 : Int) => jg (rg v5) (if v5 < 0 then (some (((-(p : Int)) - 2), g)) else (jl (((p : Int) + 3)) fun (v7 : Int) => jb2 (cq_readComparison_l69 n g (p : Int) (t p) (t (p + 1)) fz v5 v7) fun (v22 : Int) (v23 : Int) => jb1 (cq_compareAll n g (t p) (t (p + 1)) v22) fun (v24 : Int) => jb1 (cq_close g v24) fun (g25 : gm_T) => some (v23, g25)))) (fun (v7 : Int) (g8 : gm_T) => some (v7, g8)) = some (-(((@ite _ (isDg (t (p + 2))) (gd _) (fun a => evl lv a (t p) (t (p + 1)) (cqn t p).1, (cqn t p).2, false) (fun _ => false, p + 2, true) : qres).2.1 : Nat) : Int), g)) ∧ ((@ite _ (isDg (t (p + 2))) (gd _) (fun a => evl lv a (t p) (t (p + 1)) (cqn t p).1, (cqn t p).2, false) (fun _ => false, p + 2, true) : qres).2.2 = false → ∃ g2, jb2 (jb1 (ct_digit g ((p : Int) + 2)) fun (v5 : Int) => jg (rg v5) (if v5 < 0 then (some (((-(p : Int)) - 2), g)) else (jl (((p : Int) + 3)) fun (v7 : Int) => jb2 (cq_readComparison_l69 n g (p : Int) (t p) (t (p + 1)) fz v5 v7) fun (v22 : Int) (v23 : Int) => jb1 (cq_compareAll n g (t p) (t (p + 1)) v22) fun (v24 : Int) => jb1 (cq_close g v24) fun (g25 : gm_T) => some (v23, g25)))) (fun (v7 : Int) (g8 : gm_T) => some (v7, g8)) = some ((((@ite _ (isDg (t (p + 2))) (gd _) (fun a => evl lv a (t p) (t (p + 1)) (cqn t p).1, (cqn t p).2, false) (fun _ => false, p + 2, true) : qres).2.1 : Nat) : Int), g2) ∧ exc W_cq nob g g2 ∧ isQ g2 n L t d T (fu F d (fun b => F d b && (xor (N d) ((@ite _ (isDg (t (p + 2))) (gd _) (fun a => evl lv a (t p) (t (p + 1)) (cqn t p).1, (cqn t p).2, false) (fun _ => false, p + 2, true) : qres).1 (b : Int))))) (fu N d false)) := by
    rw [show (p : Int) + 2 = ((p + 2 : Nat) : Int) from rfl, ct_digit_eq h1 (by omega), jb1_some]
    by_cases q3 : isDg (t (p + 2))
    · have d0 : 48 ≤ t (p + 2) ∧ t (p + 2) ≤ 57 := q3
      have l2 := qlt_L hE (p := p + 2) (by omega)
      have hnum : 0 ≤ (cqn t p).1 ∧ (cqn t p).1 ≤ 999 := by
        unfold cqn
        by_cases e1 : 0 < t (p + 2) - 48 ∧ isDg (t (p + 3))
        · have e11 : 48 ≤ t (p + 3) ∧ t (p + 3) ≤ 57 := e1.2
          rw [@if_pos _ (gd _) e1]
          by_cases e2 : isDg (t (p + 4))
          · have e21 : 48 ≤ t (p + 4) ∧ t (p + 4) ≤ 57 := e2
            rw [@if_pos _ (gd _) e2]
            dsimp only
            omega
          · rw [@if_neg _ (gd _) e2]
            dsimp only
            omega
        · rw [@if_neg _ (gd _) e1]
          dsimp only
          omega
      obtain ⟨x, x1, x2⟩ := cq_cmp_eq (c := t p) (o := t (p + 1)) (v := (cqn t p).1) hn h30 ⟨by omega, by omega⟩ q2 (hcv q1)
      obtain ⟨g2, k1, k2, k3⟩ := cq_close_eq h30 h hd x2
      rw [@if_pos _ (gd _) q3, if_pos d0, jg_pos ⟨by omega, by omega⟩, if_neg (by omega), jl_eq, cq_l69_eq hE h1 q3 (by omega), jb2_some, x1, jb1_some, k1, jb1_some, jb2_some]
      exact ⟨fun z => (by cases z), fun _ => ⟨g2, rfl, k2, k3⟩⟩
    · have d0 : ¬ (48 ≤ t (p + 2) ∧ t (p + 2) ≤ 57) := q3
      rw [@if_neg _ (gd _) q3, if_neg d0, jg_pos (rgk rfl), if_pos (by decide), jb2_some]
      refine ⟨fun _ => ?_, fun z => by cases z⟩
      dsimp only
      rw [show -(p : Int) - 2 = -((p + 2 : Nat) : Int) by omega]
  by_cases o1 : t (p + 1) = 60
  · rw [if_pos o1]
    exact body
  · rw [if_neg o1]
    by_cases o2 : t (p + 1) = 61
    · rw [if_pos o2]
      exact body
    · rw [if_neg o2, if_pos (show t (p + 1) = 62 by unfold isOp at q2; omega)]
      exact body
theorem cq_or {g : gm_T} {n L d : Nat} {t : Nat → Int} {T F : Nat → Nat → Bool} {N : Nat → Bool} (h30 : n ≤ 30) (h : isQ g n L t d T F N) (hd : d < 241) {p : Nat} (hc : t p = 124) : ∃ g2, cq_readBehind g (p : Int) (t p) = some ((p : Int) + 1, g2) ∧ exc W_cq nob g g2 ∧ isQ g2 n L t d (fu T d (fun b => T d b || F d b)) (fu F d (fun _ => true)) N := by
  obtain ⟨h1, h2, h3, h4⟩ := h
  obtain ⟨a1, a2, a3⟩ := h4 d (Nat.le_refl d)
  obtain ⟨g2, hg2⟩ : ∃ g2, g2 = gm_wI (gm_wI g 41 d (zO (gm_I g 41 d) (gm_I g 42 d))) 42 d (gm_I g 40 7) := ⟨_, rfl⟩
  have x : exc W_cq nob g g2 := by
    rw [hg2]
    exact exc_wI (exc_wI exc_rf rfl) rfl
  refine ⟨g2, ?_, x, isTc_cq x h1, by rw [hg2, gI_oth (by decide), gI_oth (by decide)]; exact h2, by rw [x.1 40 7 rfl]; exact h3, fun i hi => ?_⟩
  · unfold cq_readBehind
    rw [hc, jg_pos (rgk rfl), if_pos rfl, h2, jg_pos (by omega), Int.toNat_natCast, jl_eq, gI_oth (show 40 ≠ 41 by decide), h2, jg_pos (by omega), jl_eq, Int.toNat_natCast, gI_oth (show 40 ≠ 41 by decide), ← hg2]
  · rw [hg2, gI_oth (show 41 ≠ 42 by decide), gI_oth (show 43 ≠ 42 by decide), gI_oth (show 43 ≠ 41 by decide)]
    by_cases z : i = d
    · rw [z, fu_eq, fu_eq, gI_eq, gI_eq]
      exact ⟨isKm_or h30 a1 a2, h3, a3⟩
    · rw [fu_ne z, fu_ne z, gI_ne z, gI_ne z, gI_oth (show 42 ≠ 41 by decide)]
      exact h4 i hi
theorem cq_and {g : gm_T} {p : Nat} {t : Nat → Int} (hc : t p = 38) : cq_readBehind g (p : Int) (t p) = some ((p : Int) + 1, g) := by
  unfold cq_readBehind
  rw [hc, jg_pos (rgk rfl), if_neg (by decide), if_neg (by decide), if_pos rfl]
theorem cq_shut {g : gm_T} {n L d : Nat} {t : Nat → Int} {T F : Nat → Nat → Bool} {N : Nat → Bool} (h30 : n ≤ 30) (h : isQ g n L t (d + 1) T F N) (hd : d + 1 < 241) {p : Nat} (hc : t p = 41) : ∃ g2, cq_readBehind g (p : Int) (t p) = some ((p : Int) + 1, g2) ∧ exc W_cq nob g g2 ∧ isQ g2 n L t d T (fu F d (fun b => F d b && (xor (N d) (T (d + 1) b || F (d + 1) b)))) (fu N d false) := by
  obtain ⟨h1, h2, h3, h4⟩ := h
  obtain ⟨a1, a2, a3⟩ := h4 (d + 1) (Nat.le_refl _)
  have x1 : exc W_cq nob g (gm_wI g 40 6 (d : Int)) := exc_wI exc_rf rfl
  have q1 : isQ (gm_wI g 40 6 (d : Int)) n L t d T F N := ⟨isTc_cq x1 h1, gI_eq, by rw [gI_ne (by decide)]; exact h3, fun i hi => by
    rw [gI_oth (by decide), gI_oth (by decide), gI_oth (by decide)]
    exact h4 i (by omega)⟩
  obtain ⟨g2, k1, k2, k3⟩ := cq_close_eq h30 q1 (by omega) (isKm_or h30 a1 a2)
  refine ⟨g2, ?_, exc_tr x1 k2, k3⟩
  unfold cq_readBehind
  rw [hc, jg_pos (rgk rfl), if_neg (by decide), if_pos rfl, h2, jg_pos (rgn (by omega)), if_neg (by omega), show ((d + 1 : Nat) : Int) - 1 = (d : Int) by omega, jl_eq, gI_eq, jg_pos (by omega), show ((d : Int) + 1).toNat = d + 1 by omega, gI_oth (show 41 ≠ 40 by decide), gI_oth (show 42 ≠ 40 by decide), k1, jb1_some]
theorem cq_stop {g : gm_T} {n L d : Nat} {t : Nat → Int} {T F : Nat → Nat → Bool} {N : Nat → Bool} (h : isQ g n L t d T F N) (hd : d < 241) {p : Nat} (c1 : t p ≠ 124) (c2 : t p ≠ 38) (c3 : t p ≠ 41 ∨ d = 0) : cq_readBehind g (p : Int) (t p) = some (-(p : Int), g) := by
  obtain ⟨h1, h2, -⟩ := h
  have hb := isT_b2 h1 p
  unfold cq_readBehind
  rw [jg_pos ⟨by omega, by omega⟩, if_neg c1]
  by_cases z : t p = 41
  · rw [if_pos z, h2, jg_pos (rgn (by omega)), if_pos (by omega), if_neg c2]
  · rw [if_neg z, if_neg c2]
