/-! Questions: the class's steps. -/
def isKm (n : Nat) (x : Int) (f : Nat → Bool) : Prop := ∃ M : Nat, x = (M : Int) ∧ M < 2 ^ n ∧ ∀ b, M.testBit b = (decide (b < n) && f b)
theorem p2_30 {n : Nat} (h : n ≤ 30) : 2 ^ n ≤ 1073741824 := Nat.le_trans (Nat.pow_le_pow_right (n := 2) (by decide) h) (by decide)
theorem isKm_or {n : Nat} (h30 : n ≤ 30) {x y : Int} {f h : Nat → Bool} (hx : isKm n x f) (hy : isKm n y h) : isKm n (zO x y) (fun b => f b || h b) := by
  obtain ⟨M, rfl, m1, m2⟩ := hx
  obtain ⟨K, rfl, k1, k2⟩ := hy
  have := p2_30 h30
  refine ⟨M ||| K, zO_n (by omega) (by omega), Nat.or_lt_two_pow m1 k1, fun b => ?_⟩
  rw [Nat.testBit_or, m2, k2]
  cases decide (b < n) <;> rfl
theorem isKm_and {n : Nat} (h30 : n ≤ 30) {x y : Int} {f h : Nat → Bool} (hx : isKm n x f) (hy : isKm n y h) : isKm n (zA x y) (fun b => f b && h b) := by
  obtain ⟨M, rfl, m1, m2⟩ := hx
  obtain ⟨K, rfl, k1, k2⟩ := hy
  have := p2_30 h30
  refine ⟨M &&& K, zA_n _ (by omega), Nat.lt_of_le_of_lt (and_le_l M K) m1, fun b => ?_⟩
  rw [Nat.testBit_and, m2, k2]
  dsimp only
  cases decide (b < n) <;> cases f b <;> cases h b <;> rfl
theorem isKm_not {n : Nat} (h30 : n ≤ 30) {x y : Int} {f : Nat → Bool} (hx : isKm n x (fun _ => true)) (hy : isKm n y f) : isKm n (zA x (zX y (-1))) (fun b => !f b) := by
  obtain ⟨M, rfl, m1, m2⟩ := hx
  obtain ⟨K, rfl, k1, k2⟩ := hy
  have := p2_30 h30
  refine ⟨ndf M K, zA_not (by omega), Nat.lt_of_le_of_lt (ndf_le M K) m1, fun b => ?_⟩
  rw [ndf_bit, m2, k2]
  cases decide (b < n) <;> rfl
theorem isKm_0 (n : Nat) : isKm n 0 (fun _ => false) := ⟨0, rfl, Nat.two_pow_pos n, fun b => by rw [Nat.zero_testBit, Bool.and_false]⟩
theorem isKm_cong {n : Nat} {x : Int} {f h : Nat → Bool} (e : ∀ b, f b = h b) (H : isKm n x f) : isKm n x h := by
  have : f = h := funext e
  rw [← this]
  exact H
theorem isKm_u {n : Nat} {x y : Int} {f : Nat → Bool} (hx : isKm n x f) (hy : isKm n y f) : x = y := by
  obtain ⟨M, rfl, m1, m2⟩ := hx
  obtain ⟨K, rfl, k1, k2⟩ := hy
  have : M = K := Nat.eq_of_testBit_eq (fun b => by rw [m2, k2])
  rw [this]
theorem isKm_rg {n : Nat} (h30 : n ≤ 30) {x : Int} {f : Nat → Bool} (hx : isKm n x f) : rg x := by
  obtain ⟨M, rfl, m1, -⟩ := hx
  have := p2_30 h30
  exact ⟨by omega, by omega⟩
def fu {α : Type} (f : Nat → α) (i : Nat) (v : α) : Nat → α := fun j => if j = i then v else f j
theorem fu_eq {α : Type} {f : Nat → α} {i : Nat} {v : α} : fu f i v i = v := if_pos rfl
theorem fu_ne {α : Type} {f : Nat → α} {i j : Nat} {v : α} (h : j ≠ i) : fu f i v j = f j := if_neg h
def W_cq (a k : Nat) : Bool := (a == 40 && k == 6) || a == 41 || a == 42 || a == 43
/-- the class's reading: d brackets stand open -/
def isQ (g : gm_T) (n L : Nat) (t : Nat → Int) (d : Nat) (T F : Nat → Nat → Bool) (N : Nat → Bool) : Prop := isTc g L t ∧ gm_I g 40 6 = (d : Int) ∧ isKm n (gm_I g 40 7) (fun _ => true) ∧ ∀ i, i ≤ d → isKm n (gm_I g 41 i) (T i) ∧ isKm n (gm_I g 42 i) (F i) ∧ gm_I g 43 i = wI1 (N i)
theorem isTc_cq {g g2 : gm_T} (x : exc W_cq nob g g2) {L : Nat} {t : Nat → Int} (h : isTc g L t) : isTc g2 L t := by
  obtain ⟨t1, t2, t3, t4⟩ := h
  exact ⟨by rw [x.1 1 0 rfl]; exact t1, t2, fun k hk => by rw [x.1 2 k rfl]; exact t3 k hk, t4⟩
theorem cq_open_eq {g : gm_T} {n L d : Nat} {t : Nat → Int} {T F : Nat → Nat → Bool} {N : Nat → Bool} (h : isQ g n L t d T F N) (hd : d + 1 < 241) : ∃ g2, cq_open g = some g2 ∧ exc W_cq nob g g2 ∧ isQ g2 n L t (d + 1) (fu T (d + 1) (fun _ => false)) (fu F (d + 1) (fun _ => true)) (fu N (d + 1) false) := by
  obtain ⟨h1, h2, h3, h4⟩ := h
  obtain ⟨g2, hg2⟩ : ∃ g2, g2 = gm_wI (gm_wI (gm_wI (gm_wI g 40 6 ((d : Int) + 1)) 41 (d + 1) 0) 42 (d + 1) (gm_I g 40 7)) 43 (d + 1) 0 := ⟨_, rfl⟩
  have x : exc W_cq nob g g2 := by
    rw [hg2]
    exact exc_wI (exc_wI (exc_wI (exc_wI exc_rf rfl) rfl) rfl) rfl
  refine ⟨g2, ?_, x, isTc_cq x h1, by rw [hg2, gI_oth (by decide), gI_oth (by decide), gI_oth (by decide), gI_eq]; rfl, by rw [x.1 40 7 rfl]; exact h3, fun i hi => ?_⟩
  · unfold cq_open
    rw [jl_eq, gI_eq, h2, jg_pos (by omega), jl_eq, gI_oth (show 40 ≠ 41 by decide), gI_eq, jg_pos (by omega), jl_eq, gI_oth (show 40 ≠ 41 by decide), gI_ne (by decide), gI_oth (show 40 ≠ 42 by decide), gI_oth (show 40 ≠ 41 by decide), gI_eq, jg_pos (by omega), jl_eq, show ((d : Int) + 1).toNat = d + 1 by omega, ← hg2]
  · by_cases z : i = d + 1
    · rw [z, fu_eq, fu_eq, fu_eq, hg2, gI_oth (show 41 ≠ 43 by decide), gI_oth (show 41 ≠ 42 by decide), gI_eq, gI_oth (show 42 ≠ 43 by decide), gI_eq, gI_eq]
      exact ⟨isKm_0 n, h3, rfl⟩
    · rw [fu_ne z, fu_ne z, fu_ne z, hg2, gI_oth (show 41 ≠ 43 by decide), gI_oth (show 41 ≠ 42 by decide), gI_ne z, gI_oth (show 41 ≠ 40 by decide), gI_oth (show 42 ≠ 43 by decide), gI_ne z, gI_oth (show 42 ≠ 41 by decide), gI_oth (show 42 ≠ 40 by decide), gI_ne z, gI_oth (show 43 ≠ 42 by decide), gI_oth (show 43 ≠ 41 by decide), gI_oth (show 43 ≠ 40 by decide)]
      exact h4 i (by omega)
theorem cq_close_eq {g : gm_T} {n L d : Nat} {t : Nat → Int} {T F : Nat → Nat → Bool} {N : Nat → Bool} (h30 : n ≤ 30) (h : isQ g n L t d T F N) (hd : d < 241) {s : Int} {f : Nat → Bool} (hs : isKm n s f) : ∃ g2, cq_close g s = some g2 ∧ exc W_cq nob g g2 ∧ isQ g2 n L t d T (fu F d (fun b => F d b && (xor (N d) (f b)))) (fu N d false) := by
  obtain ⟨h1, h2, h3, h4⟩ := h
  obtain ⟨a1, a2, a3⟩ := h4 d (Nat.le_refl d)
  obtain ⟨v, hv, hm⟩ : ∃ v, (jg (rg (gm_I g 43 d)) (if (gm_I g 43 d) = 0 then (some s) else (some (zA (gm_I g 40 7) (zX s (-1)))))) = some v ∧ isKm n v (fun b => xor (N d) (f b)) := by
    rw [a3]
    cases hN : N d with
    | false =>
      rw [wI1_f, jg_pos (rgk rfl), if_pos rfl]
      exact ⟨s, rfl, isKm_cong (fun b => by cases f b <;> rfl) hs⟩
    | true =>
      rw [wI1_t, jg_pos (rgk rfl), if_neg n10]
      exact ⟨_, rfl, isKm_cong (fun b => by cases f b <;> rfl) (isKm_not h30 h3 hs)⟩
  obtain ⟨g2, hg2⟩ : ∃ g2, g2 = gm_wI (gm_wI g 42 d (zA (gm_I g 42 d) v)) 43 d 0 := ⟨_, rfl⟩
  have x : exc W_cq nob g g2 := by
    rw [hg2]
    exact exc_wI (exc_wI exc_rf rfl) rfl
  refine ⟨g2, ?_, x, isTc_cq x h1, by rw [hg2, gI_oth (by decide), gI_oth (by decide)]; exact h2, by rw [x.1 40 7 rfl]; exact h3, fun i hi => ?_⟩
  · unfold cq_close
    rw [h2, jg_pos (by omega), Int.toNat_natCast, hv, jb1_some, jl_eq, gI_oth (show 40 ≠ 42 by decide), h2, jg_pos (by omega), jl_eq, Int.toNat_natCast, ← hg2]
  · rw [hg2, gI_oth (show 41 ≠ 43 by decide), gI_oth (show 41 ≠ 42 by decide), gI_oth (show 42 ≠ 43 by decide)]
    by_cases z : i = d
    · rw [z, fu_eq, fu_eq, gI_eq, gI_eq]
      exact ⟨a1, isKm_and h30 a2 hm, rfl⟩
    · rw [fu_ne z, fu_ne z, gI_ne z, gI_ne z, gI_oth (show 43 ≠ 42 by decide)]
      exact h4 i hi
theorem cq_isLetter_eq {g : gm_T} {c : Int} (hc : rg c) : cq_isLetter g c = some (@ite _ (isLt c) (gd _) 1 0) := by
  unfold cq_isLetter
  rw [jg_pos hc]
  by_cases h : isLt c
  · rw [@if_pos _ (gd _) h]
    rcases h with rfl | rfl | rfl | rfl | rfl | rfl | rfl | rfl | rfl | rfl | rfl <;> rfl
  · rw [@if_neg _ (gd _) h]
    unfold isLt at h
    rw [if_neg (show ¬ c = 98 by omega)]
    rw [if_neg (show ¬ c = 99 by omega)]
    by_cases q100 : c = 100
    · rw [if_pos q100]
    rw [if_neg q100]
    rw [if_neg (show ¬ c = 101 by omega)]
    by_cases q102 : c = 102
    · rw [if_pos q102]
    rw [if_neg q102]
    rw [if_neg (show ¬ c = 103 by omega)]
    by_cases q104 : c = 104
    · rw [if_pos q104]
    rw [if_neg q104]
    by_cases q105 : c = 105
    · rw [if_pos q105]
    rw [if_neg q105]
    rw [if_neg (show ¬ c = 106 by omega)]
    by_cases q107 : c = 107
    · rw [if_pos q107]
    rw [if_neg q107]
    by_cases q108 : c = 108
    · rw [if_pos q108]
    rw [if_neg q108]
    by_cases q109 : c = 109
    · rw [if_pos q109]
    rw [if_neg q109]
    rw [if_neg (show ¬ c = 110 by omega)]
    by_cases q111 : c = 111
    · rw [if_pos q111]
    rw [if_neg q111]
    rw [if_neg (show ¬ c = 112 by omega)]
    by_cases q113 : c = 113
    · rw [if_pos q113]
    rw [if_neg q113]
    by_cases q114 : c = 114
    · rw [if_pos q114]
    rw [if_neg q114]
    rw [if_neg (show ¬ c = 115 by omega)]
    rw [if_neg (show ¬ c = 116 by omega)]
    by_cases q117 : c = 117
    · rw [if_pos q117]
    rw [if_neg q117]
    rw [if_neg (show ¬ c = 118 by omega)]
    rw [if_neg (show ¬ c = 119 by omega)]
theorem cq_cmp_lp {n : Nat} {g : gm_T} (hn : gm_I g 10 1 = (n : Int)) (h30 : n ≤ 30) {c o v : Int} (hv : rg v) (ho : isOp o) {lv : Int → Int → Int} (hcv : ∀ b : Nat, b < n → cq_valueOf n g c (b : Int) = some (lv (b : Int) c) ∧ rg (lv (b : Int) c)) : ∀ (d k fuel M : Nat), k + d = n → d < fuel → M < 2 ^ k → (∀ b, M.testBit b = (decide (b < k) && evl lv (b : Int) c o v)) → ∃ x, cq_compareAll_l12 n g c v (o - 61) fuel (M : Int) (k : Int) = some x ∧ isKm n x (fun b => evl lv (b : Int) c o v) := by
  have ho3 : o = 60 ∨ o = 61 ∨ o = 62 := ho
  intro d
  induction d with
  | zero =>
    intro k fuel M hd hf hM hb
    obtain ⟨f, rfl⟩ : ∃ f, fuel = f + 1 := ⟨fuel - 1, by omega⟩
    have e : k = n := by omega
    unfold cq_compareAll_l12
    rw [hn, jg_pos ⟨rgn (by omega), rgn (by omega)⟩, if_neg (by omega)]
    rw [e] at hM hb
    exact ⟨_, rfl, M, rfl, hM, hb⟩
  | succ d ih =>
    intro k fuel M hd hf hM hb
    obtain ⟨f, rfl⟩ : ∃ f, fuel = f + 1 := ⟨fuel - 1, by omega⟩
    obtain ⟨c1, c2⟩ := hcv k (by omega)
    have hp := p2_30 (n := k) (by omega)
    have hp2 : 2 ^ (k + 1) = 2 ^ k * 2 := Nat.pow_succ 2 k
    have hcmp : ∃ w, jd_compare g (lv (k : Int) c) v = some w ∧ (w = o - 61 ↔ evl lv (k : Int) c o v = true) ∧ -1 ≤ w ∧ w ≤ 1 := by
      unfold jd_compare evl
      rw [jg_pos ⟨c2, hv⟩, if_neg (show ¬ (k : Int) = -1 by omega)]
      by_cases q1 : lv (k : Int) c < v
      · refine ⟨-1, by rw [if_pos q1], ?_, by decide, by decide⟩
        rcases ho3 with rfl | rfl | rfl
        · rw [if_pos rfl, decide_eq_true q1]
          decide
        · rw [if_neg (show ¬ (61 : Int) = 60 by decide), if_pos rfl, decide_eq_false (by omega)]
          decide
        · rw [if_neg (show ¬ (62 : Int) = 60 by decide), if_neg (show ¬ (62 : Int) = 61 by decide), decide_eq_false (by omega)]
          decide
      · rw [if_neg q1]
        by_cases q2 : lv (k : Int) c = v
        · refine ⟨0, by rw [if_pos q2], ?_, by decide, by decide⟩
          rcases ho3 with rfl | rfl | rfl
          · rw [if_pos rfl, decide_eq_false q1]
            decide
          · rw [if_neg (show ¬ (61 : Int) = 60 by decide), if_pos rfl, decide_eq_true q2]
            decide
          · rw [if_neg (show ¬ (62 : Int) = 60 by decide), if_neg (show ¬ (62 : Int) = 61 by decide), decide_eq_false (by omega)]
            decide
        · refine ⟨1, by rw [if_neg q2], ?_, by decide, by decide⟩
          rcases ho3 with rfl | rfl | rfl
          · rw [if_pos rfl, decide_eq_false q1]
            decide
          · rw [if_neg (show ¬ (61 : Int) = 60 by decide), if_pos rfl, decide_eq_false q2]
            decide
          · rw [if_neg (show ¬ (62 : Int) = 60 by decide), if_neg (show ¬ (62 : Int) = 61 by decide), decide_eq_true (by omega)]
            decide
    obtain ⟨w, w1, w2, w3, w4⟩ := hcmp
    unfold cq_compareAll_l12
    rw [hn, jg_pos ⟨rgn (by omega), rgn (by omega)⟩, if_pos (by omega), c1, jb1_some, w1, jb1_some, jg_pos ⟨⟨by omega, by omega⟩, by omega, by omega⟩]
    by_cases q : w = o - 61
    · have ev := w2.mp q
      rw [if_pos q, zSl_1 (by omega), zO_n (by omega) (by omega), jl_eq]
      exact ih (k + 1) f (M ||| 2 ^ k) (by omega) (by omega) (Nat.or_lt_two_pow (by omega) (Nat.pow_lt_pow_right (by decide) (by omega))) (fun b => by
        rw [Nat.testBit_or, hb, Nat.testBit_two_pow]
        by_cases z : k = b
        · rw [← z, ev, decide_eq_true rfl, Bool.or_true, decide_eq_true (by omega)]
          rfl
        · rw [decide_eq_false z, Bool.or_false]
          by_cases z2 : b < k
          · rw [decide_eq_true z2, decide_eq_true (by omega)]
          · rw [decide_eq_false z2, decide_eq_false (by omega)])
    · have ev : evl lv (k : Int) c o v = false := Bool.eq_false_iff.mpr (fun z => q (w2.mpr z))
      rw [if_neg q]
      exact ih (k + 1) f M (by omega) (by omega) (by omega) (fun b => by
        rw [hb]
        by_cases z : b = k
        · rw [z, ev, Bool.and_false, Bool.and_false]
        · by_cases z2 : b < k
          · rw [decide_eq_true z2, decide_eq_true (by omega)]
          · rw [decide_eq_false z2, decide_eq_false (by omega)])
theorem cq_cmp_eq {n : Nat} {g : gm_T} (hn : gm_I g 10 1 = (n : Int)) (h30 : n ≤ 30) {c o v : Int} (hv : rg v) (ho : isOp o) {lv : Int → Int → Int} (hcv : ∀ b : Nat, b < n → cq_valueOf n g c (b : Int) = some (lv (b : Int) c) ∧ rg (lv (b : Int) c)) : ∃ x, cq_compareAll n g c o v = some x ∧ isKm n x (fun b => evl lv (b : Int) c o v) := by
  obtain ⟨x, h1, h2⟩ := cq_cmp_lp hn h30 hv ho hcv n 0 fz 0 (by omega) (Nat.lt_of_le_of_lt (show n ≤ 300 by omega) (fz_gt rfl)) (by decide) (fun b => by rw [Nat.zero_testBit, decide_eq_false (by omega), Bool.false_and])
  refine ⟨x, ?_, h2⟩
  unfold cq_compareAll
  rw [jl_eq, show cq_compareAll_l12 n g c v (o - 61) fz 0 0 = _ from h1, jb1_some]
theorem cq_l69_eq {n : Nat} {t : Nat → Int} {L : Nat} (hE : endT t L) {g : gm_T} (h : isTc g L t) {p : Nat} (hd : isDg (t (p + 2))) (hp : p + 3 ≤ L) {c9 c10 : Int} : cq_readComparison_l69 n g (p : Int) c9 c10 fz (t (p + 2) - 48) ((p : Int) + 3) = some ((cqn t p).1, ((cqn t p).2 : Int)) := by
  have d0 : 48 ≤ t (p + 2) ∧ t (p + 2) ≤ 57 := hd
  have L240 := h.2.1
  rw [show fz = 99997 + 1 + 1 + 1 from rfl]
  have r1 : cq_readComparison_l69 n g (p : Int) c9 c10 (99997 + 1 + 1 + 1) (t (p + 2) - 48) ((p : Int) + 3) = if t (p + 2) - 48 ≤ 0 then some (t (p + 2) - 48, (p : Int) + 3) else jb1 (ct_digit g ((p + 3 : Nat) : Int)) (fun (v17 : Int) => jg (rg v17) (if v17 < 0 then (some (t (p + 2) - 48, (p : Int) + 3)) else (jb1 (ct_digit g ((p + 3 : Nat) : Int)) fun (v19 : Int) => jl (((10 * (t (p + 2) - 48)) + v19)) fun (v20 : Int) => cq_readComparison_l69 n g (p : Int) c9 c10 (99997 + 1 + 1) v20 ((p : Int) + 3 + 1)))) := by
    conv => lhs; unfold cq_readComparison_l69
    rw [jg_pos ⟨⟨by omega, by omega⟩, by omega, by omega⟩, if_pos (by omega), jg_pos ⟨by omega, by omega⟩]
    rfl
  rw [r1, ct_digit_eq h (p := p + 3) hp]
  unfold cqn
  by_cases c1 : t (p + 2) - 48 ≤ 0
  · rw [if_pos c1, @if_neg _ (gd _) (fun z => by omega)]
    rfl
  · rw [if_neg c1]
    by_cases c2 : isDg (t (p + 3))
    · have c22 : 48 ≤ t (p + 3) ∧ t (p + 3) ≤ 57 := c2
      have l3 := qlt_L hE (p := p + 3) (by omega)
      have r2 : cq_readComparison_l69 n g (p : Int) c9 c10 (99997 + 1 + 1) (10 * (t (p + 2) - 48) + (t (p + 3) - 48)) ((p : Int) + 3 + 1) = jb1 (ct_digit g ((p + 4 : Nat) : Int)) (fun (v17 : Int) => jg (rg v17) (if v17 < 0 then (some (10 * (t (p + 2) - 48) + (t (p + 3) - 48), (p : Int) + 3 + 1)) else (jb1 (ct_digit g ((p + 4 : Nat) : Int)) fun (v19 : Int) => jl (((10 * (10 * (t (p + 2) - 48) + (t (p + 3) - 48))) + v19)) fun (v20 : Int) => cq_readComparison_l69 n g (p : Int) c9 c10 (99997 + 1) v20 ((p : Int) + 3 + 1 + 1)))) := by
        conv => lhs; unfold cq_readComparison_l69
        rw [jg_pos ⟨⟨by omega, by omega⟩, by omega, by omega⟩, if_pos (by omega), jg_pos ⟨by omega, by omega⟩, if_neg (by omega)]
        rfl
      rw [if_pos c22, jb1_some, jg_pos ⟨by omega, by omega⟩, if_neg (by omega), jb1_some, jl_eq, r2, ct_digit_eq h (p := p + 4) (by omega), @if_pos _ (gd _) ⟨show 0 < t (p + 2) - 48 by omega, c2⟩]
      by_cases c3 : isDg (t (p + 4))
      · have c33 : 48 ≤ t (p + 4) ∧ t (p + 4) ≤ 57 := c3
        have r3 : ∀ v, cq_readComparison_l69 n g (p : Int) c9 c10 (99997 + 1) v ((p : Int) + 3 + 1 + 1) = some (v, (p : Int) + 3 + 1 + 1) := fun v => by
          unfold cq_readComparison_l69
          rw [jg_pos ⟨⟨by omega, by omega⟩, by omega, by omega⟩, if_neg (by omega)]
        rw [if_pos c33, jb1_some, jg_pos ⟨by omega, by omega⟩, if_neg (by omega), jb1_some, jl_eq, r3, @if_pos _ (gd _) c3]
        rfl
      · have c33 : ¬ (48 ≤ t (p + 4) ∧ t (p + 4) ≤ 57) := c3
        rw [if_neg c33, jb1_some, jg_pos (rgk rfl), if_pos (by decide), @if_neg _ (gd _) c3]
        rfl
    · have c22 : ¬ (48 ≤ t (p + 3) ∧ t (p + 3) ≤ 57) := c2
      rw [if_neg c22, jb1_some, jg_pos (rgk rfl), if_pos (by decide), @if_neg _ (gd _) (fun z => c2 z.2)]
      rfl
