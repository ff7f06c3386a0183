/-! word and put, both sides. -/
def W_cc (a k : Nat) : Bool := W_22 a k || W_tw a k
theorem cc_kw {g g2 : gm_T} (h : exc W_cc nob g g2) : exc kw scrJ g g2 := exc_mono h (fun a k q => by
  simp only [W_cc, W_22, W_tw, Bool.or_eq_true, Bool.and_eq_true, beq_iff_eq] at q
  rcases q with ⟨rfl, ((rfl | rfl) | rfl) | rfl⟩ | ((rfl | rfl) | rfl) | ⟨rfl, rfl⟩ <;> rfl) (fun _ _ q => by cases q)
theorem keepC_cc {g g2 : gm_T} (x : exc W_cc nob g g2) : keepC g2 = keepC g := keepC_exc x (fun a k q => by
  simp only [W_cc, W_22, W_tw, Bool.or_eq_true, Bool.and_eq_true, beq_iff_eq] at q
  rcases q with ⟨rfl, ((rfl | rfl) | rfl) | rfl⟩ | ((rfl | rfl) | rfl) | ⟨rfl, rfl⟩ <;> rfl) (fun _ _ q => by cases q)
theorem cc_22 {g g2 : gm_T} (h : exc W_22 nob g g2) : exc W_cc nob g g2 := exc_mono h (fun a k q => by unfold W_cc; rw [q]; rfl) (fun _ _ q => q)
theorem cc_tw {g g2 : gm_T} (h : exc W_tw nob g g2) : exc W_cc nob g g2 := exc_mono h (fun a k q => by unfold W_cc; rw [q, Bool.or_true]) (fun _ _ q => q)
/-- tellBetween, with the way from one to the other -/
theorem cv_tellB_eq {n : Nat} {g : gm_T} (h30 : n ≤ 30) (V : V_jn n g) {kind : Int} {a b d : Nat} {one two : Int} (ha : a < n) (hb : b < n) (hd : gbf (jA g) (jB g) (jE g) (jm g) b n a = (d : Int)) (hdn : d < n) : ∃ g2, cv_tellBetween g kind one two (a : Int) (b : Int) = some (kind, g2) ∧ gm_I g2 22 5 = kind ∧ gm_I g2 22 6 = one ∧ gm_I g2 22 7 = two ∧ gm_I g2 22 8 = (d : Int) ∧ (∀ j, j < d → gm_I g2 24 j = ((gj (jA g) (jB g) (jE g) (jm g) (gbf (jA g) (jB g) (jE g) (jm g) b n) a j : Nat) : Int)) ∧ exc W_cc nob g g2 := by
  obtain ⟨g1, e1, e2, e3, e4, e5, e6⟩ := cv_tell_eq g kind one two
  have k1 := wk_k (kw_wk (w22_kw e6))
  have eA : jA g1 = jA g := funext fun j => by unfold jA; rw [e6.1 65 j rfl]
  have eB : jB g1 = jB g := funext fun j => by unfold jB; rw [e6.1 67 j rfl]
  have eE : jE g1 = jE g := funext fun j => by unfold jE; rw [e6.1 69 j rfl]
  have em : jm g1 = jm g := by unfold jm; rw [e6.1 44 24 rfl]
  obtain ⟨g2, f1, f2, f3, f4, f5⟩ := cv_tellWay_eq h30 (V_jn_E k1 V) (a := a) (b := b) (d := d) (u := 0) ha hb (by rw [eA, eB, eE, em]; exact hd) hdn (by omega) e5
  rw [eA, eB, eE, em] at f5
  unfold cv_tellBetween
  rw [e1, jb2_some, f1, jb1_some]
  refine ⟨g2, rfl, ?_, ?_, ?_, by rw [f3]; omega, fun j hj => ?_, exc_tr (cc_22 e6) (cc_tw f2)⟩
  · rw [f2.1 22 5 rfl, e2]
  · rw [f2.1 22 6 rfl, e3]
  · rw [f2.1 22 7 rfl, e4]
  · have := f5 j hj
    rw [Nat.zero_add] at this
    exact this
theorem cv_say_eq {n : Nat} {g : gm_T} {P : Nat → plc} (h : IW n g P) {b : Nat} (hb : b < n) {q : plc} (hq : bpl 500 q) {w u M : Nat} (w1 : gm_I g 22 3 = (w : Int)) (u1 : gm_I g 22 4 = (u : Int)) (w2 : w < 2 ^ 30) (u2 : u < 2 ^ 30) (w3 : ∀ c, w.testBit c = (decide (c < n) && hw g c) ∧ u.testBit c = (decide (c < n) && hp g c)) (m1 : gm_I g 19 b = (M : Int)) (m2 : isG g b M) : ((q = P b ∨ ∀ c2, c2 < n → ¬ othw g b c2) ∧ ((∃ i k, LF (hitb n g P b q) n i k ∧ ∃ g2, cv_say n g (b : Int) (pp q) = some (5, g2) ∧ gm_I g2 22 5 = 5 ∧ gm_I g2 22 6 = (i : Int) ∧ gm_I g2 22 7 = (k : Int) ∧ gm_I g2 22 8 = 0 ∧ exc W_cc nob g g2) ∨ ((∀ i k, i < n → k < n → ¬ hitb n g P b q i k) ∧ ∃ g2, cv_say n g (b : Int) (pp q) = some (0, g2) ∧ gm_I g2 22 3 = ((w ||| 2 ^ b : Nat) : Int) ∧ gm_I g2 22 4 = ((ndf u M : Nat) : Int) ∧ (∀ a k, a ≠ 22 → gm_I g2 a k = gm_I g a k) ∧ exc (fun a k => a == 22 && (k == 3 || k == 4)) (fun a _ => a == 23) g g2 ∧ ∀ c, c < 30 → gm_J g2 23 c = pp (brg g P b q c)))) ∨ (q ≠ P b ∧ ∃ c2, c2 < n ∧ othw g b c2 ∧ (∀ c3, c3 < c2 → ¬ othw g b c3) ∧ ∃ d, d < n ∧ gbf (jA g) (jB g) (jE g) (jm g) b n c2 = (d : Int) ∧ ∃ g2, cv_say n g (b : Int) (pp q) = some (4, g2) ∧ gm_I g2 22 5 = 4 ∧ gm_I g2 22 6 = (c2 : Int) ∧ gm_I g2 22 7 = (b : Int) ∧ gm_I g2 22 8 = (d : Int) ∧ (∀ j, j < d → gm_I g2 24 j = ((gj (jA g) (jB g) (jE g) (jm g) (gbf (jA g) (jB g) (jE g) (jm g) b n) c2 j : Nat) : Int)) ∧ exc W_cc nob g g2) := by
  have h30 := h.1.1.2.2
  have hK : Kb g ≤ 147000 := by
    have := (jm_60 h.2.1).1
    unfold Kb
    omega
  have hO : ∀ c, (ndf (w &&& M) (2 ^ b)).testBit c = true ↔ c < n ∧ othw g b c := by
    intro c
    rw [ndf_bit, Nat.testBit_and, (w3 c).1, Bool.and_eq_true, Bool.and_eq_true, ndd, Nat.testBit_two_pow, Bool.not_eq_true', decide_eq_false_iff_not, m2.2 c]
    unfold othw
    constructor
    · rintro ⟨⟨⟨z1, z2⟩, z3⟩, z4⟩
      exact ⟨z1, fun y => z4 y.symm, z3, z2⟩
    · rintro ⟨z1, z2, z3, z4⟩
      exact ⟨⟨⟨z1, z4⟩, z3⟩, fun y => z2 y.symm⟩
  have hO30 : ndf (w &&& M) (2 ^ b) < 2 ^ 30 := Nat.lt_of_le_of_lt (ndf_le _ _) (Nat.lt_of_le_of_lt Nat.and_le_left w2)
  have hwM : w &&& M < 2147483648 := Nat.lt_of_le_of_lt Nat.and_le_left (Nat.lt_trans w2 (by decide))
  have hsay : ∀ (o : Option (Int × gm_T)), o = (jb2 (cv_bring n g (b : Int) (pp q)) fun (v5 : Int) (g6 : gm_T) => jg (rg v5) (if v5 = 0 then (jl (gm_wI g6 22 3 (zO (gm_I g6 22 3) (zSl 1 (b : Int)))) fun (g8 : gm_T) => jl (gm_wI g8 22 4 (zA (gm_I g8 22 4) (zX (M : Int) (-1)))) fun (g9 : gm_T) => some (v5, g9)) else (some (v5, g6)))) → (∃ i k, LF (hitb n g P b q) n i k ∧ ∃ g2, o = some (5, g2) ∧ gm_I g2 22 5 = 5 ∧ gm_I g2 22 6 = (i : Int) ∧ gm_I g2 22 7 = (k : Int) ∧ gm_I g2 22 8 = 0 ∧ exc W_cc nob g g2) ∨ ((∀ i k, i < n → k < n → ¬ hitb n g P b q i k) ∧ ∃ g2, o = some (0, g2) ∧ gm_I g2 22 3 = ((w ||| 2 ^ b : Nat) : Int) ∧ gm_I g2 22 4 = ((ndf u M : Nat) : Int) ∧ (∀ a k, a ≠ 22 → gm_I g2 a k = gm_I g a k) ∧ exc (fun a k => a == 22 && (k == 3 || k == 4)) (fun a _ => a == 23) g g2 ∧ ∀ c, c < 30 → gm_J g2 23 c = pp (brg g P b q c)) := by
    intro o ho
    rcases cv_bring_eq2 h hb hq with ⟨i, k, z1, g2, z2, z3, z4, z5, z6, z7⟩ | ⟨z1, g2, z2, z3, z4⟩
    · left
      rw [ho, z2, jb2_some, jg_pos (rgk rfl), if_neg (by decide)]
      exact ⟨i, k, z1, g2, rfl, z3, z4, z5, z6, cc_22 z7⟩
    · right
      have a3 : gm_I g2 22 3 = (w : Int) := by rw [z3.1 22 3 rfl]; exact w1
      have a4 : gm_I g2 22 4 = (u : Int) := by rw [z3.1 22 4 rfl]; exact u1
      rw [ho, z2, jb2_some, jg_pos (rgk rfl), if_pos rfl, a3, zSl_1 (by omega), zO_n (by omega) (p30 (by omega)), jl_eq, gI_ne (by decide), a4, zA_not (by omega), jl_eq]
      refine ⟨z1, _, rfl, ?_, gI_eq, fun a k ha => ?_, exc_wI (exc_wI (exc_mono z3 (fun a k q => by cases q) (fun _ _ q => q)) rfl) rfl, fun c hc => z4 c hc⟩
      · rw [gI_ne (by decide), gI_eq]
      · rw [gI_oth ha, gI_oth ha, z3.1 a k rfl]
  unfold cv_say
  rw [jg_pos (by omega), Int.toNat_natCast, m1, jl_eq, w1, zA_n _ (by omega), zSl_1 (by omega), zA_not hwM, jl_eq, jg_pos ⟨by omega, by omega⟩]
  by_cases c1 : ndf (w &&& M) (2 ^ b) = 0
  · left
    rw [if_pos (by rw [c1]; rfl)]
    refine ⟨Or.inr (fun c2 hc2 y => ?_), hsay _ (by rw [zSl_1 (by omega)])⟩
    have := (hO c2).mpr ⟨hc2, y⟩
    rw [c1, Nat.zero_testBit] at this
    cases this
  · rw [if_neg (by omega), h.2.2.2.1 b (by omega)]
    by_cases c2 : q = P b
    · left
      rw [if_pos (show lC (pp (P b)) (pp q) = 0 from lC_0.mpr (by rw [c2]))]
      exact ⟨Or.inl c2, hsay _ (by rw [zSl_1 (by omega)])⟩
    · right
      rw [if_neg (show ¬ lC (pp (P b)) (pp q) = 0 from fun y => c2 (((pp_inj (h.2.2.2.2.2.1 b) hq (by omega) (by decide)).mp (lC_0.mp y)).symm))]
      obtain ⟨c, k1, k2⟩ := low_bit c1
      obtain ⟨k3, k4⟩ := (hO c).mp k1
      have k5 : ∀ c3, c3 < c → ¬ othw g b c3 := fun c3 hc3 y => by
        have := (hO c3).mpr ⟨by omega, y⟩
        rw [k2 c3 hc3] at this
        cases this
      obtain ⟨d, d1, d2⟩ := cn_far (vm h.2.1) hb k4.2.1
      obtain ⟨g2, r1, r2⟩ := cv_tellB_eq h30 h.2.1 (kind := 4) (one := (c : Int)) (two := (b : Int)) k3 hb d2 d1
      rw [jd_ntz_n g (Nat.lt_trans hO30 (by decide)) k1 k2, jb1_some, r1, jb2_some]
      exact ⟨c2, c, k3, k4, k5, d, d1, d2, g2, rfl, r2⟩
theorem IW_moved {n : Nat} {g : gm_T} {P : Nat → plc} (h : IW n g P) {b : Nat} (hb : b < n) {q : plc} (hq : bpl 500 q) {g2 : gm_T} (x : exc wd jk g g2) (hJ : ∀ c, c < 30 → gm_J g2 23 c = pp (brg g P b q c)) (hv : isV n g2 (brg g P b q)) : IW n g2 (brg g P b q) := by
  obtain ⟨b1, b2, b3⟩ := brg_E h hb hq
  exact IW_E (wk_k (exc_mono x (fun a k z => by unfold wk; rw [z]; rfl) (fun _ _ z => z))) h hJ b1 b2 b3 hv
theorem wdj_wd {g g2 : gm_T} (h : exc wd scrJ g g2) : exc wd jk g g2 := exc_mono h (fun _ _ q => q) (fun a k q => by unfold jk; rw [q]; rfl)
theorem wdj_wk {g g2 : gm_T} (h : exc wd jk g g2) : exc wk jk g g2 := exc_mono h (fun a k z => by unfold wk; rw [z]; rfl) (fun _ _ z => z)
theorem keepC_say {g g2 : gm_T} (x : exc (fun a k => a == 22 && (k == 3 || k == 4)) (fun a _ => a == 23) g g2) : keepC g2 = keepC g := keepC_exc x (fun a k q => by
  simp only [Bool.and_eq_true, Bool.or_eq_true, beq_iff_eq] at q
  rcases q with ⟨rfl, rfl | rfl⟩ <;> rfl) (fun a k q => by
  simp only [beq_iff_eq] at q
  subst q
  cases scrJ 23 k <;> rfl)
theorem wd_say {g g2 : gm_T} (x : exc (fun a k => a == 22 && (k == 3 || k == 4)) (fun a _ => a == 23) g g2) : exc wd jk g g2 := exc_mono x (fun a k q => by
  simp only [Bool.and_eq_true, Bool.or_eq_true, beq_iff_eq] at q
  rcases q with ⟨rfl, rfl | rfl⟩ <;> rfl) (fun a k q => by
  simp only [beq_iff_eq] at q
  subst q
  unfold jk
  cases scrJ 23 k <;> rfl)
theorem wd_w {g g2 : gm_T} {a k : Nat} {v : Int} (x : exc wd jk g g2) (h : wd a k = true) : exc wd jk g (gm_wI g2 a k v) := exc_wI x h
theorem exc_stay {g g2 : gm_T} (h : exc (fun a _ => a == 72 || a == 73 || a == 74) nob g g2) : exc wd scrJ g g2 := exc_mono h (fun a k q => by
  simp only [Bool.or_eq_true, beq_iff_eq] at q
  rcases q with (rfl | rfl) | rfl <;> (unfold wd; cases scr _ k <;> rfl)) (fun _ _ q => by cases q)
theorem op_word {n : Nat} {g : gm_T} {P : Nat → plc} (h : IW n g P) (hcl : V_clash g) {a t x y : Int} (ha : rg a) (ht : rg t) (hx : rg x) (hy : rg y) : ∃ r g1 g2, cw_word n g a t x y = some (r, g1) ∧ md_word g1 a t x y = some (r, g2) ∧ (∃ P2, IW n g2 P2) ∧ V_clash g2 ∧ exc wk jk g g2 := by
  have hn := h.1.1
  have h30 := hn.2.2
  unfold cw_word
  simp only [cw_isBit_eq hn ha, jb_tst, cw_isPlacing_eq ht hx hy, jb_gd]
  by_cases h1 : 0 ≤ a ∧ a < (n : Int)
  · obtain ⟨b, rfl⟩ : ∃ b : Nat, a = (b : Int) := ⟨_, (Int.toNat_of_nonneg h1.1).symm⟩
    have hb : b < n := by omega
    have hrb : rt g b < n := Nat.lt_of_le_of_lt (rt_le g b) hb
    rw [if_pos h1]
    by_cases h2 : isPl t x y
    · rw [@if_pos _ (gd _) h2, cc_of_pl h2, jb1_some]
      have hq := pl_bpl h2
      obtain ⟨M, m1, m2⟩ := h.2.2.1 b hb
      obtain ⟨⟨w, u, w1, u1, w2, u2, w3⟩, hcell⟩ := h.2.2.2.2.2.2.2
      have ok := IW_ok h
      have mstart : ∀ g1, keepC g1 = keepC g → ∀ (o : Option (Int × gm_T)), (∀ g5, exc W_gr nob g1 g5 → isGr n g P g5 → (jb2 (md_againstPlace g5 (b : Int) t x y) fun (v6 : Int) (g7 : gm_T) => jg (rg v6) (if v6 = 0 then (jg (0 ≤ (b : Int) ∧ (b : Int) < 30) (jb1 (md_putsNone g7 (gm_I g7 78 (b : Int).toNat)) fun (g10 : gm_T) => jl (gm_wI g10 70 (b : Int).toNat 1) fun (g11 : gm_T) => jb1 (md_stays g11 (b : Int) t x y) fun (g12 : gm_T) => jb1 (md_sizeOf g12 (gm_I g12 78 (b : Int).toNat)) fun (v13 : Int) => some (v13, g12))) else (some (v6, g7)))) = o) → md_word g1 (b : Int) t x y = o := by
        intro g1 e1 o ho
        obtain ⟨g5, k1, k2, k3, k4⟩ := md_groups_C (im h) e1
        unfold md_word
        rw [md_isBit_eq (num_C e1 hn) ha, jb_tst, if_pos h1, md_isPlace_eq ht hx hy, jb_gd, @if_pos _ (gd _) h2, k1, jb1_some]
        exact ho g5 k2 k3
      rcases cv_say_eq h hb hq w1 u1 w2 u2 w3 m1 m2 with ⟨s0, ⟨i, k, s1, g1, s2, s3, s4, s5, s6, s7⟩ | ⟨s1, g1, s2, s3, s4, s5, s6, s7⟩⟩ | ⟨s0, c2, s1, s2, s3, d, s4, s5, g1, s6, s7, s8, s9, s10, s11, s12⟩
      · -- the clash 5
        have e1 := keepC_cc s7
        rw [s2, jb2_some, jg_pos (rgk rfl), if_neg (by decide)]
        obtain ⟨g5, k1, k2, k3, k4⟩ := md_groups_C (im h) e1
        rcases md_apl_eq (im h) k4 k3 hb hq with ⟨z0, ⟨z1, -⟩ | ⟨i2, k2', z1, g2, z2, z3, z4, z5, z6, z7⟩⟩ | ⟨z0, c2, z1, z2, -⟩
        · exact absurd s1.2.2.1 (z1 i k s1.1 s1.2.1)
        · obtain ⟨rfl, rfl⟩ := LF_uniq s1 z1
          have xx : exc km scrJ g1 g2 := exc_tr (km_scr (scr_gr k2)) z7
          refine ⟨-15, g1, g2, rfl, ?_, ⟨P, IW_kw h (exc_tr (cc_kw s7) (km_kw xx))⟩, V_clash_of xx (k := 5) (d := 0) (w := fun _ => 0) (by decide) (by decide) s3 s4 s5 s6 (fun j hj => by omega) z3 z4 z5 z6 (fun j hj => by omega), kw_wk (exc_tr (cc_kw s7) (km_kw xx))⟩
          unfold md_word
          rw [md_isBit_eq (num_C e1 hn) ha, jb_tst, if_pos h1, md_isPlace_eq ht hx hy, jb_gd, @if_pos _ (gd _) h2, k1, jb1_some, show md_againstPlace g5 (b : Int) t x y = some (-15, g2) from z2, jb2_some, jg_pos (rgk rfl), if_neg (by decide)]
        · rcases s0 with s0 | s0
          · exact absurd s0 z0
          · exact absurd z2 (s0 c2 z1)
      · -- it stands
        have e1 := keepC_say s6
        obtain ⟨g5, k1, k2, k3, k4⟩ := md_groups_C (im h) e1
        rcases md_apl_eq (im h) k4 k3 hb hq with ⟨z0, ⟨z1, g7, z2, z3, z4⟩ | ⟨i2, k2', z1, -⟩⟩ | ⟨z0, c2, z1, z2, -⟩
        · have e7 : keepC g7 = keepC g := (keepC_scr z3).trans k4
          have x7 : exc scr scrJ g1 g7 := exc_tr (scr_gr k2) z3
          have c01 : ∀ c, c < n → gm_I g7 71 c = 0 ∨ gm_I g7 71 c = 1 := fun c hc => by
            rw [x7.1 71 c rfl, s5 71 c (by decide)]
            exact (hcell c hc).2.1
          obtain ⟨g10, f1, f2, f3⟩ := md_putsNone_eq hn (num_C e7 hn).2.1 z4 hrb c01
          obtain ⟨g12, l1, l2, l3, l4, l5⟩ := md_stays_eq (g := gm_wI g10 70 b 1) (show b < 30 by omega) t x y
          have H10 := isGr_71 z4 f2
          have H11 : isGr n g P (gm_wI g10 70 b 1) := isGr_w H10 rfl
          have H12 : isGr n g P g12 := isGr_exc H11 l5 (fun a k q => by
            simp only [Bool.or_eq_true, beq_iff_eq] at q
            rcases q with ((rfl | rfl) | rfl) | rfl <;> rfl)
          have xf : exc wd jk g g12 := exc_tr (wd_w (exc_tr (exc_tr (wd_say s6) (wdj_wd (wd_scr x7))) (wdj_wd (wd_71 f2))) rfl) (wdj_wd (exc_stay l5))
          have h443 : gm_I g12 44 3 = (n : Int) := by
            rw [l5.1 44 3 rfl, gI_oth (by decide), f2.1 44 3 rfl]
            exact (num_C e7 hn).2.1
          rw [s2, jb2_some, jg_pos (rgk rfl), if_pos rfl, jg_pos (by omega), Int.toNat_natCast, s5 19 b (by decide), m1, bc_grp h30 h.2.1 _ hb m2, jb1_some]
          refine ⟨_, g1, g12, rfl, ?_, ⟨brg g P b (t, x, y), ?_⟩, V_clash_wd xf hcl, wdj_wk xf⟩
          · unfold md_word
            rw [md_isBit_eq (num_C e1 hn) ha, jb_tst, if_pos h1, md_isPlace_eq ht hx hy, jb_gd, @if_pos _ (gd _) h2, k1, jb1_some, show md_againstPlace g5 (b : Int) t x y = some (0, g7) from z2, jb2_some, jg_pos (rgk rfl), if_pos rfl, jg_pos (by omega), Int.toNat_natCast, (z4 b hb).1, f1, jb1_some, jl_eq, l1, jb1_some, (H12 b hb).1, md_sizeOf_eq hn h443 H12 hrb, jb1_some]
          · have y70 : ∀ c, gm_I g12 70 c = if c = b then 1 else gm_I g 70 c := by
              intro c
              rw [l5.1 70 c rfl]
              by_cases z : c = b
              · rw [if_pos z, z, gI_eq]
              · rw [if_neg z, gI_ne z, f2.1 70 c rfl, x7.1 70 c rfl, s5 70 c (by decide)]
            have y71 : ∀ c, gm_I g12 71 c = if c < n ∧ rt g c = rt g b then 0 else gm_I g 71 c := by
              intro c
              rw [l5.1 71 c rfl, gI_oth (by decide), f3 c, x7.1 71 c rfl, s5 71 c (by decide)]
            have y72 : ∀ c, gm_I g12 72 c = if c = b then t else gm_I g 72 c := by
              intro c
              rw [l2 c, gI_oth (by decide), f2.1 72 c rfl, x7.1 72 c rfl, s5 72 c (by decide)]
            have y73 : ∀ c, gm_I g12 73 c = if c = b then x else gm_I g 73 c := by
              intro c
              rw [l3 c, gI_oth (by decide), f2.1 73 c rfl, x7.1 73 c rfl, s5 73 c (by decide)]
            have y74 : ∀ c, gm_I g12 74 c = if c = b then y else gm_I g 74 c := by
              intro c
              rw [l4 c, gI_oth (by decide), f2.1 74 c rfl, x7.1 74 c rfl, s5 74 c (by decide)]
            have yw : ∀ c, hw g12 c = true ↔ hw g c = true ∨ c = b := fun c => by
              unfold hw
              rw [y70 c, decide_eq_true_eq, decide_eq_true_eq]
              by_cases z : c = b
              · rw [if_pos z]
                exact ⟨fun _ => Or.inr z, fun _ => by decide⟩
              · rw [if_neg z]
                exact ⟨fun y => Or.inl y, fun y => y.resolve_right z⟩
            have yp : ∀ c, hp g12 c = true ↔ hp g c = true ∧ ¬ (c < n ∧ rt g c = rt g b) := fun c => by
              unfold hp
              rw [y71 c, decide_eq_true_eq, decide_eq_true_eq]
              by_cases z : c < n ∧ rt g c = rt g b
              · rw [if_pos z]
                exact ⟨fun y => absurd rfl y, fun y => absurd z y.2⟩
              · rw [if_neg z]
                exact ⟨fun y => ⟨y, z⟩, fun y => y.1⟩
            have c223 : gm_I g12 22 3 = ((w ||| 2 ^ b : Nat) : Int) := by
              rw [l5.1 22 3 rfl, gI_oth (by decide), f2.1 22 3 rfl, x7.1 22 3 rfl, s3]
            have c224 : gm_I g12 22 4 = ((ndf u M : Nat) : Int) := by
              rw [l5.1 22 4 rfl, gI_oth (by decide), f2.1 22 4 rfl, x7.1 22 4 rfl, s4]
            refine IW_moved h hb hq xf (fun c hc => ?_) ⟨⟨w ||| 2 ^ b, ndf u M, c223, c224, Nat.or_lt_two_pow w2 (Nat.pow_lt_pow_right (by decide) (by omega)), Nat.lt_of_le_of_lt (ndf_le _ _) u2, fun c => ⟨?_, ?_⟩⟩, fun c hc => ⟨?_, ?_, fun z => ?_⟩⟩
            · rw [l5.2 23 c rfl]
              show gm_J g10 23 c = _
              rw [f2.2 23 c rfl, x7.2 23 c rfl]
              exact s7 c hc
            · apply dec2
              rw [Nat.testBit_or, (w3 c).1, Bool.or_eq_true, ndd, ndd, yw c, Nat.testBit_two_pow, decide_eq_true_eq]
              constructor
              · rintro (⟨z1, z2⟩ | z)
                · exact ⟨z1, Or.inl z2⟩
                · exact ⟨by omega, Or.inr z.symm⟩
              · rintro ⟨z1, z2 | z2⟩
                · exact Or.inl ⟨z1, z2⟩
                · exact Or.inr z2.symm
            · apply dec2
              rw [ndf_bit, (w3 c).2, Bool.and_eq_true, ndd, ndd, yp c, Bool.not_eq_true', ← Bool.not_eq_true, tb_lt h.2.1 hb m2]
              constructor
              · rintro ⟨⟨z1, z2⟩, z3⟩
                exact ⟨z1, z2, z3⟩
              · rintro ⟨z1, z2, z3⟩
                exact ⟨⟨z1, z2⟩, z3⟩
            · rw [y70 c]
              split
              · exact Or.inr rfl
              · exact (hcell c hc).1
            · rw [y71 c]
              split
              · exact Or.inl rfl
              · exact (hcell c hc).2.1
            · rw [y72 c, y73 c, y74 c]
              by_cases cb : c = b
              · rw [if_pos cb, if_pos cb, if_pos cb, cb, brg_b (ok b) hq.1]
                exact ⟨rfl, rfl, rfl⟩
              · rw [if_neg cb, if_neg cb, if_neg cb]
                have hb2 : brg g P b (t, x, y) c = P c := by
                  by_cases zc : cn g b c
                  · rcases z with z | z
                    · have zw := ((yw c).mp z).resolve_right cb
                      rcases s0 with s0 | s0
                      · rw [s0]
                        exact brg_same ok c
                      · exact absurd ⟨cb, zc, zw⟩ (s0 c hc)
                    · exact absurd ⟨hc, (rt_cn zc).symm⟩ ((yp c).mp z).2
                  · unfold brg
                    rw [@if_neg _ (gd _) zc]
                rw [hb2]
                refine (hcell c hc).2.2 ?_
                rcases z with z | z
                · exact Or.inl (((yw c).mp z).resolve_right cb)
                · exact Or.inr ((yp c).mp z).1
        · exact absurd z1.2.2.1 (s1 i2 k2' z1.1 z1.2.1)
        · rcases s0 with s0 | s0
          · exact absurd s0 z0
          · exact absurd z2 (s0 c2 z1)
      · -- the clash 4
        have e1 := keepC_cc s12
        rw [s6, jb2_some, jg_pos (rgk rfl), if_neg (by decide)]
        obtain ⟨g5, k1, k2, k3, k4⟩ := md_groups_C (im h) e1
        rcases md_apl_eq (im h) k4 k3 hb hq with ⟨z0, -⟩ | ⟨z0, c3, z1, z2, z3, d2, z4, z5, g2, z6, z7, z8, z9, z10, z11, z12⟩
        · rcases z0 with z0 | z0
          · exact absurd z0 s0
          · exact absurd s2 (z0 c2 s1)
        · have hc : c3 = c2 := by
            rcases Nat.lt_trichotomy c3 c2 with q | q | q
            · exact absurd z2 (s3 c3 q)
            · exact q
            · exact absurd s2 (z3 c2 q)
          subst hc
          have hdd : d2 = d := by
            rw [s5] at z5
            omega
          subst hdd
          have xx : exc km scrJ g1 g2 := exc_tr (km_scr (scr_gr k2)) z12
          refine ⟨-14, g1, g2, rfl, ?_, ⟨P, IW_kw h (exc_tr (cc_kw s12) (km_kw xx))⟩, V_clash_of xx (k := 4) (d := d2) (by decide) (by omega) s7 s8 s9 s10 s11 z7 z8 z9 z10 z11, kw_wk (exc_tr (cc_kw s12) (km_kw xx))⟩
          unfold md_word
          rw [md_isBit_eq (num_C e1 hn) ha, jb_tst, if_pos h1, md_isPlace_eq ht hx hy, jb_gd, @if_pos _ (gd _) h2, k1, jb1_some, show md_againstPlace g5 (b : Int) t x y = some (-14, g2) from z6, jb2_some, jg_pos (rgk rfl), if_neg (by decide)]
    · rw [@if_neg _ (gd _) h2]
      refine ⟨_, g, g, rfl, ?_, ⟨P, h⟩, hcl, exc_rf⟩
      unfold md_word
      rw [md_isBit_eq hn ha, jb_tst, if_pos h1, md_isPlace_eq ht hx hy, jb_gd, @if_neg _ (gd _) h2]
  · rw [if_neg h1]
    refine ⟨_, g, g, rfl, ?_, ⟨P, h⟩, hcl, exc_rf⟩
    unfold md_word
    rw [md_isBit_eq hn ha, jb_tst, if_neg h1]
