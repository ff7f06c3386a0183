/-! Counts: the operation count. -/
theorem ct_s1 {p : Nat → Bool} {k : Nat} (h : p k = true) : ((ct p k : Nat) : Int) + 1 = ((ct p (k + 1) : Nat) : Int) := by
  rw [ct_succ, if_pos h]
  rfl
theorem ct_s0 {p : Nat → Bool} {k : Nat} (h : ¬ p k = true) : ((ct p k : Nat) : Int) = ((ct p (k + 1) : Nat) : Int) := by
  rw [ct_succ, if_neg h]
  rfl
theorem bc30 {S n : Nat} {p : Nat → Bool} (g : gm_T) (hS : S < 2 ^ 30) (hn : n ≤ 30) (h : ∀ c, S.testBit c = true ↔ c < n ∧ p c = true) : jd_bitCount g (S : Int) = some ((ct p n : Nat) : Int) := by
  rw [jd_bitCount_n g (Nat.lt_trans hS (by decide)), ct_more (p := S.testBit) (m := n) (fun i hi => by
    cases q : S.testBit i with
    | false => rfl
    | true =>
      have := (h i).mp q
      omega) 31 (by omega), ct_cong (p := S.testBit) (q := p) (fun i hi => by
    apply dec2
    rw [h i]
    exact ⟨fun z => z.2, fun z => ⟨hi, z⟩⟩)]
theorem md_c63_lp {n : Nat} {g : gm_T} (V : V_jm n g) : ∀ (d k fuel : Nat), k + d = jm g → d < fuel → md_count_l63 g fuel ((ct (jE g) k : Nat) : Int) (k : Int) = some ((ct (jE g) (jm g) : Nat) : Int) := by
  obtain ⟨m60, m1, -⟩ := jm_60m V
  intro d
  induction d with
  | zero =>
    intro k fuel hd hf
    obtain ⟨f, rfl⟩ : ∃ f, fuel = f + 1 := ⟨fuel - 1, by omega⟩
    have hk : k = jm g := by omega
    unfold md_count_l63
    rw [m1, jg_pos ⟨rgn (by omega), rgn (by omega)⟩, if_neg (by omega), hk]
  | succ d ih =>
    intro k fuel hd hf
    obtain ⟨f, rfl⟩ : ∃ f, fuel = f + 1 := ⟨fuel - 1, by omega⟩
    have next := ih (k + 1) f (by omega) (by omega)
    have hE : jE g k = decide (gm_I g 69 k ≠ 0) := rfl
    unfold md_count_l63
    rw [m1, jg_pos ⟨rgn (by omega), rgn (by omega)⟩, if_pos (by omega), jg_pos (by omega), Int.toNat_natCast]
    obtain ⟨-, -, -, -, h01, -⟩ := V.2.1 k (by omega)
    rcases h01 with z | z
    · rw [z] at hE
      rw [z, jg_pos (rgk rfl), if_pos rfl, jl_eq, Int.add_zero, ct_s0 (by rw [hE]; decide)]
      exact next
    · rw [z] at hE
      rw [z, jg_pos (rgk rfl), if_neg n10, jl_eq, ct_s1 (by rw [hE]; decide)]
      exact next
noncomputable def isr (g : gm_T) (b : Nat) : Bool := @decide (rt g b = b) (gd _)
theorem isr_iff {g : gm_T} {b : Nat} : isr g b = true ↔ rt g b = b := by
  unfold isr
  exact @decide_eq_true_iff _ (gd _)
theorem md_c98_lp {n : Nat} {g g1 : gm_T} {P : Nat → plc} (h3 : V_num n g1) (H : isGr n g P g1) : ∀ (d k fuel : Nat), k + d = n → d < fuel → md_count_l98 g1 fuel ((ct (isr g) k : Nat) : Int) (k : Int) = some ((ct (isr g) n : Nat) : Int) := by
  have h30 := h3.2.2
  intro d
  induction d with
  | zero =>
    intro k fuel hd hf
    obtain ⟨f, rfl⟩ : ∃ f, fuel = f + 1 := ⟨fuel - 1, by omega⟩
    have hk : k = n := by omega
    unfold md_count_l98
    rw [h3.2.1, jg_pos ⟨rgn (by omega), rgn (by omega)⟩, if_neg (by omega), hk]
  | succ d ih =>
    intro k fuel hd hf
    obtain ⟨f, rfl⟩ : ∃ f, fuel = f + 1 := ⟨fuel - 1, by omega⟩
    have next := ih (k + 1) f (by omega) (by omega)
    have hle := rt_le g k
    unfold md_count_l98
    rw [h3.2.1, jg_pos ⟨rgn (by omega), rgn (by omega)⟩, if_pos (by omega), jg_pos (by omega), Int.toNat_natCast, (H k (by omega)).1, jg_pos (rgn (by omega))]
    by_cases c : rt g k = k
    · rw [if_pos (by omega), jl_eq, ct_s1 (isr_iff.mpr c)]
      exact next
    · rw [if_neg (by omega), jl_eq, Int.add_zero, ct_s0 (fun z => c (isr_iff.mp z))]
      exact next
theorem cj_cg_lp {n : Nat} {g : gm_T} (h30 : n ≤ 30) (G : V_grp n g) : ∀ (d k fuel : Nat), k + d = n → d < fuel → cj_countGroups_l4 g (n : Int) fuel ((ct (isr g) k : Nat) : Int) (k : Int) = some ((ct (isr g) n : Nat) : Int) := by
  intro d
  induction d with
  | zero =>
    intro k fuel hd hf
    obtain ⟨f, rfl⟩ : ∃ f, fuel = f + 1 := ⟨fuel - 1, by omega⟩
    have hk : k = n := by omega
    unfold cj_countGroups_l4
    rw [jg_pos ⟨rgn (by omega), rgn (by omega)⟩, if_neg (by omega), hk]
  | succ d ih =>
    intro k fuel hd hf
    obtain ⟨f, rfl⟩ : ∃ f, fuel = f + 1 := ⟨fuel - 1, by omega⟩
    have next := ih (k + 1) f (by omega) (by omega)
    have hle := rt_le g k
    obtain ⟨M, q1, q2⟩ := G k (by omega)
    unfold cj_countGroups_l4
    rw [jg_pos ⟨rgn (by omega), rgn (by omega)⟩, if_pos (by omega), jg_pos (by omega), Int.toNat_natCast, q1, ntz_grp g q2, jb1_some, jg_pos (rgn (by omega))]
    by_cases c : rt g k = k
    · rw [if_pos (by omega), ct_s1 (isr_iff.mpr c)]
      exact next
    · rw [if_neg (by omega), ct_s0 (fun z => c (isr_iff.mp z))]
      exact next
noncomputable def stb (n : Nat) (g : gm_T) (b : Nat) : Bool := @decide (onW n g b) (gd _)
theorem stb_iff {n : Nat} {g : gm_T} {b : Nat} : stb n g b = true ↔ onW n g b := by
  unfold stb
  exact @decide_eq_true_iff _ (gd _)
theorem md_c134_lp {n : Nat} {g g1 : gm_T} {P : Nat → plc} (hn : V_num n g) (hP : isWm n g P) (eh : keepC g1 = keepC g) (H : isGr n g P g1) : ∀ (d k fuel : Nat), k + d = n → d < fuel → md_count_l134 g1 fuel ((ct (stb n g) k : Nat) : Int) (k : Int) = some ((ct (stb n g) n : Nat) : Int) := by
  have h30 := hn.2.2
  have h3 := num_C eh hn
  intro d
  induction d with
  | zero =>
    intro k fuel hd hf
    obtain ⟨f, rfl⟩ : ∃ f, fuel = f + 1 := ⟨fuel - 1, by omega⟩
    have hk : k = n := by omega
    unfold md_count_l134
    rw [h3.2.1, jg_pos ⟨rgn (by omega), rgn (by omega)⟩, if_neg (by omega), hk]
  | succ d ih =>
    intro k fuel hd hf
    obtain ⟨f, rfl⟩ : ∃ f, fuel = f + 1 := ⟨fuel - 1, by omega⟩
    have next := ih (k + 1) f (by omega) (by omega)
    have hle := rt_le g k
    unfold md_count_l134
    rw [h3.2.1, jg_pos ⟨rgn (by omega), rgn (by omega)⟩, if_pos (by omega), jg_pos (by omega), Int.toNat_natCast, (H k (by omega)).1, md_holder_eq hn hP eh H (r := rt g k) (by omega), jb1_some]
    rcases hl_sp (n := n) g k with ⟨z1, z2⟩ | ⟨c, z1, z2, -, -, z3⟩
    · rw [z1, jg_pos (rgk rfl), if_pos rfl, jl_eq, Int.add_zero, ct_s0 (fun z => z2 (stb_iff.mp z))]
      exact next
    · rw [z2, jg_pos (rgn (by omega)), if_neg (by omega), jl_eq, ct_s1 (stb_iff.mpr z3)]
      exact next
theorem md_c174_lp {n : Nat} {g g1 : gm_T} {P : Nat → plc} (hn : V_num n g1) (hP : isWm n g1 P) (e : hw g1 = hw g) : ∀ (d k fuel : Nat), k + d = n → d < fuel → md_count_l174 g1 fuel ((ct (hw g) k : Nat) : Int) (k : Int) = some ((ct (hw g) n : Nat) : Int) := by
  have h30 := hn.2.2
  intro d
  induction d with
  | zero =>
    intro k fuel hd hf
    obtain ⟨f, rfl⟩ : ∃ f, fuel = f + 1 := ⟨fuel - 1, by omega⟩
    have hk : k = n := by omega
    unfold md_count_l174
    rw [hn.2.1, jg_pos ⟨rgn (by omega), rgn (by omega)⟩, if_neg (by omega), hk]
  | succ d ih =>
    intro k fuel hd hf
    obtain ⟨f, rfl⟩ : ∃ f, fuel = f + 1 := ⟨fuel - 1, by omega⟩
    have next := ih (k + 1) f (by omega) (by omega)
    have hE : hw g k = decide (gm_I g1 70 k ≠ 0) := by rw [← e]; rfl
    unfold md_count_l174
    rw [hn.2.1, jg_pos ⟨rgn (by omega), rgn (by omega)⟩, if_pos (by omega), jg_pos (by omega), Int.toNat_natCast]
    rcases (hP.2.2.2.2.2 k (by omega)).1 with z | z
    · rw [z] at hE
      rw [z, jg_pos (rgk rfl), if_pos rfl, jl_eq, Int.add_zero, ct_s0 (by rw [hE]; decide)]
      exact next
    · rw [z] at hE
      rw [z, jg_pos (rgk rfl), if_neg n10, jl_eq, ct_s1 (by rw [hE]; decide)]
      exact next
noncomputable def pvd (n : Nat) (g : gm_T) (b : Nat) : Bool := decide (¬ pfr n g b = -1)
theorem pfr_sp (n : Nat) (g : gm_T) (b : Nat) : (pfr n g b = -1 ∧ ∀ i, i < n → pf n g b i = false) ∨ ∃ i, i < n ∧ pf n g b i = true ∧ pfr n g b = (i : Int) := amn_sp (pf n g b) (gbf (jA g) (jB g) (bE n g) (jm g) b n) n
theorem md_c213_lp {n : Nat} {g : gm_T} {P : Nat → plc} (h : IWm n g P) {g0 : gm_T} (e0 : keepC g0 = keepC g) (h82 : ∀ i, i < jm g → gm_I g0 82 i = if bE n g i = true then 1 else 0) : ∀ (d k fuel : Nat) (g1 : gm_T), k + d = n → d < fuel → exc W_83 nob g0 g1 → ∃ g2, md_count_l213 fuel ((ct (pvd n g) k : Nat) : Int) (k : Int) g1 = some (((ct (pvd n g) n : Nat) : Int), g2) ∧ exc W_83 nob g0 g2 := by
  have h30 := h.1.1.2.2
  intro d
  induction d with
  | zero =>
    intro k fuel g1 hd hf hx
    obtain ⟨f, rfl⟩ : ∃ f, fuel = f + 1 := ⟨fuel - 1, by omega⟩
    have hk : k = n := by omega
    have e1 := (keepC_scr (scr_83 hx)).trans e0
    have h3 := (num_C e1 h.1.1).2.1
    unfold md_count_l213
    rw [h3, jg_pos ⟨rgn (by omega), rgn (by omega)⟩, if_neg (by omega), hk]
    exact ⟨g1, rfl, hx⟩
  | succ d ih =>
    intro k fuel g1 hd hf hx
    obtain ⟨f, rfl⟩ : ∃ f, fuel = f + 1 := ⟨fuel - 1, by omega⟩
    have e1 := (keepC_scr (scr_83 hx)).trans e0
    have h3 := (num_C e1 h.1.1).2.1
    obtain ⟨g2, r1, r2, r3⟩ := md_provedFrom_eq h e1 (fun i hi => by rw [hx.1 82 i rfl]; exact h82 i hi) (bit := k) (by omega)
    have next := ih (k + 1) f g2 (by omega) (by omega) (exc_tr hx r2)
    have hp : pvd n g k = decide (¬ pfr n g k = -1) := rfl
    unfold md_count_l213
    rw [h3, jg_pos ⟨rgn (by omega), rgn (by omega)⟩, if_pos (by omega), r1, jb2_some]
    rcases pfr_sp n g k with ⟨z1, z2⟩ | ⟨i, z1, z2, z3⟩
    · rw [z1] at hp
      rw [z1, jg_pos (rgk rfl), if_pos rfl, jl_eq, Int.add_zero, ct_s0 (by rw [hp]; decide)]
      exact next
    · rw [z3, decide_eq_true (by omega)] at hp
      rw [z3, jg_pos (rgn (by omega)), if_neg (by omega), jl_eq, ct_s1 hp]
      exact next
theorem pvd_iff {n : Nat} {g : gm_T} (V : V_jm n g) {b : Nat} (hb : b < n) : pvd n g b = true ↔ ∃ c, c < n ∧ hw g c = true ∧ gC (jA g) (jB g) (bE n g) (jm g) b c := by
  unfold pvd
  rw [decide_eq_true_eq]
  rcases pfr_sp n g b with ⟨z1, z2⟩ | ⟨i, z1, z2, z3⟩
  · refine ⟨fun q => absurd z1 q, fun ⟨c, c1, c2⟩ => ?_⟩
    have := z2 c c1
    rw [(pf_iff V hb).mpr c2] at this
    cases this
  · exact ⟨fun _ => ⟨i, z1, (pf_iff V hb).mp z2⟩, fun _ => by omega⟩
theorem cv_proved_eq {n : Nat} {g : gm_T} {P : Nat → plc} (h : IW n g P) : ∃ S : Nat, cv_proved n g = some (S : Int) ∧ S < 2 ^ 30 ∧ ∀ c, S.testBit c = true ↔ c < n ∧ pvd n g c = true := by
  have h30 := h.1.1.2.2
  obtain ⟨w, u, w1, w2, w3, w4, w5⟩ := h.2.2.2.2.2.2.2.1
  unfold cv_proved
  rw [w1, jg_pos ⟨by omega, by omega⟩]
  by_cases c0 : w = 0
  · rw [if_pos (by omega)]
    refine ⟨0, rfl, by decide, fun c => ?_⟩
    rw [Nat.zero_testBit]
    refine ⟨fun z => absurd z (by decide), fun ⟨z1, z2⟩ => ?_⟩
    obtain ⟨b, b1, b2, -⟩ := (pvd_iff (vm h.2.1) z1).mp z2
    have q := (w5 b).1
    rw [c0, Nat.zero_testBit, b2, decide_eq_true b1] at q
    cases q
  · rw [if_neg (by omega)]
    obtain ⟨T, t1, t2⟩ := cv_bestJoins_eq h.1 h.2.1
    obtain ⟨S, s1, s2, s3⟩ := cj_reach_eq h30 (V_jc_of h.2.1) (T := T) (E := bE n g) t2 w3
    rw [t1, jb1_some, s1, jb1_some]
    refine ⟨S, rfl, s2, fun c => ?_⟩
    rw [s3 c]
    constructor
    · rintro ⟨b, b1, b2⟩
      rw [(w5 b).1, Bool.and_eq_true, decide_eq_true_eq] at b1
      have hc : c < n := gC_lt (jend h.2.1).1 b1.1 b2
      exact ⟨hc, (pvd_iff (vm h.2.1) hc).mpr ⟨b, b1.1, b1.2, gC_sy b2⟩⟩
    · rintro ⟨z1, z2⟩
      obtain ⟨b, b1, b2, b3⟩ := (pvd_iff (vm h.2.1) z1).mp z2
      refine ⟨b, ?_, gC_sy b3⟩
      rw [(w5 b).1, b2, decide_eq_true b1]
      rfl
theorem op_count {n : Nat} {g : gm_T} {P : Nat → plc} (h : IW n g P) (hbx : V_box n g) (htp : V_tape g) {a : Int} (ha : rg a) : ∃ r g2, cw_count n g a = some r ∧ md_count g a = some (r, g2) ∧ exc scr scrJ g g2 := by
  have hn := h.1.1
  have h30 := hn.2.2
  obtain ⟨g1, r1, r2, r3, r4⟩ := md_groups_C (im h) (g0 := g) rfl
  have hn1 := num_C r4 hn
  have V1 := V_jm_tr r4 (vm h.2.1)
  have hx := scr_gr r2
  have mt := jm_60 h.2.1
  have f0 : ∀ m, m ≤ 60 → m < fz := fun m hm => Nat.lt_of_le_of_lt hm (fz_gt rfl)
  unfold cw_count md_count
  rw [r1, jb1_some, jg_pos ha, jg_pos ha]
  by_cases a0 : a = 0
  · rw [if_pos a0, if_pos a0, hn.1, hn1.2.1]
    exact ⟨_, g1, rfl, rfl, hx⟩
  rw [if_neg a0, if_neg a0]
  by_cases a1 : a = 1
  · obtain ⟨T, t1, t2, t3⟩ := h.2.1.2.2
    have e1 := md_c63_lp V1 (jm g1) 0 fz (by omega) (f0 _ (jm_60m V1).1)
    rw [if_pos a1, if_pos a1, t1, je_bitCount_n g (Nat.lt_trans t2 (by decide)), jb1_some, show md_count_l63 g1 fz 0 0 = _ from e1, jb1_some, c_jE r4, c_jm r4, ct_more (p := T.testBit) (m := jm g) (fun i hi => by rw [t3 i, decide_eq_false (by omega)]; rfl) 64 (by omega), ct_cong (p := T.testBit) (q := jE g) (fun i hi => by rw [t3 i, decide_eq_true hi, Bool.true_and])]
    exact ⟨_, g1, rfl, rfl, hx⟩
  rw [if_neg a1, if_neg a1]
  by_cases a2 : a = 2
  · have e1 := md_c98_lp hn1 r3 n 0 fz (by omega) (f0 _ (by omega))
    have e2 := cj_cg_lp h30 h.2.2.1 n 0 fz (by omega) (f0 _ (by omega))
    unfold cj_countGroups
    rw [if_pos a2, if_pos a2, hn.1, show cj_countGroups_l4 g (n : Int) fz 0 0 = _ from e2, jb1_some, jb1_some, show md_count_l98 g1 fz 0 0 = _ from e1, jb1_some]
    exact ⟨_, g1, rfl, rfl, hx⟩
  rw [if_neg a2, if_neg a2]
  by_cases a3 : a = 3
  · have e1 := md_c134_lp hn (im h).2.2.2 r4 r3 n 0 fz (by omega) (f0 _ (by omega))
    obtain ⟨S, s1, s2, s3⟩ := cv_standing_eq h
    rw [if_pos a3, if_pos a3, s1, jb1_some, bc30 (p := stb n g) g s2 h30 (fun c => by rw [s3 c, stb_iff]), jb1_some, show md_count_l134 g1 fz 0 0 = _ from e1, jb1_some]
    exact ⟨_, g1, rfl, rfl, hx⟩
  rw [if_neg a3, if_neg a3]
  by_cases a4 : a = 4
  · obtain ⟨w, u, w1, w2, w3, w4, w5⟩ := h.2.2.2.2.2.2.2.1
    have e1 := md_c174_lp hn1 (isWm_tr r4 (im h).2.2.2) (c_hw r4) n 0 fz (by omega) (f0 _ (by omega))
    rw [if_pos a4, if_pos a4, w1, bc30 (p := hw g) g w3 h30 (fun c => by rw [(w5 c).1, Bool.and_eq_true, decide_eq_true_eq]), jb1_some, show md_count_l174 g1 fz 0 0 = _ from e1, jb1_some]
    exact ⟨_, g1, rfl, rfl, hx⟩
  rw [if_neg a4, if_neg a4]
  by_cases a5 : a = 5
  · obtain ⟨g2, q1, q2, q3⟩ := md_judges_eq (im h) r4
    obtain ⟨g3, p1, p2⟩ := md_c213_lp (im h) ((keepC_scr (scr_jd q2)).trans r4) q3 n 0 fz g2 (by omega) (f0 _ (by omega)) exc_rf
    obtain ⟨S, s1, s2, s3⟩ := cv_proved_eq h
    rw [if_pos a5, if_pos a5, s1, jb1_some, bc30 (p := pvd n g) g s2 h30 s3, jb1_some, q1, jb1_some, show md_count_l213 fz 0 0 g2 = _ from p1, jb2_some]
    exact ⟨_, g3, rfl, rfl, exc_tr hx (exc_tr (scr_jd q2) (scr_83 p2))⟩
  rw [if_neg a5, if_neg a5]
  by_cases a6 : a = 6
  · rw [if_pos a6, if_pos a6, hbx.1.1, r2.1 44 87 rfl]
    exact ⟨_, g1, rfl, rfl, hx⟩
  rw [if_neg a6, if_neg a6]
  by_cases a7 : a = 7
  · rw [if_pos a7, if_pos a7, htp.1.1, r2.1 44 2 rfl]
    exact ⟨_, g1, rfl, rfl, hx⟩
  rw [if_neg a7, if_neg a7]
  by_cases a8 : a = 8
  · rw [if_pos a8, if_pos a8, mt.2.2, ← mt.2.1, r2.1 44 24 rfl]
    exact ⟨_, g1, rfl, rfl, hx⟩
  rw [if_neg a8, if_neg a8]
  exact ⟨_, g1, rfl, rfl, hx⟩
