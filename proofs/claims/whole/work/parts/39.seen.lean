/-! What stands, what has a word; group, placed, at. -/
theorem and0 {a b : Nat} : a &&& b = 0 ↔ ∀ i, ¬ (a.testBit i = true ∧ b.testBit i = true) := by
  constructor
  · intro h i q
    have h1 : (a &&& b).testBit i = false := by rw [h]; exact Nat.zero_testBit i
    rw [Nat.testBit_and, q.1, q.2] at h1
    cases h1
  · intro h
    apply Nat.eq_of_testBit_eq
    intro i
    rw [Nat.testBit_and, Nat.zero_testBit]
    cases ha : a.testBit i with
    | false => rfl
    | true =>
      cases hb : b.testBit i with
      | false => rfl
      | true => exact absurd ⟨ha, hb⟩ (h i)
def onW (n : Nat) (g : gm_T) (b : Nat) : Prop := ∃ c, c < n ∧ cn g b c ∧ (hw g c = true ∨ hp g c = true)
def hasW (n : Nat) (g : gm_T) (b : Nat) : Prop := ∃ c, c < n ∧ cn g b c ∧ hw g c = true
def IW (n : Nat) (g : gm_T) (P : Nat → plc) : Prop := I_fit n g ∧ V_jn n g ∧ V_grp n g ∧ isW n g P
theorem IW_tr {n : Nat} {g g2 : gm_T} {P : Nat → plc} (e : keepA g2 = keepA g) (h : IW n g P) : IW n g2 P := ⟨I_fit_tr (keepF_A e) h.1, V_jn_tr e h.2.1, V_grp_tr e h.2.2.1, isW_tr e h.2.2.2⟩
theorem IW_ok {n : Nat} {g : gm_T} {P : Nat → plc} (h : IW n g P) (c : Nat) : okt (P c) := (h.2.2.2.2.2.1 c).1
def IWm (n : Nat) (g : gm_T) (P : Nat → plc) : Prop := I_fit n g ∧ V_jm n g ∧ True ∧ isWm n g P
theorem im {n : Nat} {g : gm_T} {P : Nat → plc} (h : IW n g P) : IWm n g P := ⟨h.1, vm h.2.1, trivial, wm h.2.2.2⟩
theorem IWm_tr {n : Nat} {g g2 : gm_T} {P : Nat → plc} (e : keepC g2 = keepC g) (h : IWm n g P) : IWm n g2 P := ⟨I_fit_tr (keepF_C e) h.1, V_jm_tr e h.2.1, trivial, isWm_tr e h.2.2.2⟩
theorem IWm_ok {n : Nat} {g : gm_T} {P : Nat → plc} (h : IWm n g P) (c : Nat) : okt (P c) := (h.2.2.2.2.2.1 c).1
theorem ndd {b n : Nat} {x : Bool} : (decide (b < n) && x) = true ↔ b < n ∧ x = true := by
  rw [Bool.and_eq_true, decide_eq_true_eq]
theorem cv_stands_eq {n : Nat} {g : gm_T} {P : Nat → plc} (h : IW n g P) {b : Nat} (hb : b < n) : cv_stands g (b : Int) = some (@ite _ (onW n g b) (gd _) 1 0) := by
  obtain ⟨I, V, G, W⟩ := h
  have h30 := I.1.2.2
  obtain ⟨M, m1, m2, m3⟩ := G b hb
  obtain ⟨-, -, -, -, ⟨w, u, w1, u1, w2, u2, w3⟩, -⟩ := W
  unfold cv_stands
  rw [jg_pos (by omega), Int.toNat_natCast, m1, w1, u1, zO_n (by omega) (by omega), zA_n _ (Nat.lt_trans (Nat.or_lt_two_pow w2 u2) (by decide))]
  by_cases c : (w ||| u) &&& M = 0
  · rw [if_pos (by rw [c]; rfl), @if_neg _ (gd _)]
    rintro ⟨x, x1, x2, x3⟩
    refine and0.mp c x ⟨?_, (m3 x).mpr x2⟩
    rw [Nat.testBit_or, (w3 x).1, (w3 x).2, Bool.or_eq_true, ndd, ndd]
    rcases x3 with x3 | x3
    · exact Or.inl ⟨x1, x3⟩
    · exact Or.inr ⟨x1, x3⟩
  · rw [if_neg (by omega), @if_pos _ (gd _)]
    apply Classical.byContradiction
    intro hno
    apply c
    rw [and0]
    rintro i ⟨q1, q2⟩
    rw [Nat.testBit_or, (w3 i).1, (w3 i).2, Bool.or_eq_true, ndd, ndd] at q1
    rcases q1 with q1 | q1
    · exact hno ⟨i, q1.1, (m3 i).mp q2, Or.inl q1.2⟩
    · exact hno ⟨i, q1.1, (m3 i).mp q2, Or.inr q1.2⟩
theorem cv_ghw_eq {n : Nat} {g : gm_T} {P : Nat → plc} (h : IW n g P) {b : Nat} (hb : b < n) : cv_groupHasWord g (b : Int) = some (@ite _ (hasW n g b) (gd _) 1 0) := by
  obtain ⟨I, V, G, W⟩ := h
  have h30 := I.1.2.2
  obtain ⟨M, m1, m2, m3⟩ := G b hb
  obtain ⟨-, -, -, -, ⟨w, u, w1, u1, w2, u2, w3⟩, -⟩ := W
  unfold cv_groupHasWord
  rw [jg_pos (by omega), Int.toNat_natCast, m1, w1, zA_n _ (by omega)]
  by_cases c : w &&& M = 0
  · rw [if_pos (by rw [c]; rfl), @if_neg _ (gd _)]
    rintro ⟨x, x1, x2, x3⟩
    refine and0.mp c x ⟨?_, (m3 x).mpr x2⟩
    rw [(w3 x).1, ndd]
    exact ⟨x1, x3⟩
  · rw [if_neg (by omega), @if_pos _ (gd _)]
    apply Classical.byContradiction
    intro hno
    apply c
    rw [and0]
    rintro i ⟨q1, q2⟩
    rw [(w3 i).1, ndd] at q1
    exact hno ⟨i, q1.1, (m3 i).mp q2, q1.2⟩
theorem cv_hasWord_eq {n : Nat} {g : gm_T} {P : Nat → plc} (h : IW n g P) {b : Nat} (hb : b < n) : cv_hasWord g (b : Int) = some (if hw g b = true then 1 else 0) := by
  obtain ⟨I, V, G, W⟩ := h
  have h30 := I.1.2.2
  obtain ⟨-, -, -, -, ⟨w, u, w1, u1, w2, u2, w3⟩, -⟩ := W
  unfold cv_hasWord
  rw [w1, zbit (by omega) (by omega), (w3 b).1, decide_eq_true hb, Bool.true_and]
  by_cases c : hw g b = true
  · rw [if_pos c, if_neg n10]
  · rw [if_neg c, if_pos rfl]
theorem jb_gd {β : Type} {c : Prop} {X Y : Option β} : jb1 (some (@ite _ c (gd _) (1 : Int) 0)) (fun v => jg (rg v) (if v = 0 then X else Y)) = @ite _ c (gd _) Y X := by
  by_cases h : c
  · rw [@if_pos _ (gd _) h, @if_pos _ (gd _) h, jb1_some, jg_pos (rgk rfl), if_neg n10]
  · rw [@if_neg _ (gd _) h, @if_neg _ (gd _) h, jb1_some, jg_pos (rgk rfl), if_pos rfl]
theorem pw_iff {g : gm_T} {r b : Nat} : pw g r b = true ↔ rt g b = r ∧ hw g b = true := by
  unfold pw
  rw [Bool.and_eq_true, @decide_eq_true_eq _ (gd _)]
theorem pu_iff {g : gm_T} {r b : Nat} : pu g r b = true ↔ rt g b = r ∧ hp g b = true := by
  unfold pu
  rw [Bool.and_eq_true, @decide_eq_true_eq _ (gd _)]
theorem fb_none {p : Nat → Bool} {n : Nat} : fb p n 0 = -1 ↔ ∀ i, i < n → p i = false := by
  rcases fb_sp p n 0 with ⟨h1, h2⟩ | ⟨i, h1, h2, h3, h4, h5⟩
  · exact ⟨fun _ i hi => h2 i (Nat.zero_le _) (by omega), fun _ => h1⟩
  · constructor
    · intro q
      omega
    · intro q
      rw [q i (by omega)] at h3
      cases h3
/-- the holder of a group: none, or a bit of it with its place -/
theorem hl_sp {n : Nat} (g : gm_T) (b : Nat) : (hl n g (rt g b) = -1 ∧ ¬ onW n g b) ∨ ∃ c, c < n ∧ hl n g (rt g b) = (c : Int) ∧ cn g b c ∧ (hw g c = true ∨ hp g c = true) ∧ onW n g b := by
  unfold hl
  rcases fb_sp (pw g (rt g b)) n 0 with ⟨h1, h2⟩ | ⟨i, h1, h2, h3, h4, h5⟩
  · rw [if_pos h1]
    rcases fb_sp (pu g (rt g b)) n 0 with ⟨k1, k2⟩ | ⟨i, k1, k2, k3, k4, k5⟩
    · refine Or.inl ⟨k1, ?_⟩
      rintro ⟨c, c1, c2, c3 | c3⟩
      · have := h2 c (Nat.zero_le _) (by omega)
        rw [pw_iff.mpr ⟨(rt_cn c2).symm, c3⟩] at this
        cases this
      · have := k2 c (Nat.zero_le _) (by omega)
        rw [pu_iff.mpr ⟨(rt_cn c2).symm, c3⟩] at this
        cases this
    · obtain ⟨q1, q2⟩ := pu_iff.mp k3
      have hcn : cn g b i := rt_iff.mp q1.symm
      exact Or.inr ⟨i, by omega, k4, hcn, Or.inr q2, i, by omega, hcn, Or.inr q2⟩
  · rw [if_neg (by omega)]
    obtain ⟨q1, q2⟩ := pw_iff.mp h3
    have hcn : cn g b i := rt_iff.mp q1.symm
    exact Or.inr ⟨i, by omega, h4, hcn, Or.inl q2, i, by omega, hcn, Or.inl q2⟩
theorem md_onWall_eq {n : Nat} {g : gm_T} {P : Nat → plc} (h : IWm n g P) {g1 : gm_T} (eh : keepC g1 = keepC g) (H : isGr n g P g1) {b : Nat} (hb : b < n) : (¬ onW n g b ∧ md_onWall g1 (b : Int) = some (0, g1)) ∨ (onW n g b ∧ ∃ g2, md_onWall g1 (b : Int) = some (1, g2) ∧ pH g2 = P b ∧ exc W_p nob g1 g2) := by
  have h30 := h.1.1.2.2
  have ok := IWm_ok h
  have hrt : rt g b < n := Nat.lt_of_le_of_lt (rt_le g b) hb
  have h1 := md_holder_eq h.1.1 h.2.2.2 eh H hrt
  unfold md_onWall
  rw [jg_pos (by omega), Int.toNat_natCast, (H b hb).1, h1, jb1_some]
  rcases hl_sp (n := n) g b with ⟨q1, q2⟩ | ⟨c, c1, c2, c3, c4, c5⟩
  · left
    rw [q1, jg_pos (rgk rfl), if_pos rfl]
    exact ⟨q2, rfl⟩
  · right
    rw [c2, jg_pos (rgn (by omega)), if_neg (by omega), jg_pos (by omega), Int.toNat_natCast]
    refine ⟨c5, ?_⟩
    obtain ⟨g2, e1, e2, e3⟩ := md_holds_eq g1 (gm_I g1 72 c) (gm_I g1 73 c) (gm_I g1 74 c)
    have h1w := (isWm_tr eh h.2.2.2).2.2.2.2.2 c c1
    have hpl : pH g2 = P c := by
      rw [e2]
      obtain ⟨z1, z2, z3⟩ := h1w.2.2 (by rw [c_hw eh, c_hp eh]; exact c4)
      rw [z1, z2, z3]
    have K := h.2.2.2.2.2.1 c
    have hK : Kb g ≤ 147000 := by
      have := (jm_60m h.2.1).1
      unfold Kb
      omega
    obtain ⟨g3, f1, f2, f3⟩ := md_thenWithin_eq h.1 h.2.1 h.2.2.2 (isGr_p H e3) c1 hb (gC_sy c3) (M := Kb g) (by rw [hpl]; exact K) (by omega) (by unfold Kb; omega)
    rw [e1, jb1_some, f1, jb1_some]
    refine ⟨g3, rfl, ?_, exc_tr e3 f3⟩
    rw [f2, hpl, pon_rel (ok _) (ok _)]
/-- some bit but one of the group has a word -/
theorem md_hwi_lp {n : Nat} {g : gm_T} {P : Nat → plc} (h : IWm n g P) {g1 : gm_T} (eh : keepC g1 = keepC g) (H : isGr n g P g1) {r : Nat} (hr : r < n) {but : Int} (hbt : rg but) : ∀ (d k fuel : Nat), k + d = n → d < fuel → md_hasWordIn_l5 g1 (r : Int) but fuel (@ite _ (∃ c, c < k ∧ rt g c = r ∧ (c : Int) ≠ but ∧ hw g c = true) (gd _) 1 0) (k : Int) = some (@ite _ (∃ c, c < n ∧ rt g c = r ∧ (c : Int) ≠ but ∧ hw g c = true) (gd _) 1 0) := by
  have h30 := h.1.1.2.2
  have h3 : gm_I g1 44 3 = (n : Int) := (I_fit_tr (keepF_C eh) h.1).1.2.1
  intro d
  induction d with
  | zero =>
    intro k fuel hd hf
    obtain ⟨f, rfl⟩ : ∃ f, fuel = f + 1 := ⟨fuel - 1, by omega⟩
    have hk : k = n := by omega
    subst hk
    unfold md_hasWordIn_l5
    rw [h3, jg_pos ⟨rgn (by omega), rgn (by omega)⟩, if_neg (by omega)]
  | succ d ih =>
    intro k fuel hd hf
    obtain ⟨f, rfl⟩ : ∃ f, fuel = f + 1 := ⟨fuel - 1, by omega⟩
    have next := ih (k + 1) f (by omega) (by omega)
    have w01 := ((isWm_tr eh h.2.2.2).2.2.2.2.2 k (by omega)).1
    have hhw : hw g k = decide (gm_I g1 70 k ≠ 0) := by rw [← c_hw eh]; rfl
    have hrt := rt_le g k
    unfold md_hasWordIn_l5
    rw [h3, jg_pos ⟨rgn (by omega), rgn (by omega)⟩, if_pos (by omega)]
    by_cases c0 : ∃ c, c < k ∧ rt g c = r ∧ (c : Int) ≠ but ∧ hw g c = true
    · have c1 : ∃ c, c < k + 1 ∧ rt g c = r ∧ (c : Int) ≠ but ∧ hw g c = true := by
        obtain ⟨c, q1, q2⟩ := c0
        exact ⟨c, by omega, q2⟩
      rw [@if_pos _ (gd _) c1] at next
      rw [@if_pos _ (gd _) c0, jg_pos (rgk rfl), if_neg n10]
      exact next
    · rw [@if_neg _ (gd _) c0, jg_pos (rgk rfl), if_pos rfl, jg_pos (by omega), Int.toNat_natCast, (H k (by omega)).1, jg_pos ⟨rgn (by omega), rgn (by omega)⟩]
      have no : ¬ (rt g k = r ∧ (k : Int) ≠ but ∧ hw g k = true) → md_hasWordIn_l5 g1 (r : Int) but f 0 ((k : Int) + 1) = some (@ite _ (∃ c, c < n ∧ rt g c = r ∧ (c : Int) ≠ but ∧ hw g c = true) (gd _) 1 0) := by
        intro hno
        have c1 : ¬ ∃ c, c < k + 1 ∧ rt g c = r ∧ (c : Int) ≠ but ∧ hw g c = true := by
          rintro ⟨c, q1, q2⟩
          by_cases hc : c = k
          · subst hc
            exact hno q2
          · exact c0 ⟨c, by omega, q2⟩
        rw [@if_neg _ (gd _) c1] at next
        exact next
      by_cases d1 : rt g k = r
      · rw [if_pos (by omega), jg_pos hbt]
        by_cases d2 : (k : Int) = but
        · rw [if_pos d2]
          exact no (fun q => q.2.1 d2)
        · rw [if_neg d2]
          rcases w01 with q | q
          · rw [q, jg_pos (rgk rfl), if_pos rfl]
            refine no (fun z => ?_)
            rw [hhw, q] at z
            exact absurd z.2.2 (by decide)
          · rw [q, jg_pos (rgk rfl), if_neg n10]
            have c1 : ∃ c, c < k + 1 ∧ rt g c = r ∧ (c : Int) ≠ but ∧ hw g c = true := ⟨k, by omega, d1, d2, by rw [hhw, q]; rfl⟩
            rw [@if_pos _ (gd _) c1] at next
            exact next
      · rw [if_neg (by omega)]
        exact no (fun q => d1 q.1)
theorem md_hwi_eq {n : Nat} {g : gm_T} {P : Nat → plc} (h : IWm n g P) {g1 : gm_T} (eh : keepC g1 = keepC g) (H : isGr n g P g1) {r : Nat} (hr : r < n) {but : Int} (hbt : rg but) : md_hasWordIn g1 (r : Int) but = some (@ite _ (∃ c, c < n ∧ rt g c = r ∧ (c : Int) ≠ but ∧ hw g c = true) (gd _) 1 0) := by
  have h30 := h.1.1.2.2
  have h1 := md_hwi_lp h eh H hr hbt n 0 fz (by omega) (Nat.lt_of_le_of_lt h30 (fz_gt rfl))
  rw [@if_neg _ (gd _) (show ¬ ∃ c, c < 0 ∧ rt g c = r ∧ (c : Int) ≠ but ∧ hw g c = true from fun ⟨c, q, _⟩ => by omega)] at h1
  unfold md_hasWordIn
  rw [show md_hasWordIn_l5 g1 (r : Int) but fz 0 0 = _ from h1, jb1_some, jg_pos]
  by_cases c : ∃ c, c < n ∧ rt g c = r ∧ (c : Int) ≠ but ∧ hw g c = true
  · exact Or.inr (@if_pos _ (gd _) c _ _ _)
  · exact Or.inl (@if_neg _ (gd _) c _ _ _)
theorem md_hwi_all {n : Nat} {g : gm_T} {P : Nat → plc} (h : IWm n g P) {g1 : gm_T} (eh : keepC g1 = keepC g) (H : isGr n g P g1) {b : Nat} (hb : b < n) : md_hasWordIn g1 ((rt g b : Nat) : Int) (-1) = some (@ite _ (hasW n g b) (gd _) 1 0) := by
  have hrt : rt g b < n := Nat.lt_of_le_of_lt (rt_le g b) hb
  rw [md_hwi_eq h eh H hrt (rgk rfl)]
  congr 1
  by_cases c : hasW n g b
  · rw [@if_pos _ (gd _) c, @if_pos _ (gd _)]
    obtain ⟨x, x1, x2, x3⟩ := c
    exact ⟨x, x1, (rt_cn x2).symm, by omega, x3⟩
  · rw [@if_neg _ (gd _) c, @if_neg _ (gd _)]
    rintro ⟨x, x1, x2, x3, x4⟩
    exact c ⟨x, x1, rt_iff.mp x2.symm, x4⟩
-- how many
noncomputable def gsz (n : Nat) (g : gm_T) (r : Nat) : Nat := ct (fun c => @decide (rt g c = r) (gd _)) n
theorem md_size_lp {n : Nat} {g : gm_T} {P : Nat → plc} (hn : V_num n g) {g1 : gm_T} (h3 : gm_I g1 44 3 = (n : Int)) (H : isGr n g P g1) {r : Nat} (hr : r < n) : ∀ (d k fuel : Nat), k + d = n → d < fuel → md_sizeOf_l4 g1 (r : Int) fuel ((ct (fun c => @decide (rt g c = r) (gd _)) k : Nat) : Int) (k : Int) = some ((gsz n g r : Nat) : Int) := by
  have h30 := hn.2.2
  intro d
  induction d with
  | zero =>
    intro k fuel hd hf
    obtain ⟨f, rfl⟩ : ∃ f, fuel = f + 1 := ⟨fuel - 1, by omega⟩
    have hk : k = n := by omega
    subst hk
    unfold md_sizeOf_l4
    rw [h3, jg_pos ⟨rgn (by omega), rgn (by omega)⟩, if_neg (by omega)]
    rfl
  | succ d ih =>
    intro k fuel hd hf
    obtain ⟨f, rfl⟩ : ∃ f, fuel = f + 1 := ⟨fuel - 1, by omega⟩
    have next := ih (k + 1) f (by omega) (by omega)
    have hrt := rt_le g k
    rw [ct_succ] at next
    unfold md_sizeOf_l4
    rw [h3, jg_pos ⟨rgn (by omega), rgn (by omega)⟩, if_pos (by omega), jg_pos (by omega), Int.toNat_natCast, (H k (by omega)).1, jg_pos ⟨rgn (by omega), rgn (by omega)⟩]
    by_cases c : rt g k = r
    · rw [@decide_eq_true _ (gd _) c] at next
      rw [if_pos (by omega), jl_eq]
      exact next
    · rw [@decide_eq_false _ (gd _) c] at next
      rw [if_neg (by omega), jl_eq]
      exact next
theorem md_sizeOf_eq {n : Nat} {g : gm_T} {P : Nat → plc} (hn : V_num n g) {g1 : gm_T} (h3 : gm_I g1 44 3 = (n : Int)) (H : isGr n g P g1) {r : Nat} (hr : r < n) : md_sizeOf g1 (r : Int) = some ((gsz n g r : Nat) : Int) := by
  have h30 := hn.2.2
  have h1 := md_size_lp hn h3 H hr n 0 fz (by omega) (Nat.lt_of_le_of_lt h30 (fz_gt rfl))
  unfold md_sizeOf
  rw [show md_sizeOf_l4 g1 (r : Int) fz 0 0 = _ from h1, jb1_some]
theorem isG_size {n : Nat} {g : gm_T} (h30 : n ≤ 30) (V : V_jn n g) {b M : Nat} (hb : b < n) (h : isG g b M) : ct M.testBit 31 = gsz n g (rt g b) := by
  have h1 : ∀ i, n ≤ i → M.testBit i = false := by
    intro i hi
    cases q : M.testBit i with
    | false => rfl
    | true =>
      have := cn_lt V hb ((h.2 i).mp q)
      omega
  rw [ct_more h1 31 (by omega)]
  refine ct_cong (fun i hi => ?_)
  by_cases c : rt g i = rt g b
  · rw [@decide_eq_true _ (gd _) c]
    exact (h.2 i).mpr (rt_iff.mp c.symm)
  · rw [@decide_eq_false _ (gd _) c]
    cases q : M.testBit i with
    | false => rfl
    | true => exact absurd (rt_cn ((h.2 i).mp q)).symm c
theorem bc_grp {n : Nat} {g : gm_T} (h30 : n ≤ 30) (V : V_jn n g) (g' : gm_T) {b M : Nat} (hb : b < n) (h : isG g b M) : jd_bitCount g' (M : Int) = some ((gsz n g (rt g b) : Nat) : Int) := by
  rw [jd_bitCount_n g' (Nat.lt_trans h.1 (by decide)), isG_size h30 V hb h]
-- joins of a group
theorem cj_countIn_lp {n : Nat} {g : gm_T} (h30 : n ≤ 30) (V : V_jn n g) {b M : Nat} (hb : b < n) (h : isG g b M) : ∀ (d k fuel : Nat), k + d = jm g → d < fuel → cj_countIn_l4 g (M : Int) fuel ((ct (fun j => jE g j && @decide (rt g (jA g j) = rt g b) (gd _)) k : Nat) : Int) (k : Int) = some ((ct (fun j => jE g j && @decide (rt g (jA g j) = rt g b) (gd _)) (jm g) : Nat) : Int) := by
  obtain ⟨m60, m1, m2⟩ := jm_60 V
  obtain ⟨T, t1, t2⟩ := isM_jE V
  intro d
  induction d with
  | zero =>
    intro k fuel hd hf
    obtain ⟨f, rfl⟩ : ∃ f, fuel = f + 1 := ⟨fuel - 1, by omega⟩
    have hk : k = jm g := by omega
    unfold cj_countIn_l4
    rw [m2, jg_pos ⟨rgn (by omega), rgn (by omega)⟩, if_neg (by omega), hk]
  | succ d ih =>
    intro k fuel hd hf
    obtain ⟨f, rfl⟩ : ∃ f, fuel = f + 1 := ⟨fuel - 1, by omega⟩
    have next := ih (k + 1) f (by omega) (by omega)
    obtain ⟨⟨a1, a2, a3⟩, -⟩ := V.2.1 k (by omega)
    rw [ct_succ] at next
    unfold cj_countIn_l4
    rw [m2, jg_pos ⟨rgn (by omega), rgn (by omega)⟩, if_pos (by omega), t1, isIn_eq g (Nat.lt_trans t2.1 (by decide)) (by omega), jb_tst, t2.2 k (by omega)]
    by_cases c : jE g k = true
    · rw [c, Bool.true_and] at next
      rw [if_pos c, jg_pos (by omega), Int.toNat_natCast, a1, a2, zbit (Nat.lt_trans h.1 (by decide)) (by omega)]
      by_cases c2 : M.testBit (jA g k) = true
      · rw [@decide_eq_true _ (gd _) (rt_cn ((h.2 _).mp c2)).symm] at next
        rw [if_pos c2, if_neg n10]
        exact next
      · rw [@decide_eq_false _ (gd _) (fun q => c2 ((h.2 _).mpr (rt_iff.mp q.symm)))] at next
        rw [if_neg c2, if_pos rfl]
        exact next
    · have c' : jE g k = false := by
        cases q : jE g k with
        | false => rfl
        | true => exact absurd q c
      rw [c', Bool.false_and] at next
      rw [if_neg c]
      exact next
theorem md_joinsIn_lp {n : Nat} {g : gm_T} {P : Nat → plc} (h : IWm n g P) {g1 : gm_T} (eh : keepC g1 = keepC g) (H : isGr n g P g1) {b : Nat} (hb : b < n) : ∀ (d k fuel : Nat), k + d = jm g → d < fuel → md_joinsIn_l4 g1 ((rt g b : Nat) : Int) fuel ((ct (fun j => jE g j && @decide (rt g (jA g j) = rt g b) (gd _)) k : Nat) : Int) (k : Int) = some ((ct (fun j => jE g j && @decide (rt g (jA g j) = rt g b) (gd _)) (jm g) : Nat) : Int) := by
  have h30 := h.1.1.2.2
  have hrb := rt_le g b
  have V1 := V_jm_tr eh h.2.1
  obtain ⟨m60, m1, m2⟩ := jm_60m V1
  rw [c_jm eh] at m60 m1
  intro d
  induction d with
  | zero =>
    intro k fuel hd hf
    obtain ⟨f, rfl⟩ : ∃ f, fuel = f + 1 := ⟨fuel - 1, by omega⟩
    have hk : k = jm g := by omega
    unfold md_joinsIn_l4
    rw [m1, jg_pos ⟨rgn (by omega), rgn (by omega)⟩, if_neg (by omega), hk]
  | succ d ih =>
    intro k fuel hd hf
    obtain ⟨f, rfl⟩ : ∃ f, fuel = f + 1 := ⟨fuel - 1, by omega⟩
    have next := ih (k + 1) f (by omega) (by omega)
    obtain ⟨⟨-, a2, a3⟩, -, -, -, h01, -⟩ := V1.2.1 k (by rw [c_jm eh]; omega)
    have hE : jE g k = decide (gm_I g1 69 k ≠ 0) := by rw [← c_jE eh]; rfl
    rw [c_jA eh] at a2 a3
    have hra := rt_le g (jA g k)
    rw [ct_succ] at next
    unfold md_joinsIn_l4
    rw [m1, jg_pos ⟨rgn (by omega), rgn (by omega)⟩, if_pos (by omega), jg_pos (by omega), Int.toNat_natCast, a2]
    rcases h01 with q | q
    · rw [hE, q] at next
      rw [q, jg_pos (rgk rfl), if_pos rfl, jl_eq]
      exact next
    · rw [hE, q] at next
      rw [q, jg_pos (rgk rfl), if_neg n10, jg_pos (by omega), Int.toNat_natCast, (H _ a3).1, jg_pos ⟨rgn (by omega), rgn (by omega)⟩]
      by_cases c2 : rt g (jA g k) = rt g b
      · rw [@decide_eq_true _ (gd _) c2] at next
        rw [if_pos (by omega), jl_eq]
        exact next
      · rw [@decide_eq_false _ (gd _) c2] at next
        rw [if_neg (by omega), jl_eq]
        exact next
theorem ntz_grp {g : gm_T} (g' : gm_T) {b M : Nat} (h : isG g b M) : jd_numberOfTrailingZeros g' (M : Int) = some ((rt g b : Nat) : Int) := by
  refine jd_ntz_n g' (Nat.lt_trans h.1 (by decide)) ((h.2 _).mpr (rt_sp g b).1) (fun j hj => ?_)
  cases q : M.testBit j with
  | false => rfl
  | true =>
    have := (rt_sp g b).2 j ((h.2 j).mp q)
    omega
theorem op_group {n : Nat} {g : gm_T} {P : Nat → plc} (h : IW n g P) {a w : Int} (ha : rg a) (hw' : rg w) : ∃ r g2, cw_group g a w = some r ∧ md_group g a w = some (r, g2) ∧ exc scr scrJ g g2 := by
  have hn := h.1.1
  have h30 := hn.2.2
  unfold cw_group md_group
  simp only [cw_isBit_eq hn ha, md_isBit_eq hn ha, jb_tst]
  by_cases h1 : 0 ≤ a ∧ a < (n : Int)
  · obtain ⟨b, rfl⟩ : ∃ b : Nat, a = (b : Int) := ⟨_, (Int.toNat_of_nonneg h1.1).symm⟩
    have hb : b < n := by omega
    obtain ⟨M, m1, m2⟩ := h.2.2.1 b hb
    obtain ⟨g1, e1, e2, e3⟩ := md_groups_eq h.1 (vm h.2.1) (wm h.2.2.2)
    have eh := keepC_scr (scr_gr e2)
    have hrt := rt_le g b
    have m60 := (jm_60 h.2.1).1
    rw [if_pos h1, if_pos h1, jg_pos (by omega), Int.toNat_natCast, m1, jl_eq, jg_pos hw', e1, jb1_some, jg_pos hw', jg_pos (by omega), jg_pos (by omega), jg_pos (by omega), (e3 b hb).1]
    by_cases w0 : w = 0
    · rw [if_pos w0, if_pos w0, ntz_grp g m2, jb1_some]
      exact ⟨_, g1, rfl, rfl, scr_gr e2⟩
    · by_cases w1 : w = 1
      · rw [if_neg w0, if_pos w1, if_neg w0, if_pos w1, bc_grp h30 h.2.1 g hb m2, jb1_some, md_sizeOf_eq hn (by rw [e2.1 44 3 rfl]; exact hn.2.1) e3 (by omega), jb1_some]
        exact ⟨_, g1, rfl, rfl, scr_gr e2⟩
      · by_cases w2 : w = 2
        · have k1 := cj_countIn_lp h30 h.2.1 hb m2 (jm g) 0 fz (by omega) (Nat.lt_of_le_of_lt m60 (fz_gt rfl))
          have k2 := md_joinsIn_lp (im h) eh e3 hb (jm g) 0 fz (by omega) (Nat.lt_of_le_of_lt m60 (fz_gt rfl))
          rw [if_neg w0, if_neg w1, if_pos w2, if_neg w0, if_neg w1, if_pos w2]
          unfold cj_countIn md_joinsIn
          rw [show cj_countIn_l4 g (M : Int) fz 0 0 = _ from k1, show md_joinsIn_l4 g1 ((rt g b : Nat) : Int) fz 0 0 = _ from k2]
          exact ⟨_, g1, rfl, rfl, scr_gr e2⟩
        · rw [if_neg w0, if_neg w1, if_neg w2, if_neg w0, if_neg w1, if_neg w2]
          exact ⟨_, g1, rfl, rfl, scr_gr e2⟩
  · rw [if_neg h1, if_neg h1]
    exact ⟨_, g, rfl, rfl, exc_rf⟩
theorem op_placed {n : Nat} {g : gm_T} {P : Nat → plc} (h : IW n g P) {a w : Int} (ha : rg a) (hw' : rg w) : ∃ r g2, cw_placed g a w = some r ∧ md_placed g a w = some (r, g2) ∧ exc scr scrJ g g2 := by
  have hn := h.1.1
  have h30 := hn.2.2
  unfold cw_placed md_placed
  simp only [cw_isBit_eq hn ha, md_isBit_eq hn ha, jb_tst, md_in_eq hw' (rgk rfl : rg 0) (rgk rfl : rg 3)]
  by_cases h1 : 0 ≤ a ∧ a < (n : Int)
  · obtain ⟨b, rfl⟩ : ∃ b : Nat, a = (b : Int) := ⟨_, (Int.toNat_of_nonneg h1.1).symm⟩
    have hb : b < n := by omega
    obtain ⟨g1, e1, e2, e3⟩ := md_groups_eq h.1 (vm h.2.1) (wm h.2.2.2)
    have eh := keepC_scr (scr_gr e2)
    have hrt := rt_le g b
    have hK : Kb g ≤ 147000 := by
      have := (jm_60 h.2.1).1
      unfold Kb
      omega
    rw [if_pos h1, if_pos h1, cv_stands_eq h hb, jb_gd, jg_pos hw', cv_hasWord_eq h hb, jb_tst, cv_ghw_eq h hb, jb_gd, jg_pos (by omega), Int.toNat_natCast, h.2.2.2.1 b (by omega), cw_partOf_eq (h.2.2.2.2.2.1 b) (by omega) hw', jb1_some]
    by_cases hr : 0 ≤ w ∧ w ≤ 3
    · rw [if_pos hr, e1, jb1_some]
      rcases md_onWall_eq (im h) eh e3 hb with ⟨q1, q2⟩ | ⟨q1, g2, q2, q3, q4⟩
      · rw [@if_neg _ (gd _) q1, q2, jb2_some, jg_pos (rgk rfl), if_pos rfl]
        exact ⟨-100000, _, rfl, rfl, scr_gr e2⟩
      · rw [@if_pos _ (gd _) q1, q2, jb2_some, jg_pos (rgk rfl), if_neg n10]
        have eh2 := (keepC_scr (scr_p q4)).trans eh
        have hx : exc scr scrJ g g2 := exc_tr (scr_gr e2) (scr_p q4)
        have w01 := ((isWm_tr eh2 (wm h.2.2.2)).2.2.2.2.2 b hb).1
        have hhw : hw g b = decide (gm_I g2 70 b ≠ 0) := by rw [← c_hw eh2]; rfl
        have e4 := isGr_p e3 q4
        have p1 : gm_I g2 44 49 = (P b).1 := congrArg (fun p : plc => p.1) q3
        have p2 : gm_I g2 44 50 = (P b).2.1 := congrArg (fun p : plc => p.2.1) q3
        have p3 : gm_I g2 44 51 = (P b).2.2 := congrArg (fun p : plc => p.2.2) q3
        rw [p1, p2, p3, jg_pos hw', jg_pos (by omega), (e4 b hb).1, md_hwi_all (im h) eh2 e4 hb, jb_gd]
        by_cases w3 : w = 3
        · subst w3
          rw [if_pos rfl, if_neg (show ¬ (3 : Int) = 0 by decide), if_neg (show ¬ (3 : Int) = 1 by decide), if_neg (show ¬ (3 : Int) = 2 by decide)]
          rcases w01 with z | z
          · rw [z] at hhw
            rw [z, hhw, jg_pos (rgk rfl), if_pos rfl, if_neg (show ¬ decide ((0 : Int) ≠ 0) = true by decide)]
            by_cases c : hasW n g b
            · rw [@if_pos _ (gd _) c, @if_pos _ (gd _) c]
              exact ⟨_, g2, rfl, rfl, hx⟩
            · rw [@if_neg _ (gd _) c, @if_neg _ (gd _) c]
              exact ⟨_, g2, rfl, rfl, hx⟩
          · rw [z] at hhw
            rw [z, hhw, jg_pos (rgk rfl), if_neg n10, if_pos (show decide ((1 : Int) ≠ 0) = true by decide)]
            exact ⟨_, g2, rfl, rfl, hx⟩
        · rw [if_neg w3]
          by_cases w0 : w = 0
          · rw [if_pos w0, if_pos w0]
            exact ⟨_, g2, rfl, rfl, hx⟩
          · by_cases w1 : w = 1
            · rw [if_neg w0, if_pos w1, if_neg w0, if_pos w1]
              exact ⟨_, g2, rfl, rfl, hx⟩
            · have w2 : w = 2 := by omega
              rw [if_neg w0, if_neg w1, if_pos w2, if_neg w0, if_neg w1, if_pos w2]
              exact ⟨_, g2, rfl, rfl, hx⟩
    · rw [if_neg hr, if_neg (show ¬ w = 3 by omega), if_neg (show ¬ w = 0 by omega), if_neg (show ¬ w = 1 by omega), if_neg (show ¬ w = 2 by omega)]
      refine ⟨-100000, g, ?_, rfl, exc_rf⟩
      by_cases c : onW n g b
      · rw [@if_pos _ (gd _) c]
      · rw [@if_neg _ (gd _) c]
  · rw [if_neg h1, if_neg h1]
    exact ⟨_, g, rfl, rfl, exc_rf⟩
