/-! A join is tried: what the reference says. -/
theorem md_goes_C {n : Nat} {g : gm_T} {P : Nat → plc} (h : IWm n g P) {g0 : gm_T} (e0 : keepC g0 = keepC g) {a b d u : Nat} (ha : a < n) (hb : b < n) (hd : gbf (jA g) (jB g) (jE g) (jm g) a n b = (d : Int)) (hu : u + d ≤ 60) (h55 : gm_I g0 44 55 = (u : Int)) : ∃ g2, md_goes g0 (b : Int) (a : Int) 0 = some g2 ∧ exc W_goes nob g0 g2 ∧ gm_I g2 44 55 = ((u + d : Nat) : Int) ∧ (∀ i, i < u → gm_I g2 84 i = gm_I g0 84 i) ∧ ∀ i, i < d → gm_I g2 84 (u + i) = ((gj (jA g) (jB g) (jE g) (jm g) (gbf (jA g) (jB g) (jE g) (jm g) a n) b i : Nat) : Int) := by
  obtain ⟨g4, m1, m2, m3, m4, m5⟩ := md_goes_eq (g := g0) (num_C e0 h.1.1) (V_jm_tr e0 h.2.1) (E := jE g) (best := 0) (fun g' hg' j hj => by
    have e5 : keepC g' = keepC g := (keepC_scr (scr_goes hg')).trans e0
    have := md_leads_0 (V_jm_tr e5 h.2.1) (j := j) (by rw [c_jm e5]; rw [c_jm e0] at hj; exact hj)
    rw [c_jE e5] at this
    exact this) (a := a) (b := b) (d := d) (u := u) ha hb (by rw [c_jA e0, c_jB e0, c_jm e0]; exact hd) hu h55
  rw [c_jA e0, c_jB e0, c_jm e0] at m5
  exact ⟨g4, m1, m2, m3, m4, m5⟩
/-- pairs that overlap when b is brought to q with its group, with those that are on the wall but one group -/
def hitc (n : Nat) (g : gm_T) (P : Nat → plc) (b : Nat) (but : Int) (q : plc) (i k : Nat) : Prop := cn g b i ∧ ¬ cn g b k ∧ (rt g k : Int) ≠ but ∧ onW n g k ∧ bad g i k (pon q (rel (P b) (P i))) (P k)
theorem md_ph_eq {n : Nat} {g : gm_T} {P : Nat → plc} (h : IWm n g P) {g1 : gm_T} (k1 : keepC g1 = keepC g) (H1 : isGr n g P g1) (e3 : isO n (onW n g) P g1) {b : Nat} (hb : b < n) {q : plc} (hq : bpl 200000 q) {but : Int} (hbt : rg but) : ((∀ i k, i < n → k < n → ¬ hitc n g P b but q i k) ∧ ∃ g2, (jb1 (md_places g1 (b : Int) q.1 q.2.1 q.2.2) fun (g30 : gm_T) => jb2 (md_hits g30 ((rt g b : Nat) : Int) but) fun (v32 : Int) (g33 : gm_T) => some (v32, g33)) = some (0, g2) ∧ exc scr scrJ g1 g2) ∨ ∃ i k, LF (hitc n g P b but q) n i k ∧ ∃ g2, (jb1 (md_places g1 (b : Int) q.1 q.2.1 q.2.2) fun (g30 : gm_T) => jb2 (md_hits g30 ((rt g b : Nat) : Int) but) fun (v32 : Int) (g33 : gm_T) => some (v32, g33)) = some (-15, g2) ∧ gm_I g2 44 35 = 5 ∧ gm_I g2 44 36 = 0 ∧ gm_I g2 44 37 = (i : Int) ∧ gm_I g2 44 38 = (k : Int) ∧ exc km scrJ g1 g2 := by
  have h30 := h.1.1.2.2
  have ok := IWm_ok h
  have hK : Kb g ≤ 147000 := by
    have := (jm_60m h.2.1).1
    unfold Kb
    omega
  obtain ⟨g2, f1, f2, f3⟩ := md_places_eq h k1 H1 hb (q := q) hq (by decide) (by decide)
  have k2 := (keepC_scr (scr_o f2)).trans k1
  have H2 := isGr_o H1 f2
  have hrb : rt g b < n := Nat.lt_of_le_of_lt (rt_le g b) hb
  have gOg : ∀ c, c < n → rt g c = rt g b → gO g2 c = pon q (rel (P b) (P c)) := fun c hc z => by rw [f3 c, if_pos ⟨hc, z⟩]
  have gOo : ∀ c, rt g c ≠ rt g b → gO g2 c = gO g1 c := fun c z => by rw [f3 c, if_neg (fun y => z y.2)]
  have g85 : ∀ c, rt g c ≠ rt g b → gm_I g2 85 c = gm_I g1 85 c := fun c z => congrArg (fun p : plc => p.1) (gOo c z)
  have hmov : ∀ c, c < n → rt g c = rt g b → bpl 400000 (pon q (rel (P b) (P c))) := fun c hc z => bpl_mono (bpl_on hq (rel_b h.1 h.2.1 h.2.2.2 hb (rt_iff.mp z.symm))) (by decide)
  have hO : ∀ c, c < n → (rt g c = rt g b → bpl 400000 (gO g2 c)) ∧ (gm_I g2 85 c = -1 ∨ bpl 400000 (gO g2 c)) := by
    intro c hc
    refine ⟨fun z => by rw [gOg c hc z]; exact hmov c hc z, ?_⟩
    by_cases z : rt g c = rt g b
    · right
      rw [gOg c hc z]
      exact hmov c hc z
    · rw [g85 c z, gOo c z]
      by_cases y : onW n g c
      · right
        rw [(e3 c hc).1 y]
        exact bpl_mono (h.2.2.2.2.2.1 c) (by omega)
      · exact Or.inl ((e3 c hc).2 y)
  have h5 := md_hits_eq h k2 H2 (M := 400000) (by decide) (by decide) hrb (but := but) hbt hO
  have hpair : ∀ i k, i < n → k < n → (hitm g (rt g b) but g2 i k ↔ hitc n g P b but q i k) := by
    intro i k hi hk
    unfold hitm hitc
    constructor
    · rintro ⟨z1, z2, z3, z4, z5⟩
      have hon : onW n g k := by
        apply Classical.byContradiction
        intro y
        exact z4 (by rw [g85 k z2]; exact (e3 k hk).2 y)
      rw [gOg i hi z1, gOo k z2, (e3 k hk).1 hon] at z5
      exact ⟨rt_iff.mp z1.symm, fun y => z2 (rt_iff.mpr y).symm, z3, hon, z5⟩
    · rintro ⟨z1, z2, z0, z3, z4⟩
      have r1 : rt g i = rt g b := (rt_iff.mpr z1).symm
      have r2 : rt g k ≠ rt g b := fun y => z2 (rt_iff.mp y.symm)
      have g85k : gm_I g2 85 k = (P k).1 := by
        rw [g85 k r2]
        exact congrArg (fun p : plc => p.1) ((e3 k hk).1 z3)
      refine ⟨r1, r2, z0, ?_, ?_⟩
      · rw [g85k]
        have := (ok k).1
        omega
      · rw [gOg i hi r1, gOo k r2, (e3 k hk).1 z3]
        exact z4
  have x2 : exc scr scrJ g1 (gm_wI g2 44 55 0) := exc_wI (scr_o f2) rfl
  rw [f1, jb1_some]
  rcases h5 with ⟨z1, g3, z2, z3⟩ | ⟨i, k, z1, g3, z2, z3, z4, z5, z6, z7⟩
  · left
    rw [z2, jb2_some]
    exact ⟨fun i k hi hk y => z1 i k hi hk ((hpair i k hi hk).mpr y), g3, rfl, exc_tr x2 (scr_p z3)⟩
  · right
    rw [z2, jb2_some]
    refine ⟨i, k, LF_cong z1 hpair, g3, rfl, z3, z4, z5, z6, exc_tr (km_scr x2) (exc_mono z7 (fun a k q => ?_) (fun _ _ q => by cases q))⟩
    simp only [W_p, W_cl, Bool.or_eq_true, Bool.and_eq_true, beq_iff_eq] at q
    rcases q with ⟨rfl, (rfl | rfl) | rfl⟩ | rfl | ⟨rfl, ((rfl | rfl) | rfl) | rfl⟩ <;> rfl
-- two groups brought together
/-- the move of a's group by the join f of a and b -/
def mvv (P : Nat → plc) (a b : Nat) (f : plc) : plc := pon (pon (P b) (pin f)) (pin (P a))
theorem pin_mvv {P : Nat → plc} {a b : Nat} {f : plc} (ha : okt (P a)) (hb : okt (P b)) (hf : okt f) : pin (mvv P a b f) = pon (pon (P a) f) (pin (P b)) := by
  unfold mvv
  rw [pin_pon (pon_okt hb (pin_okt hf)) (pin_okt ha), pin_pin ha, pin_pon hb (pin_okt hf), pin_pin hf, pon_assoc ha hf]
theorem rel_mvv {P : Nat → plc} {a b : Nat} {f : plc} (ok : ∀ c, okt (P c)) (hf : okt f) (p q : Nat) : rel (pon (mvv P a b f) (P p)) (P q) = pon (pon (rel (P p) (P a)) f) (rel (P b) (P q)) := by
  have hm : okt (mvv P a b f) := pon_okt (pon_okt (ok b) (pin_okt hf)) (pin_okt (ok a))
  show pon (pin (pon (mvv P a b f) (P p))) (P q) = _
  rw [pin_pon hm (ok p), pin_mvv (ok a) (ok b) hf]
  unfold rel
  rw [pon_assoc (pin_okt (ok p)) (ok a), pon_assoc (pin_okt (ok p)) (pon_okt (ok a) hf), pon_assoc (pin_okt (ok p)) (pon_okt (pon_okt (ok a) hf) (pin_okt (ok b))), pon_assoc (pon_okt (ok a) hf) (pin_okt (ok b))]
def hit2 (g : gm_T) (P : Nat → plc) (a b : Nat) (f : plc) (p q : Nat) : Prop := cn g a p ∧ cn g b q ∧ bad g p q (pon (mvv P a b f) (P p)) (P q)
/-- the way between two bits, told from g's joins -/
noncomputable def wayj (n : Nat) (g : gm_T) (to b i : Nat) : Int := ((gj (jA g) (jB g) (jE g) (jm g) (gbf (jA g) (jB g) (jE g) (jm g) to n) b i : Nat) : Int)
noncomputable def dst (n : Nat) (g : gm_T) (to b : Nat) : Int := gbf (jA g) (jB g) (jE g) (jm g) to n b
/-- two ways, one behind the other -/
noncomputable def two (d : Nat) (u v : Nat → Int) (i : Nat) : Int := @ite _ (i < d) (gd _) (u i) (v (i - d))
theorem md_ov_row {n : Nat} {g : gm_T} {P : Nat → plc} (h : IWm n g P) {g0 : gm_T} (e0 : keepC g0 = keepC g) (H0 : isGr n g P g0) {a b : Nat} (ha : a < n) (hb : b < n) (hm : jm g < 60) (hjk : jok n g (jm g)) {p : Nat} (hp : p < n) : ∀ (d q fuel : Nat) (g1 : gm_T), q + d = n → d < fuel → exc W_p nob g0 g1 → (∀ q2, q2 < q → ¬ hit2 g P a b (jpl g (jm g)) p q2) → ((∀ q2, q2 < n → ¬ hit2 g P a b (jpl g (jm g)) p q2) ∧ ∃ g2, md_overlapping_l13 (a : Int) (b : Int) (p : Int) fuel (q : Int) g1 = some (.inl g2) ∧ exc W_p nob g0 g2) ∨ ∃ q2, q2 < n ∧ hit2 g P a b (jpl g (jm g)) p q2 ∧ (∀ q3, q3 < q2 → ¬ hit2 g P a b (jpl g (jm g)) p q3) ∧ ∃ d1 d2 : Nat, d1 < n ∧ d2 < n ∧ dst n g a p = (d1 : Int) ∧ dst n g q2 b = (d2 : Int) ∧ ∃ g2, md_overlapping_l13 (a : Int) (b : Int) (p : Int) fuel (q : Int) g1 = some (.inr (-12, g2)) ∧ gm_I g2 44 35 = 2 ∧ gm_I g2 44 36 = ((d1 + d2 : Nat) : Int) ∧ gm_I g2 44 37 = (p : Int) ∧ gm_I g2 44 38 = (q2 : Int) ∧ (∀ i, i < d1 + d2 → gm_I g2 75 i = two d1 (wayj n g a p) (wayj n g q2 b) i) ∧ exc km scrJ g0 g2 := by
  have h30 := h.1.1.2.2
  have ok := IWm_ok h
  have hf40 := jok_b h.1 hjk
  have hm44 := (jm_60m h.2.1).2.1
  intro d
  induction d with
  | zero =>
    intro q fuel g1 hd hf hx hno
    obtain ⟨f, rfl⟩ : ∃ f, fuel = f + 1 := ⟨fuel - 1, by omega⟩
    have hk : q = n := by omega
    subst hk
    have e1 := (keepC_scr (scr_p hx)).trans e0
    left
    unfold md_overlapping_l13
    rw [(num_C e1 h.1.1).2.1, jg_pos ⟨rgn (by omega), rgn (by omega)⟩, if_neg (by omega)]
    exact ⟨hno, g1, rfl, hx⟩
  | succ d ih =>
    intro q fuel g1 hd hf hx hno
    obtain ⟨f, rfl⟩ : ∃ f, fuel = f + 1 := ⟨fuel - 1, by omega⟩
    have hq : q < n := by omega
    have hra := rt_le g a
    have hrb := rt_le g b
    have hrp := rt_le g p
    have hrq := rt_le g q
    have e1 := (keepC_scr (scr_p hx)).trans e0
    have H1 := isGr_p H0 hx
    have skip := fun (g1' : gm_T) (hx' : exc W_p nob g0 g1') (hq2 : ¬ hit2 g P a b (jpl g (jm g)) p q) => ih (q + 1) f g1' (by omega) (by omega) hx' (fun q2 hq3 => by
      by_cases z : q2 = q
      · rw [z]; exact hq2
      · exact hno q2 (by omega))
    unfold md_overlapping_l13
    rw [(num_C e1 h.1.1).2.1, jg_pos ⟨rgn (by omega), rgn (by omega)⟩, if_pos (by omega), jg_pos (by omega), jg_pos (by omega), Int.toNat_natCast, Int.toNat_natCast, (H1 p hp).1, (H1 a ha).1, jg_pos ⟨rgn (by omega), rgn (by omega)⟩]
    by_cases c1 : rt g p = rt g a
    · have hap : cn g p a := rt_iff.mp c1
      rw [if_pos (by omega), jg_pos (by omega), jg_pos (by omega), Int.toNat_natCast, Int.toNat_natCast, (H1 q hq).1, (H1 b hb).1, jg_pos ⟨rgn (by omega), rgn (by omega)⟩]
      by_cases c2 : rt g q = rt g b
      · have hbq : cn g b q := rt_iff.mp c2.symm
        rw [if_pos (by omega)]
        obtain ⟨g2, k1, k2, k3⟩ := md_within_eq (I_fit_tr (keepF_C e1) h.1) (V_jm_tr e1 h.2.1) (isWm_tr e1 h.2.2.2) (P := P) (h := g1) (fun x hx2 => by
          rw [c_rt e1]
          exact H1 x hx2) hp ha (by rw [c_cn e1]; exact hap)
        have e2 := (keepC_scr (scr_p k3)).trans e1
        have hb1 := rel_b h.1 h.2.1 h.2.2.2 hp hap
        have h24 : gm_I g2 44 24 = ((jm g : Nat) : Int) := by
          have h1 : gm_I (keepC g2) 44 24 = gm_I (keepC g) 44 24 := by rw [e2]
          exact h1.trans hm44
        obtain ⟨g3, l1, l2, l3⟩ := (md_thenJoin_eq (I_fit_tr (keepF_C e2) h.1) hm (jok_trm e2 hjk) (M := 1160) (by rw [k2]; exact hb1) (by decide) (by decide)).1
        rw [c_jpl e2, k2] at l2
        have e3 := (keepC_scr (scr_p l3)).trans e2
        obtain ⟨g4, r1, r2, r3⟩ := md_thenWithin_eq (I_fit_tr (keepF_C e3) h.1) (V_jm_tr e3 h.2.1) (isWm_tr e3 h.2.2.2) (P := P) (h := g3) (fun x hx2 => by
          rw [c_rt e3]
          exact isGr_p (isGr_p H1 k3) l3 x hx2) hb hq (by rw [c_cn e3]; exact hbq) (M := 1160 + 40) (by rw [l2]; exact bpl_on hb1 hf40) (by decide) (by decide)
        rw [l2] at r2
        have hx4 : exc W_p nob g1 g4 := exc_tr k3 (exc_tr l3 r3)
        have e4 := (keepC_scr (scr_p r3)).trans e3
        have hbz : bpl (1160 + 40 + 1160) (pon (pon (rel (P p) (P a)) (jpl g (jm g))) (rel (P b) (P q))) := bpl_on (bpl_on hb1 hf40) (rel_b h.1 h.2.1 h.2.2.2 hb hbq)
        have hrm := rel_mvv (a := a) (b := b) ok hf40.1 p q
        have I4 := I_fit_tr (keepF_C e4) h.1
        have p1 : gm_I g4 44 49 = (rel (pon (mvv P a b (jpl g (jm g))) (P p)) (P q)).1 := by rw [hrm]; exact congrArg (fun p : plc => p.1) r2
        have p2 : gm_I g4 44 50 = (rel (pon (mvv P a b (jpl g (jm g))) (P p)) (P q)).2.1 := by rw [hrm]; exact congrArg (fun p : plc => p.2.1) r2
        have p3 : gm_I g4 44 51 = (rel (pon (mvv P a b (jpl g (jm g))) (P p)) (P q)).2.2 := by rw [hrm]; exact congrArg (fun p : plc => p.2.2) r2
        rw [← hrm] at hbz
        have htol : gm_I g4 44 20 = gm_I g 44 20 := by
          have : gm_I (keepC g4) 44 20 = gm_I (keepC g) 44 20 := by rw [e4]
          exact this
        have ht := h.1.2.2.2.1
        have hov := ov_le g p q (rel (pon (mvv P a b (jpl g (jm g))) (P p)) (P q)).1 (rel (pon (mvv P a b (jpl g (jm g))) (P p)) (P q)).2.1 (rel (pon (mvv P a b (jpl g (jm g))) (P p)) (P q)).2.2
        rw [k1, jb1_some, h24, l1, jb1_some, r1, jb1_some, p1, p2, p3, md_overlaps_eq I4.2.2.1 h30 hp hq ((I4.2.1 q hq).2.2.2.2.2.2.2.1.2) hbz.1 (by have := hbz.2.1; omega) (by have := hbz.2.2; omega), jb1_some, k_ov (keepF_C e4), htol, jg_pos ⟨rgn (by omega), by have := ht.2; exact ⟨by omega, by omega⟩⟩]
        by_cases c3 : ((ov g p q (rel (pon (mvv P a b (jpl g (jm g))) (P p)) (P q)).1 (rel (pon (mvv P a b (jpl g (jm g))) (P p)) (P q)).2.1 (rel (pon (mvv P a b (jpl g (jm g))) (P p)) (P q)).2.2 : Nat) : Int) ≤ gm_I g 44 20
        · rw [if_pos c3]
          refine skip g4 (exc_tr hx hx4) (fun z => ?_)
          have := z.2.2
          unfold bad at this
          omega
        · rw [if_neg c3, jl_eq]
          right
          obtain ⟨d1, d1n, d1e⟩ := cn_far h.2.1 ha (gC_sy hap)
          obtain ⟨d2, d2n, d2e⟩ := cn_far h.2.1 hq (gC_sy hbq)
          have e5 : keepC (gm_wI g4 44 55 0) = keepC g := (keepC_scr (exc_wI exc_rf rfl)).trans e4
          obtain ⟨g6, s1, s2, s3, s4, s5⟩ := md_goes_C h e5 (a := a) (b := p) (d := d1) (u := 0) ha hp d1e (by omega) gI_eq
          have e6 := (keepC_scr (scr_goes s2)).trans e5
          obtain ⟨g7, t1, t2, t3, t4, t5⟩ := md_goes_C h e6 (a := q) (b := b) (d := d2) (u := 0 + d1) hq hb d2e (by omega) s3
          obtain ⟨g8, u1, u2, u3, u4, u5, u6, u7⟩ := md_clby_eq (g := g7) (k := 2) (one := (p : Int)) (two := (q : Int)) (u := 0 + d1 + d2) (by omega) t3
          rw [s1, jb1_some, t1, jb1_some, u1, jb2_some]
          refine ⟨q, hq, ⟨gC_sy hap, hbq, by unfold bad; omega⟩, hno, d1, d2, d1n, d2n, d1e, d2e, g8, rfl, u2, by rw [u3]; omega, u4, u5, fun i hi => ?_, ?_⟩
          · rw [u6 i (by omega)]
            unfold two
            by_cases z : i < d1
            · rw [@if_pos _ (gd _) z, t4 i (by omega)]
              have := s5 i z
              rw [Nat.zero_add] at this
              exact this
            · rw [@if_neg _ (gd _) z]
              have := t5 (i - d1) (by omega)
              rw [show 0 + d1 + (i - d1) = i by omega] at this
              exact this
          · refine exc_tr (km_scr (scr_p hx)) (exc_tr (km_scr (exc_wI (scr_p hx4) rfl)) (exc_tr (km_scr (scr_goes s2)) (exc_tr (km_scr (scr_goes t2)) (exc_mono u7 (fun a k q => ?_) (fun _ _ q => by cases q)))))
            simp only [W_cl, Bool.or_eq_true, Bool.and_eq_true, beq_iff_eq] at q
            rcases q with rfl | ⟨rfl, ((rfl | rfl) | rfl) | rfl⟩ <;> rfl
      · rw [if_neg (by omega)]
        exact skip g1 hx (fun z => c2 (rt_cn z.2.1).symm)
    · rw [if_neg (by omega)]
      left
      exact ⟨fun q2 _ z => c1 (rt_cn z.1).symm, g1, rfl, hx⟩
theorem md_ov_lp {n : Nat} {g : gm_T} {P : Nat → plc} (h : IWm n g P) {g0 : gm_T} (e0 : keepC g0 = keepC g) (H0 : isGr n g P g0) {a b : Nat} (ha : a < n) (hb : b < n) (hm : jm g < 60) (hjk : jok n g (jm g)) : ∀ (d p fuel : Nat) (g1 : gm_T), p + d = n → d < fuel → exc W_p nob g0 g1 → (∀ p2 q2, p2 < p → q2 < n → ¬ hit2 g P a b (jpl g (jm g)) p2 q2) → ((∀ p2 q2, p2 < n → q2 < n → ¬ hit2 g P a b (jpl g (jm g)) p2 q2) ∧ ∃ g2, md_overlapping_l2 (a : Int) (b : Int) fuel (p : Int) g1 = some (0, g2) ∧ exc W_p nob g0 g2) ∨ ∃ p2 q2, LF (hit2 g P a b (jpl g (jm g))) n p2 q2 ∧ ∃ d1 d2 : Nat, d1 < n ∧ d2 < n ∧ dst n g a p2 = (d1 : Int) ∧ dst n g q2 b = (d2 : Int) ∧ ∃ g2, md_overlapping_l2 (a : Int) (b : Int) fuel (p : Int) g1 = some (-12, g2) ∧ gm_I g2 44 35 = 2 ∧ gm_I g2 44 36 = ((d1 + d2 : Nat) : Int) ∧ gm_I g2 44 37 = (p2 : Int) ∧ gm_I g2 44 38 = (q2 : Int) ∧ (∀ i, i < d1 + d2 → gm_I g2 75 i = two d1 (wayj n g a p2) (wayj n g q2 b) i) ∧ exc km scrJ g0 g2 := by
  have h30 := h.1.1.2.2
  intro d
  induction d with
  | zero =>
    intro p fuel g1 hd hf hx hno
    obtain ⟨f, rfl⟩ : ∃ f, fuel = f + 1 := ⟨fuel - 1, by omega⟩
    have hk : p = n := by omega
    subst hk
    have e1 := (keepC_scr (scr_p hx)).trans e0
    left
    unfold md_overlapping_l2
    rw [(num_C e1 h.1.1).2.1, jg_pos ⟨rgn (by omega), rgn (by omega)⟩, if_neg (by omega)]
    exact ⟨hno, g1, rfl, hx⟩
  | succ d ih =>
    intro p fuel g1 hd hf hx hno
    obtain ⟨f, rfl⟩ : ∃ f, fuel = f + 1 := ⟨fuel - 1, by omega⟩
    have hp : p < n := by omega
    have e1 := (keepC_scr (scr_p hx)).trans e0
    unfold md_overlapping_l2
    rw [(num_C e1 h.1.1).2.1, jg_pos ⟨rgn (by omega), rgn (by omega)⟩, if_pos (by omega)]
    rcases md_ov_row h e0 H0 ha hb hm hjk hp n 0 fz g1 (by omega) (Nat.lt_of_le_of_lt h30 (fz_gt rfl)) hx (fun q2 hq2 => by omega) with ⟨z1, g2, z2, z3⟩ | ⟨q2, z1, z2, z3, d1, d2, z4, z5, z6, z7, g2, z8, z9⟩
    · rw [show ((0 : Nat) : Int) = 0 from rfl] at z2
      rw [z2, jc1_inl]
      exact ih (p + 1) f g2 (by omega) (by omega) z3 (fun p2 q2 h1 h2 => by
        by_cases y : p2 = p
        · rw [y]; exact z1 q2 h2
        · exact hno p2 q2 (by omega) h2)
    · rw [show ((0 : Nat) : Int) = 0 from rfl] at z8
      rw [z8, jc1_inr]
      exact Or.inr ⟨p, q2, ⟨hp, z1, z2, z3, hno⟩, d1, d2, z4, z5, z6, z7, g2, rfl, z9⟩
