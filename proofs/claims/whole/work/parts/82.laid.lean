/-! Arrangements: the reference's three searches. -/
def W_in (i a k : Nat) : Bool := W_at i a k || W_jg a k
theorem in_at {i : Nat} {g g2 : gm_T} (h : exc (W_at i) nob g g2) : exc (W_in i) nob g g2 := exc_mono h (fun a k q => by unfold W_in; rw [q]; rfl) (fun _ _ q => q)
theorem in_jg {i : Nat} {g g2 : gm_T} (h : exc W_jg nob g g2) : exc (W_in i) nob g g2 := exc_mono h (fun a k q => by unfold W_in; rw [q, Bool.or_true]) (fun _ _ q => q)
def W_o3 (a k : Nat) : Bool := a == 91 || a == 92 || a == 93 || W_jg a k
theorem o3_in {i : Nat} {g g2 : gm_T} (h : exc (W_in i) nob g g2) : exc W_o3 nob g g2 := exc_mono h (fun a k q => by
  simp only [W_in, W_at, Bool.or_eq_true, Bool.and_eq_true, beq_iff_eq] at q
  unfold W_o3
  rcases q with (⟨(rfl | rfl) | rfl, -⟩ | q) | q
  · rfl
  · rfl
  · rfl
  · unfold W_jg
    rw [q, Bool.or_true]
    simp
  · rw [q, Bool.or_true]) (fun _ _ q => q)
theorem scr_o3 {g g2 : gm_T} (h : exc W_o3 nob g g2) : exc scr scrJ g g2 := exc_mono h (fun a k q => by
  simp only [W_o3, W_jg, W_q, W_p, Bool.or_eq_true, Bool.and_eq_true, beq_iff_eq] at q
  rcases q with ((rfl | rfl) | rfl) | ((((rfl | rfl) | rfl) | ⟨rfl, (rfl | rfl) | rfl⟩) | ⟨rfl, rfl⟩) <;> rfl) (fun _ _ q => by cases q)
theorem gT_ne {i : Nat} {g g2 : gm_T} (h : exc (W_in i) nob g g2) {j : Nat} (hj : j ≠ i) : gT g2 j = gT g j := by
  have z : ∀ a, (a == 94 || a == 95 || a == 96 || a == 44) = false → W_in i a j = false := fun a q => by
    have q2 : ¬ (a = 94 ∨ a = 95 ∨ a = 96 ∨ a = 44) := fun y => by
      rcases y with rfl | rfl | rfl | rfl <;> cases q
    refine Bool.eq_false_iff.mpr (fun y => ?_)
    simp only [W_in, W_at, W_jg, W_q, W_p, Bool.or_eq_true, Bool.and_eq_true, beq_iff_eq] at y
    omega
  unfold gT
  rw [h.1 91 j (z 91 rfl), h.1 92 j (z 92 rfl), h.1 93 j (z 93 rfl)]
theorem in_o {i : Nat} {g g2 : gm_T} (h : exc (W_in i) nob g g2) : keepF g2 = keepF g ∧ (∀ k, gm_I g2 90 k = gm_I g 90 k) ∧ gm_I g2 44 72 = gm_I g 44 72 := by
  have x := o3_in h
  exact ⟨keepF_A (keepA_scr (scr_o3 x)), fun k => x.1 90 k rfl, x.1 44 72 rfl⟩
theorem isBr_at {i : Nat} {g g2 : gm_T} (x : exc (W_at i) nob g g2) {m : Nat} {s : cnd} (h : isBr g m s) : isBr g2 m s := by
  obtain ⟨h1, h2, h3⟩ := h
  have z : ∀ a k, ((a == 94 || a == 95 || a == 96) = true ∨ (a = 44 ∧ k = 73)) → W_at i a k = false := fun a k q => by
    refine Bool.eq_false_iff.mpr (fun y => ?_)
    simp only [W_at, W_p, Bool.or_eq_true, Bool.and_eq_true, beq_iff_eq] at y q
    omega
  have e : gQ g2 = gQ g := funext fun i => by
    unfold gQ
    rw [x.1 94 i (z _ _ (Or.inl rfl)), x.1 95 i (z _ _ (Or.inl rfl)), x.1 96 i (z _ _ (Or.inl rfl))]
  refine ⟨by rw [x.1 44 73 (z _ _ (Or.inr ⟨rfl, rfl⟩))]; exact h1, fun q => ?_, h3⟩
  rw [e]
  exact h2 q
def Rin (m i : Nat) (gs g : gm_T) (s : cnd) : Prop := exc (W_in i) nob gs g ∧ isBr g m s ∧ bS s
theorem tries_2 {n : Nat} {g0 : gm_T} (I : I_fit n g0) {g : gm_T} (e : keepF g = keepF g0) {A B : Nat} (hA : A < n) (hB : B < n) (hAB : A ≠ B) (e0 : gm_I g 90 0 = (A : Int)) (e1 : gm_I g 90 1 = (B : Int)) (hm : gm_I g 44 72 = ((2 : Nat) : Int)) (t0 : gT g 0 = p0) {s : cnd} (h : isBr g 2 s) (hs : bS s) : ∃ g2 s2, md_tries 2 g 0 1 (-1) (-1) = some g2 ∧ Rin 2 1 g g2 s2 ∧ adds (cTwo g0 A B) s s2 := by
  obtain ⟨g2, s2, r1, r2, r3⟩ := tr_b I hA hB hAB (u := 0) (i := 1) (by decide) (by decide) (next := -1) (last := -1) (rgk rfl) (rec := md_tries 1) (P := p0) (bpl_mono (show bpl 0 p0 from ⟨⟨by decide, by decide⟩, ⟨by decide, by decide⟩, by decide, by decide⟩) (by decide)) (R := Rin 2 1 g) (T := fun f c => ¬ bad g0 A B p0 f ∧ cd2 g0 A B f c) (fun g' s' hr => ⟨(in_o hr.1).1.trans e, by rw [gT_ne hr.1 (by decide)]; exact t0⟩) (fun g' s' f hr hf g4 x4 t4 => by
    have x5 : exc (W_in 1) nob g g4 := exc_tr hr.1 (in_at x4)
    obtain ⟨k1, k2, k3⟩ := in_o x5
    rw [p0_on (FP_okt hf)] at t4
    obtain ⟨g6, s6, u1, u2, u3, u4, u5⟩ := md_judges_2 I (k1.trans e) hA hB hAB (by rw [k2]; exact e0) (by rw [k2]; exact e1) (by rw [k3]; exact hm) (by rw [gT_ne x5 (by decide)]; exact t0) t4 (bpl_mono (FP_b I.2.1 hA hB hf) (by decide)) (isBr_at x4 hr.2.1) hr.2.2
    rw [if_pos rfl]
    exact ⟨g6, s6, u1, ⟨exc_tr x5 (in_jg u2), u3, u4⟩, u5⟩) (g := g) (s := s) ⟨exc_rf, h, hs⟩ e0 e1
  refine ⟨g2, s2, r1, r2, adds_c (fun c => ?_) r3⟩
  unfold cTwo
  constructor
  · rintro ⟨f, h1, h2⟩
    exact ⟨f, h1, h2.2⟩
  · rintro ⟨f, h1, h2⟩
    exact ⟨f, h1, FP_bad h1, h2⟩
theorem tries_in {n : Nat} {g0 : gm_T} (I : I_fit n g0) {g : gm_T} (e : keepF g = keepF g0) {A B C : Nat} (hA : A < n) (hB : B < n) (hC : C < n) (hAB : A ≠ B) (hAC : A ≠ C) (hBC : B ≠ C) (e0 : gm_I g 90 0 = (A : Int)) (e1 : gm_I g 90 1 = (B : Int)) (e2 : gm_I g 90 2 = (C : Int)) (hm : gm_I g 44 72 = ((3 : Nat) : Int)) (t0 : gT g 0 = p0) {X Y u i : Nat} (hX : X < n) (hY : Y < n) (hXY : X ≠ Y) (hu : u < 3) (hi : i < 3) (hui : u ≠ i) (hi0 : i ≠ 0) (eX : gm_I g 90 u = (X : Int)) (eY : gm_I g 90 i = (Y : Int)) (hP : bpl 100 (gT g u)) {p_ q_ : plc → plc} (hpq : ∀ g4 f, (∀ k, k ≠ i → gT g4 k = gT g k) → gT g4 i = pon (gT g u) f → okt f → gT g4 1 = p_ f ∧ gT g4 2 = q_ f) (hb : ∀ f, FP g0 X Y f → bpl 200 (p_ f) ∧ bpl 200 (q_ f)) {rec : gm_T → Int → Int → Int → Int → Option gm_T} {s : cnd} (h : isBr g 3 s) (hs : bS s) : ∃ g2 s2, md_tries_b rec g (u : Int) (i : Int) (-1) (-1) = some g2 ∧ Rin 3 i g g2 s2 ∧ adds (fun c => ∃ f, FP g0 X Y f ∧ cd3 g0 A B C (p_ f) (q_ f) c) s s2 := by
  exact tr_b I hX hY hXY hu hi (next := -1) (last := -1) (rgk rfl) (rec := rec) hP (R := Rin 3 i g) (T := fun f c => cd3 g0 A B C (p_ f) (q_ f) c) (fun g' s' hr => ⟨(in_o hr.1).1.trans e, gT_ne hr.1 hui⟩) (fun g' s' f hr hf g4 x4 t4 => by
    have x5 : exc (W_in i) nob g g4 := exc_tr hr.1 (in_at x4)
    obtain ⟨k1, k2, k3⟩ := in_o x5
    obtain ⟨y1, y2⟩ := hpq g4 f (fun k hk => gT_ne x5 hk) t4 (FP_okt hf)
    obtain ⟨b1, b2⟩ := hb f hf
    obtain ⟨g6, s6, u1, u2, u3, u4, u5⟩ := md_judges_3 I (k1.trans e) hA hB hC hAB hAC hBC (by rw [k2]; exact e0) (by rw [k2]; exact e1) (by rw [k2]; exact e2) (by rw [k3]; exact hm) (by rw [gT_ne x5 (fun z => hi0 z.symm)]; exact t0) y1 y2 b1 b2 (isBr_at x4 hr.2.1) hr.2.2
    rw [if_pos rfl]
    exact ⟨g6, s6, u1, ⟨exc_tr x5 (in_jg u2), u3, u4⟩, u5⟩) (g := g) (s := s) ⟨exc_rf, h, hs⟩ eX eY
/-- what the outer search keeps -/
def Rout (gs g : gm_T) (s : cnd) : Prop := (exc W_o3 nob gs g ∧ gT g 0 = p0) ∧ isBr g 3 s ∧ bS s
theorem tries_out {n : Nat} {g0 : gm_T} (I : I_fit n g0) {g : gm_T} (e : keepF g = keepF g0) {A B C : Nat} (hA : A < n) (hB : B < n) (hC : C < n) (hAB : A ≠ B) (hAC : A ≠ C) (hBC : B ≠ C) (e0 : gm_I g 90 0 = (A : Int)) (e1 : gm_I g 90 1 = (B : Int)) (e2 : gm_I g 90 2 = (C : Int)) (hm : gm_I g 44 72 = ((3 : Nat) : Int)) (t0 : gT g 0 = p0) {Y X Z o u i : Nat} (hY : Y < n) (hAY : A ≠ Y) (hX : X < n) (hZ : Z < n) (hXZ : X ≠ Z) (ho : o < 3) (ho0 : o ≠ 0) (hu : u < 3) (hi : i < 3) (hui : u ≠ i) (hi0 : i ≠ 0) (hio : i ≠ o) (eY : gm_I g 90 o = (Y : Int)) (eX : gm_I g 90 u = (X : Int)) (eZ : gm_I g 90 i = (Z : Int)) {Pu : plc → plc} (hPu : ∀ g4 f, gT g4 0 = p0 → gT g4 o = f → gT g4 u = Pu f) (hPb : ∀ f, FP g0 A Y f → bpl 100 (Pu f)) {p_ q_ : plc → plc → plc} (hpq : ∀ g4 f1 f, gT g4 0 = p0 → gT g4 o = f1 → gT g4 i = pon (Pu f1) f → okt f → gT g4 1 = p_ f1 f ∧ gT g4 2 = q_ f1 f) (hb : ∀ f1 f, FP g0 A Y f1 → FP g0 X Z f → bpl 200 (p_ f1 f) ∧ bpl 200 (q_ f1 f)) {s : cnd} (h : isBr g 3 s) (hs : bS s) : ∃ g2 s2, md_tries 2 g 0 (o : Int) (u : Int) (i : Int) = some g2 ∧ Rout g g2 s2 ∧ adds (fun c => ∃ f1, FP g0 A Y f1 ∧ ∃ f, FP g0 X Z f ∧ cd3 g0 A B C (p_ f1 f) (q_ f1 f) c) s s2 := by
  exact tr_b I hA hY hAY (u := 0) (i := o) (by decide) ho (next := (u : Int)) (last := (i : Int)) ⟨by omega, by omega⟩ (rec := md_tries 1) (P := p0) (bpl_mono (show bpl 0 p0 from ⟨⟨by decide, by decide⟩, ⟨by decide, by decide⟩, by decide, by decide⟩) (by decide)) (R := Rout g) (T := fun f1 c => ∃ f, FP g0 X Z f ∧ cd3 g0 A B C (p_ f1 f) (q_ f1 f) c) (fun g' s' hr => ⟨(keepF_A (keepA_scr (scr_o3 hr.1.1))).trans e, hr.1.2⟩) (fun g' s' f hr hf g4 x4 t4 => by
    have xi := in_at x4
    have x5 : exc W_o3 nob g g4 := exc_tr hr.1.1 (o3_in xi)
    have k1 : keepF g4 = keepF g0 := (keepF_A (keepA_scr (scr_o3 x5))).trans e
    rw [p0_on (FP_okt hf)] at t4
    have z0 : gT g4 0 = p0 := by rw [gT_ne xi (fun z => ho0 z.symm)]; exact hr.1.2
    have zu : gT g4 u = Pu f := hPu g4 f z0 t4
    obtain ⟨g6, s6, u1, u2, u3⟩ := tries_in I k1 hA hB hC hAB hAC hBC (by rw [x5.1 90 0 rfl]; exact e0) (by rw [x5.1 90 1 rfl]; exact e1) (by rw [x5.1 90 2 rfl]; exact e2) (by rw [x5.1 44 72 rfl]; exact hm) z0 hX hZ hXZ hu hi hui hi0 (by rw [x5.1 90 u rfl]; exact eX) (by rw [x5.1 90 i rfl]; exact eZ) (by rw [zu]; exact hPb f hf) (p_ := p_ f) (q_ := q_ f) (fun g5 f2 w1 w2 w3 => hpq g5 f f2 (by rw [w1 0 (fun z => hi0 z.symm)]; exact z0) (by rw [w1 o (fun z => hio z.symm)]; exact t4) (by rw [w2, zu]) w3) (fun f2 hf2 => hb f f2 hf hf2) (rec := md_tries 0) (isBr_at x4 hr.2.1) hr.2.2
    rw [if_neg (by omega)]
    exact ⟨g6, s6, u1, ⟨⟨exc_tr x5 (o3_in u2.1), by rw [gT_ne u2.1 (fun z => hi0 z.symm)]; exact z0⟩, u2.2.1, u2.2.2⟩, u3⟩) (g := g) (s := s) ⟨⟨exc_rf, t0⟩, h, hs⟩ e0 eY
theorem tries_3 {n : Nat} {g0 : gm_T} (I : I_fit n g0) {g : gm_T} (e : keepF g = keepF g0) {A B C : Nat} (hA : A < n) (hB : B < n) (hC : C < n) (hAB : A ≠ B) (hAC : A ≠ C) (hBC : B ≠ C) (e0 : gm_I g 90 0 = (A : Int)) (e1 : gm_I g 90 1 = (B : Int)) (e2 : gm_I g 90 2 = (C : Int)) (hm : gm_I g 44 72 = ((3 : Nat) : Int)) (t0 : gT g 0 = p0) {s : cnd} (h : isBr g 3 s) (hs : bS s) : ∃ g2 g3 g4 s4, md_tries 2 g 0 1 0 2 = some g2 ∧ md_tries 2 g2 0 1 1 2 = some g3 ∧ md_tries 2 g3 0 2 2 1 = some g4 ∧ exc W_o3 nob g g4 ∧ isBr g4 3 s4 ∧ bS s4 ∧ adds (cAll g0 A B C) s s4 := by
  have b40 : ∀ {a b : Nat} {f : plc}, a < n → b < n → FP g0 a b f → bpl 40 f := fun ha hb hf => FP_b I.2.1 ha hb hf
  obtain ⟨g2, s2, r1, ⟨⟨r2, r0⟩, r3, r4⟩, r5⟩ := tries_out I e hA hB hC hAB hAC hBC e0 e1 e2 hm t0 (Y := B) (X := A) (Z := C) (o := 1) (u := 0) (i := 2) hB hAB hA hC hAC (by decide) (by decide) (by decide) (by decide) (by decide) (by decide) (by decide) e1 e0 e2 (Pu := fun _ => p0) (fun g4 f z0 _ => z0) (fun f _ => bpl_mono (show bpl 0 p0 from ⟨⟨by decide, by decide⟩, ⟨by decide, by decide⟩, by decide, by decide⟩) (by decide)) (p_ := fun f1 _ => f1) (q_ := fun _ f => f) (fun g4 f1 f z0 z1 z2 z3 => ⟨z1, by rw [z2]; exact p0_on z3⟩) (fun f1 f w1 w2 => ⟨bpl_mono (b40 hA hB w1) (by decide), bpl_mono (b40 hA hC w2) (by decide)⟩) h hs
  have k2 : keepF g2 = keepF g0 := (keepF_A (keepA_scr (scr_o3 r2))).trans e
  obtain ⟨g3, s3, u1, ⟨⟨u2, u0⟩, u3, u4⟩, u5⟩ := tries_out I k2 hA hB hC hAB hAC hBC (by rw [r2.1 90 0 rfl]; exact e0) (by rw [r2.1 90 1 rfl]; exact e1) (by rw [r2.1 90 2 rfl]; exact e2) (by rw [r2.1 44 72 rfl]; exact hm) r0 (Y := B) (X := B) (Z := C) (o := 1) (u := 1) (i := 2) hB hAB hB hC hBC (by decide) (by decide) (by decide) (by decide) (by decide) (by decide) (by decide) (by rw [r2.1 90 1 rfl]; exact e1) (by rw [r2.1 90 1 rfl]; exact e1) (by rw [r2.1 90 2 rfl]; exact e2) (Pu := fun f => f) (fun g4 f _ z1 => z1) (fun f w => bpl_mono (b40 hA hB w) (by decide)) (p_ := fun f1 _ => f1) (q_ := fun f1 f => pon f1 f) (fun g4 f1 f z0 z1 z2 z3 => ⟨z1, z2⟩) (fun f1 f w1 w2 => ⟨bpl_mono (b40 hA hB w1) (by decide), bpl_mono (bpl_on (b40 hA hB w1) (b40 hB hC w2)) (by decide)⟩) r3 r4
  have x3 : exc W_o3 nob g g3 := exc_tr r2 u2
  have k3 : keepF g3 = keepF g0 := (keepF_A (keepA_scr (scr_o3 x3))).trans e
  obtain ⟨g4, s4, v1, ⟨⟨v2, v0⟩, v3, v4⟩, v5⟩ := tries_out I k3 hA hB hC hAB hAC hBC (by rw [x3.1 90 0 rfl]; exact e0) (by rw [x3.1 90 1 rfl]; exact e1) (by rw [x3.1 90 2 rfl]; exact e2) (by rw [x3.1 44 72 rfl]; exact hm) u0 (Y := C) (X := C) (Z := B) (o := 2) (u := 2) (i := 1) hC hAC hC hB (fun z => hBC z.symm) (by decide) (by decide) (by decide) (by decide) (by decide) (by decide) (by decide) (by rw [x3.1 90 2 rfl]; exact e2) (by rw [x3.1 90 2 rfl]; exact e2) (by rw [x3.1 90 1 rfl]; exact e1) (Pu := fun f => f) (fun g4 f _ z1 => z1) (fun f w => bpl_mono (b40 hA hC w) (by decide)) (p_ := fun f1 f => pon f1 f) (q_ := fun f1 _ => f1) (fun g4 f1 f z0 z1 z2 z3 => ⟨z2, z1⟩) (fun f1 f w1 w2 => ⟨bpl_mono (bpl_on (b40 hA hC w1) (b40 hC hB w2)) (by decide), bpl_mono (b40 hA hC w1) (by decide)⟩) u3 u4
  refine ⟨g2, g3, g4, s4, r1, u1, v1, exc_tr x3 v2, v3, v4, adds_tr r5 (adds_tr u5 v5 (fun c => Iff.rfl)) (fun c => ?_)⟩
  unfold cAll
  constructor
  · rintro (⟨p, q, h1, h2, h3⟩ | ⟨p, r, h1, h2, h3⟩ | ⟨q, r, h1, h2, h3⟩)
    · exact Or.inl ⟨p, h1, q, h2, h3⟩
    · exact Or.inr (Or.inl ⟨p, h1, r, h2, h3⟩)
    · exact Or.inr (Or.inr ⟨q, h1, r, h2, h3⟩)
  · rintro (⟨p, h1, q, h2, h3⟩ | ⟨p, h1, r, h2, h3⟩ | ⟨q, h1, r, h2, h3⟩)
    · exact Or.inl ⟨p, q, h1, h2, h3⟩
    · exact Or.inr (Or.inl ⟨p, r, h1, h2, h3⟩)
    · exact Or.inr (Or.inr ⟨q, r, h1, h2, h3⟩)
