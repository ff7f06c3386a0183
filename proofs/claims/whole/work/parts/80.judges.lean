/-! Arrangements: judgesSet of the reference, with two and with three bits. -/
theorem isBr_p {g g2 : gm_T} (x : exc W_p nob g g2) {m : Nat} {s : cnd} (h : isBr g m s) : isBr g2 m s := by
  obtain ⟨h1, h2, h3⟩ := h
  have e : gQ g2 = gQ g := funext fun i => by
    unfold gQ
    rw [x.1 94 i rfl, x.1 95 i rfl, x.1 96 i rfl]
  refine ⟨by rw [x.1 44 73 rfl]; exact h1, fun q => ?_, h3⟩
  rw [e]
  exact h2 q
theorem gT_p {g g2 : gm_T} (x : exc W_p nob g g2) : gT g2 = gT g := funext fun i => by
  unfold gT
  rw [x.1 91 i rfl, x.1 92 i rfl, x.1 93 i rfl]
theorem scr_jg {g g2 : gm_T} (h : exc W_jg nob g g2) : exc scr scrJ g g2 := exc_mono h (fun a k q => by
  simp only [W_jg, W_q, W_p, Bool.or_eq_true, Bool.and_eq_true, beq_iff_eq] at q
  rcases q with (((rfl | rfl) | rfl) | ⟨rfl, (rfl | rfl) | rfl⟩) | ⟨rfl, rfl⟩ <;> rfl) (fun _ _ q => by cases q)
theorem md_judges_2 {n : Nat} {g0 : gm_T} (I : I_fit n g0) {g : gm_T} (e : keepF g = keepF g0) {A B : Nat} (hA : A < n) (hB : B < n) (hAB : A ≠ B) (e0 : gm_I g 90 0 = (A : Int)) (e1 : gm_I g 90 1 = (B : Int)) (hm : gm_I g 44 72 = ((2 : Nat) : Int)) {p : plc} (t0 : gT g 0 = p0) (t1 : gT g 1 = p) (hp : bpl 200 p) {s : cnd} (h : isBr g 2 s) (hs : bS s) : ∃ g2 s2, md_judgesSet g = some g2 ∧ exc W_jg nob g g2 ∧ isBr g2 2 s2 ∧ bS s2 ∧ adds (fun c => ¬ bad g0 A B p0 p ∧ cd2 g0 A B p c) s s2 := by
  obtain ⟨g2, r1, r2⟩ := md_worthOf_eq I e (i := 0) (k := 1) hA hB hAB (by decide) (by decide) e0 e1 (by rw [t0]; exact b_0) (by rw [t1]; exact hp)
  rw [t0, t1, rel_0 hp.1] at r1
  have hm2 : gm_I g2 44 72 = ((2 : Nat) : Int) := by rw [r2.1 44 72 rfl]; exact hm
  have h2 := isBr_p r2 h
  have eT := gT_p r2
  have w1 := wt_b I hA hB p
  unfold md_judgesSet
  rw [show md_worthOf g 0 1 = _ from r1, jb2_some]
  by_cases c : bad g0 A B p0 p
  · have tl := (md_tail_eq hm2 (Or.inl rfl) h2 hs (v := -1) (by decide) hp b_0 (by rw [eT]; exact t0) (by rw [eT]; exact t1) (fun z => absurd z (by decide)) (fun _ => rfl)).1 ⟨by decide, by decide⟩
    rw [@if_pos _ (gd _) c, jg_pos (rgk rfl), if_pos (by decide), jb2_some]
    exact ⟨g2, s, tl, jg_p r2, h2, hs, adds_no s (fun d z => z.1 c)⟩
  · obtain ⟨g4, u1, u2, u3⟩ := (md_tail_eq hm2 (Or.inl rfl) h2 hs (v := wt g0 A B p) (by omega) hp b_0 (by rw [eT]; exact t0) (by rw [eT]; exact t1) (fun z => absurd z (by decide)) (fun _ => rfl)).2 w1.1
    rw [@if_neg _ (gd _) c, jg_pos ⟨by omega, by omega⟩, if_neg (by omega), hm2, jg_pos (rgk rfl), if_neg (by decide), jb2_some]
    refine ⟨g4, _, u1, exc_tr (jg_p r2) u2, u3, bS_u ⟨⟨by dsimp only; omega, by dsimp only; omega⟩, hp, b_0⟩ hs, adds_c (fun d => ?_) (adds_1 s (c := (wt g0 A B p, p, p0)) w1.1)⟩
    unfold cd2
    exact ⟨fun z => ⟨c, z⟩, fun z => z.2⟩
theorem md_judges_3 {n : Nat} {g0 : gm_T} (I : I_fit n g0) {g : gm_T} (e : keepF g = keepF g0) {A B C : Nat} (hA : A < n) (hB : B < n) (hC : C < n) (hAB : A ≠ B) (hAC : A ≠ C) (hBC : B ≠ C) (e0 : gm_I g 90 0 = (A : Int)) (e1 : gm_I g 90 1 = (B : Int)) (e2 : gm_I g 90 2 = (C : Int)) (hm : gm_I g 44 72 = ((3 : Nat) : Int)) {p q : plc} (t0 : gT g 0 = p0) (t1 : gT g 1 = p) (t2 : gT g 2 = q) (hp : bpl 200 p) (hq : bpl 200 q) {s : cnd} (h : isBr g 3 s) (hs : bS s) : ∃ g2 s2, md_judgesSet g = some g2 ∧ exc W_jg nob g g2 ∧ isBr g2 3 s2 ∧ bS s2 ∧ adds (cd3 g0 A B C p q) s s2 := by
  have w1 := wt_b I hA hB p
  have w2 := wt_b I hA hC q
  have w3 := wt_b I hB hC (rel p q)
  obtain ⟨g2, r1, r2⟩ := md_worthOf_eq I e (i := 0) (k := 1) hA hB hAB (by decide) (by decide) e0 e1 (by rw [t0]; exact b_0) (by rw [t1]; exact hp)
  rw [t0, t1, rel_0 hp.1] at r1
  have k2 : keepF g2 = keepF g0 := (keepF_A (keepA_scr (scr_p r2))).trans e
  have eT2 : gT g2 = gT g := gT_p r2
  obtain ⟨g3, u1, u2⟩ := md_worthOf_eq I k2 (i := 0) (k := 2) hA hC hAC (by decide) (by decide) (by rw [r2.1 90 0 rfl]; exact e0) (by rw [r2.1 90 2 rfl]; exact e2) (by rw [eT2, t0]; exact b_0) (by rw [eT2, t2]; exact hq)
  rw [eT2, t0, t2, rel_0 hq.1] at u1
  have x3 : exc W_p nob g g3 := exc_tr r2 u2
  have k3 : keepF g3 = keepF g0 := (keepF_A (keepA_scr (scr_p x3))).trans e
  have eT3 : gT g3 = gT g := gT_p x3
  obtain ⟨g4, v1, v2⟩ := md_worthOf_eq I k3 (i := 1) (k := 2) hB hC hBC (by decide) (by decide) (by rw [x3.1 90 1 rfl]; exact e1) (by rw [x3.1 90 2 rfl]; exact e2) (by rw [eT3, t1]; exact hp) (by rw [eT3, t2]; exact hq)
  rw [eT3, t1, t2] at v1
  have x4 : exc W_p nob g g4 := exc_tr x3 v2
  have hm2 : gm_I g2 44 72 = ((3 : Nat) : Int) := by rw [r2.1 44 72 rfl]; exact hm
  have low : ∀ g5, exc W_p nob g g5 → (∃ g6 s2, (jg (rg (-1 : Int)) (if (-1 : Int) < 0 then (some g5) else (jg (rg (gm_I g5 44 73)) (if (gm_I g5 44 73) = (-1) then (jl (gm_wI g5 44 73 (-1)) fun (g20 : gm_T) => jb1 (md_judgesSet_l97 fz 0 g20) fun (g36 : gm_T) => some g36) else (if (-1 : Int) ≤ (gm_I g5 44 73) then (if (-1 : Int) = (gm_I g5 44 73) then (jb1 (md_isAhead g5) fun (v37 : Int) => jg (rg v37) (if v37 = 0 then (some g5) else (jl (gm_wI g5 44 73 (-1)) fun (g39 : gm_T) => jb1 (md_judgesSet_l97 fz 0 g39) fun (g49 : gm_T) => some g49))) else (some g5)) else (jl (gm_wI g5 44 73 (-1)) fun (g50 : gm_T) => jb1 (md_judgesSet_l97 fz 0 g50) fun (g60 : gm_T) => some g60)))))) = some g6 ∧ exc W_jg nob g g6 ∧ isBr g6 3 s2 ∧ bS s2 ∧ (bad g0 A B p0 p ∨ bad g0 A C p0 q ∨ bad g0 B C p q → adds (cd3 g0 A B C p q) s s2)) := fun g5 x5 => by
    refine ⟨g5, s, ?_, jg_p x5, isBr_p x5 h, hs, fun c => adds_no s (fun d z => z.1 c)⟩
    rw [jg_pos (rgk rfl), if_pos (by decide)]
  unfold md_judgesSet
  rw [show md_worthOf g 0 1 = _ from r1, jb2_some]
  by_cases c1 : bad g0 A B p0 p
  · obtain ⟨g6, s2, a1, a2, a3, a4, a5⟩ := low g2 r2
    rw [@if_pos _ (gd _) c1, jg_pos (rgk rfl), if_pos (by decide), jb2_some]
    exact ⟨g6, s2, a1, a2, a3, a4, a5 (Or.inl c1)⟩
  · rw [@if_neg _ (gd _) c1, jg_pos ⟨by omega, by omega⟩, if_neg (by omega), hm2, jg_pos (rgk rfl), if_pos (by decide), show md_worthOf g2 0 2 = _ from u1, jb2_some]
    by_cases c2 : bad g0 A C p0 q
    · obtain ⟨g6, s2, a1, a2, a3, a4, a5⟩ := low g3 x3
      rw [@if_pos _ (gd _) c2, jg_pos (rgk rfl), if_pos (by decide), jb2_some, jg_pos (rgk rfl), if_pos (by decide), jb2_some]
      exact ⟨g6, s2, a1, a2, a3, a4, a5 (Or.inr (Or.inl c2))⟩
    · rw [@if_neg _ (gd _) c2, jg_pos ⟨by omega, by omega⟩, if_neg (by omega), show md_worthOf g3 1 2 = _ from v1, jb2_some, jb2_some]
      by_cases c3 : bad g0 B C p q
      · obtain ⟨g6, s2, a1, a2, a3, a4, a5⟩ := low g4 x4
        rw [@if_pos _ (gd _) c3, jg_pos (rgk rfl), if_pos (by decide), jb2_some]
        exact ⟨g6, s2, a1, a2, a3, a4, a5 (Or.inr (Or.inr c3))⟩
      · rw [@if_neg _ (gd _) c3, jg_pos ⟨by omega, by omega⟩, if_neg (by omega), jl_eq, jb2_some]
        have eT4 : gT g4 = gT g := gT_p x4
        obtain ⟨g6, a1, a2, a3⟩ := (md_tail_eq (m := 3) (by rw [x4.1 44 72 rfl]; exact hm) (Or.inr rfl) (isBr_p x4 h) hs (v := wt g0 A B p + wt g0 A C q + wt g0 B C (rel p q)) (by omega) hp hq (by rw [eT4]; exact t0) (by rw [eT4]; exact t1) (fun _ => by rw [eT4]; exact t2) (fun z => absurd z (by decide))).2 (by omega)
        refine ⟨g6, _, a1, exc_tr (jg_p x4) a2, a3, bS_u ⟨⟨by dsimp only; omega, by dsimp only; omega⟩, hp, hq⟩ hs, adds_c (fun d => ?_) (adds_1 s (c := (wt g0 A B p + wt g0 A C q + wt g0 B C (rel p q), p, q)) (by dsimp only; omega))⟩
        unfold cd3
        exact ⟨fun z => ⟨fun y => y.elim c1 (fun y => y.elim c2 c3), z⟩, fun z => z.2⟩
