/-! What is said of a join that is tried; the reference says it. -/
def VR (n : Nat) (g : gm_T) (P : Nat → plc) (a b : Nat) (f : plc) (k x y d : Nat) (w : Nat → Int) : Prop :=
  @ite _ (cn g a b) (gd _) (@ite _ (rel (P a) (P b) = f) (gd _) (k = 0) (k = 1 ∧ x = a ∧ y = b ∧ dst n g b a = (d : Int) ∧ ∀ i, i < d → w i = wayj n g b a i))
  (@ite _ (∃ p q, LF (hit2 g P a b f) n p q) (gd _) (∃ d1 d2 : Nat, LF (hit2 g P a b f) n x y ∧ k = 2 ∧ dst n g a x = (d1 : Int) ∧ dst n g y b = (d2 : Int) ∧ d = d1 + d2 ∧ ∀ i, i < d → w i = two d1 (wayj n g a x) (wayj n g y b) i)
  (@ite _ (onW n g a) (gd _) (@ite _ (onW n g b) (gd _) (@ite _ (P b = pon (P a) f) (gd _) (k = 0) (∃ d1 d2 : Nat, k = 3 ∧ hl n g (rt g a) = (x : Int) ∧ hl n g (rt g b) = (y : Int) ∧ dst n g a x = (d1 : Int) ∧ dst n g y b = (d2 : Int) ∧ d = d1 + d2 ∧ ∀ i, i < d → w i = two d1 (wayj n g a x) (wayj n g y b) i))
    (@ite _ (∃ p q, LF (hitc n g P b (rt g a : Int) (pon (P a) f)) n p q) (gd _) (LF (hitc n g P b (rt g a : Int) (pon (P a) f)) n x y ∧ k = 5 ∧ d = 0) (k = 0)))
  (@ite _ (onW n g b) (gd _) (@ite _ (∃ p q, LF (hitc n g P a (rt g b : Int) (pon (P b) (pin f))) n p q) (gd _) (LF (hitc n g P a (rt g b : Int) (pon (P b) (pin f))) n x y ∧ k = 5 ∧ d = 0) (k = 0)) (k = 0))))
theorem VR_uniq {n : Nat} {g : gm_T} {P : Nat → plc} {a b : Nat} {f : plc} {k x y d k2 x2 y2 d2 : Nat} {w w2 : Nat → Int} (h : VR n g P a b f k x y d w) (h2 : VR n g P a b f k2 x2 y2 d2 w2) : k = k2 ∧ (k ≠ 0 → x = x2 ∧ y = y2 ∧ d = d2 ∧ ∀ i, i < d → w i = w2 i) := by
  unfold VR at h h2
  by_cases c1 : cn g a b
  · rw [@if_pos _ (gd _) c1] at h h2
    by_cases c2 : rel (P a) (P b) = f
    · rw [@if_pos _ (gd _) c2] at h h2
      exact ⟨by rw [h, h2], fun q => absurd h q⟩
    · rw [@if_neg _ (gd _) c2] at h h2
      obtain ⟨q1, q2, q3, q4, q5⟩ := h
      obtain ⟨r1, r2, r3, r4, r5⟩ := h2
      exact ⟨by rw [q1, r1], fun _ => ⟨by rw [q2, r2], by rw [q3, r3], by omega, fun i hi => by rw [q5 i hi, r5 i (by omega)]⟩⟩
  · rw [@if_neg _ (gd _) c1] at h h2
    by_cases c2 : ∃ p q, LF (hit2 g P a b f) n p q
    · rw [@if_pos _ (gd _) c2] at h h2
      obtain ⟨d1, d3, q0, q1, q2, q3, q4, q5⟩ := h
      obtain ⟨e1, e3, r0, r1, r2, r3, r4, r5⟩ := h2
      obtain ⟨rfl, rfl⟩ := LF_uniq q0 r0
      have z1 : d1 = e1 := by omega
      subst z1
      exact ⟨by rw [q1, r1], fun _ => ⟨rfl, rfl, by omega, fun i hi => by rw [q5 i hi, r5 i (by omega)]⟩⟩
    · rw [@if_neg _ (gd _) c2] at h h2
      by_cases c3 : onW n g a
      · rw [@if_pos _ (gd _) c3] at h h2
        by_cases c4 : onW n g b
        · rw [@if_pos _ (gd _) c4] at h h2
          by_cases c5 : P b = pon (P a) f
          · rw [@if_pos _ (gd _) c5] at h h2
            exact ⟨by rw [h, h2], fun q => absurd h q⟩
          · rw [@if_neg _ (gd _) c5] at h h2
            obtain ⟨d1, d3, q1, q6, q7, q2, q3, q4, q5⟩ := h
            obtain ⟨e1, e3, r1, r6, r7, r2, r3, r4, r5⟩ := h2
            have z2 : x = x2 := by omega
            have z3 : y = y2 := by omega
            subst z2 z3
            have z1 : d1 = e1 := by omega
            subst z1
            exact ⟨by rw [q1, r1], fun _ => ⟨rfl, rfl, by omega, fun i hi => by rw [q5 i hi, r5 i (by omega)]⟩⟩
        · rw [@if_neg _ (gd _) c4] at h h2
          by_cases c5 : ∃ p q, LF (hitc n g P b (rt g a : Int) (pon (P a) f)) n p q
          · rw [@if_pos _ (gd _) c5] at h h2
            obtain ⟨q0, q1, q2⟩ := h
            obtain ⟨r0, r1, r2⟩ := h2
            obtain ⟨rfl, rfl⟩ := LF_uniq q0 r0
            exact ⟨by rw [q1, r1], fun _ => ⟨rfl, rfl, by omega, fun i hi => by omega⟩⟩
          · rw [@if_neg _ (gd _) c5] at h h2
            exact ⟨by rw [h, h2], fun q => absurd h q⟩
      · rw [@if_neg _ (gd _) c3] at h h2
        by_cases c4 : onW n g b
        · rw [@if_pos _ (gd _) c4] at h h2
          by_cases c5 : ∃ p q, LF (hitc n g P a (rt g b : Int) (pon (P b) (pin f))) n p q
          · rw [@if_pos _ (gd _) c5] at h h2
            obtain ⟨q0, q1, q2⟩ := h
            obtain ⟨r0, r1, r2⟩ := h2
            obtain ⟨rfl, rfl⟩ := LF_uniq q0 r0
            exact ⟨by rw [q1, r1], fun _ => ⟨rfl, rfl, by omega, fun i hi => by omega⟩⟩
          · rw [@if_neg _ (gd _) c5] at h h2
            exact ⟨by rw [h, h2], fun q => absurd h q⟩
        · rw [@if_neg _ (gd _) c4] at h h2
          exact ⟨by rw [h, h2], fun q => absurd h q⟩
/-- what the reference gives then -/
def MO (k x y d : Nat) (w : Nat → Int) (g0 : gm_T) (o : Option (Int × gm_T)) : Prop := (k = 0 → ∃ g2, o = some (0, g2) ∧ exc scr scrJ g0 g2) ∧ (k ≠ 0 → ∃ g2, o = some (-10 - (k : Int), g2) ∧ gm_I g2 44 35 = (k : Int) ∧ gm_I g2 44 36 = (d : Int) ∧ gm_I g2 44 37 = (x : Int) ∧ gm_I g2 44 38 = (y : Int) ∧ (∀ i, i < d → gm_I g2 75 i = w i) ∧ exc km scrJ g0 g2)
theorem MO_0 {x y d : Nat} {w : Nat → Int} {g0 g2 : gm_T} {o : Option (Int × gm_T)} (h : o = some (0, g2)) (x2 : exc scr scrJ g0 g2) : MO 0 x y d w g0 o := ⟨fun _ => ⟨g2, h, x2⟩, fun q => absurd rfl q⟩
theorem MO_tr {k x y d : Nat} {w : Nat → Int} {g0 g1 : gm_T} {o : Option (Int × gm_T)} (x1 : exc scr scrJ g0 g1) (h : MO k x y d w g1 o) : MO k x y d w g0 o := ⟨fun q => by
  obtain ⟨g2, h1, h2⟩ := h.1 q
  exact ⟨g2, h1, exc_tr x1 h2⟩, fun q => by
  obtain ⟨g2, h1, h2, h3, h4, h5, h6, h7⟩ := h.2 q
  exact ⟨g2, h1, h2, h3, h4, h5, h6, exc_tr (km_scr x1) h7⟩⟩
theorem o_78 {n : Nat} {g : gm_T} {P : Nat → plc} (h : IWm n g P) {g1 : gm_T} (k1 : keepC g1 = keepC g) (H1 : isGr n g P g1) (e3 : isO n (onW n g) P g1) {b c : Nat} (hb : b < n) (hc : c < n) {q : plc} (hq : bpl 200000 q) : (∃ i k, LF (hitc n g P b (rt g c : Int) q) n i k ∧ ∃ o, o = (jb1 (md_places g1 (b : Int) q.1 q.2.1 q.2.2) fun (g30 : gm_T) => jb2 (md_hits g30 (gm_I g30 78 b) (gm_I g30 78 c)) fun (v32 : Int) (g33 : gm_T) => some (v32, g33)) ∧ MO 5 i k 0 (fun _ => 0) g1 o) ∨ ((¬ ∃ i k, LF (hitc n g P b (rt g c : Int) q) n i k) ∧ ∃ o, o = (jb1 (md_places g1 (b : Int) q.1 q.2.1 q.2.2) fun (g30 : gm_T) => jb2 (md_hits g30 (gm_I g30 78 b) (gm_I g30 78 c)) fun (v32 : Int) (g33 : gm_T) => some (v32, g33)) ∧ MO 0 0 0 0 (fun _ => 0) g1 o) := by
  have h30 := h.1.1.2.2
  have hrc := rt_le g c
  obtain ⟨g2, f1, f2, -⟩ := md_places_eq h k1 H1 hb (q := q) hq (by decide) (by decide)
  have H2 := isGr_o H1 f2
  have h5 := md_ph_eq h k1 H1 e3 hb hq (but := (rt g c : Int)) (rgn (by omega))
  rw [f1, jb1_some] at h5
  rw [f1, jb1_some, (H2 b hb).1, (H2 c hc).1]
  rcases h5 with ⟨z1, g3, z2, z3⟩ | ⟨i, k, z1, g3, z2, z3, z4, z5, z6, z7⟩
  · right
    exact ⟨fun ⟨i, k, z⟩ => z1 i k z.1 z.2.1 z.2.2.1, _, rfl, MO_0 z2 z3⟩
  · left
    exact ⟨i, k, z1, _, rfl, fun q => by omega, fun _ => ⟨g3, z2, z3, z4, z5, z6, fun i hi => by omega, z7⟩⟩
theorem md_against_eq {n : Nat} {g : gm_T} {P : Nat → plc} (h : IWm n g P) {g0 : gm_T} (e0 : keepC g0 = keepC g) (H0 : isGr n g P g0) {a b : Nat} (ha : a < n) (hb : b < n) (hm : jm g < 60) (hjk : jok n g (jm g)) (hcn : ¬ cn g a b) (hno : ¬ ∃ p q, LF (hit2 g P a b (jpl g (jm g))) n p q) : ∃ k x y d w, VR n g P a b (jpl g (jm g)) k x y d w ∧ d ≤ 60 ∧ MO k x y d w g0 (md_against g0 (a : Int) (b : Int)) := by
  have h30 := h.1.1.2.2
  have ok := IWm_ok h
  have hf40 := jok_b h.1 hjk
  have hK : Kb g ≤ 147000 := by
    have := (jm_60m h.2.1).1
    unfold Kb
    omega
  have hK0 : 0 ≤ Kb g := by unfold Kb; omega
  have hm44 := (jm_60m h.2.1).2.1
  have hra : rt g a < n := Nat.lt_of_le_of_lt (rt_le g a) ha
  have hrb : rt g b < n := Nat.lt_of_le_of_lt (rt_le g b) hb
  obtain ⟨g1, w1, w2, w3⟩ := md_walls_eq h e0 H0
  have k1 := (keepC_scr (scr_o w2)).trans e0
  have H1 := isGr_o H0 w2
  have hJ : ∀ c, c < n → onW n g c → ∃ g2, md_holds g1 (gm_I g1 85 c) (gm_I g1 86 c) (gm_I g1 87 c) = some g2 ∧ pH g2 = P c ∧ exc W_p nob g1 g2 := fun c hc y => by
    obtain ⟨g2, z1, z2, z3⟩ := md_holds_eq g1 (gm_I g1 85 c) (gm_I g1 86 c) (gm_I g1 87 c)
    refine ⟨g2, z1, ?_, z3⟩
    rw [z2]
    exact (w3 c hc).1 y
  have isO_p : ∀ {x y : gm_T}, exc W_p nob x y → isO n (onW n g) P x → isO n (onW n g) P y := fun e hO c hc => by
    unfold gO
    rw [e.1 85 c rfl, e.1 86 c rfl, e.1 87 c rfl]
    exact hO c hc
  have hx44 : ∀ {g2 : gm_T}, keepC g2 = keepC g → gm_I g2 44 24 = ((jm g : Nat) : Int) := fun e => by
    have h1 : ∀ g2, keepC g2 = keepC g → gm_I (keepC g2) 44 24 = gm_I (keepC g) 44 24 := fun g2 e => by rw [e]
    exact (h1 _ e).trans hm44
  unfold md_against
  rw [jg_pos (by omega), Int.toNat_natCast, (H0 a ha).1, md_holder_eq h.1.1 h.2.2.2 e0 H0 hra, jb1_some, jg_pos (by omega), Int.toNat_natCast, (H0 b hb).1, md_holder_eq h.1.1 h.2.2.2 e0 H0 hrb, jb1_some]
  unfold VR
  simp only [@if_neg _ (gd _) hcn, @if_neg _ (gd _) hno]
  rcases hl_sp (n := n) g a with ⟨p1, p2⟩ | ⟨c, c1, c2, c3, c4, p2⟩
  · rw [p1, jg_pos (rgk rfl), if_pos rfl]
    simp only [@if_neg _ (gd _) p2]
    rcases hl_sp (n := n) g b with ⟨q1, q2⟩ | ⟨e, e1, e2, e3, e4, q2⟩
    · rw [q1, jg_pos (rgk rfl), if_pos rfl]
      simp only [@if_neg _ (gd _) q2]
      exact ⟨0, 0, 0, 0, fun _ => 0, rfl, by decide, MO_0 rfl exc_rf⟩
    · -- b's group stands: a's is moved
      rw [e2, jg_pos (rgn (by omega)), if_neg (by omega), w1, jb1_some, if_pos trivial]
      simp only [@if_pos _ (gd _) q2]
      obtain ⟨g2, z1, z2, z3⟩ := hJ b hb q2
      have k2 := (keepC_scr (scr_p z3)).trans k1
      obtain ⟨g3, y1, y2, y3⟩ := (md_thenJoin_eq (I_fit_tr (keepF_C k2) h.1) hm (jok_trm k2 hjk) (M := Kb g) (by rw [z2]; exact h.2.2.2.2.2.1 b) (by omega) hK0).2
      rw [c_jpl k2, z2] at y2
      have k3 := (keepC_scr (scr_p y3)).trans k2
      have hx : exc W_p nob g1 g3 := exc_tr z3 y3
      have hq : bpl 200000 (pon (P b) (pin (jpl g (jm g)))) := bpl_mono (bpl_on (h.2.2.2.2.2.1 b) (bpl_in hf40)) (by omega)
      have p49 : gm_I g3 44 49 = (pon (P b) (pin (jpl g (jm g)))).1 := congrArg (fun p : plc => p.1) y2
      have p50 : gm_I g3 44 50 = (pon (P b) (pin (jpl g (jm g)))).2.1 := congrArg (fun p : plc => p.2.1) y2
      have p51 : gm_I g3 44 51 = (pon (P b) (pin (jpl g (jm g)))).2.2 := congrArg (fun p : plc => p.2.2) y2
      rw [z1, jb1_some, hx44 k2, y1, jb1_some, p49, p50, p51]
      rcases o_78 h k3 (isGr_p H1 hx) (isO_p hx w3) ha hb hq with ⟨i, k, s1, o, s2, s3⟩ | ⟨s1, o, s2, s3⟩
      · rw [← s2]
        refine ⟨5, i, k, 0, fun _ => 0, ?_, by decide, MO_tr (exc_tr (scr_o w2) (scr_p hx)) s3⟩
        rw [@if_pos _ (gd _) ⟨i, k, s1⟩]
        exact ⟨s1, rfl, rfl⟩
      · rw [← s2]
        refine ⟨0, 0, 0, 0, fun _ => 0, ?_, by decide, MO_tr (exc_tr (scr_o w2) (scr_p hx)) s3⟩
        rw [@if_neg _ (gd _) s1]
  · rw [c2, jg_pos (rgn (by omega)), if_neg (by omega), w1, jb1_some, if_neg (by omega)]
    simp only [@if_pos _ (gd _) p2]
    rcases hl_sp (n := n) g b with ⟨q1, q2⟩ | ⟨e, e1, e2, e3, e4, q2⟩
    · -- a's group stands: b's is moved
      rw [q1, jg_pos (rgk rfl), if_pos rfl, if_neg (by omega)]
      simp only [@if_neg _ (gd _) q2]
      obtain ⟨g2, z1, z2, z3⟩ := hJ a ha p2
      have k2 := (keepC_scr (scr_p z3)).trans k1
      obtain ⟨g3, y1, y2, y3⟩ := (md_thenJoin_eq (I_fit_tr (keepF_C k2) h.1) hm (jok_trm k2 hjk) (M := Kb g) (by rw [z2]; exact h.2.2.2.2.2.1 a) (by omega) hK0).1
      rw [c_jpl k2, z2] at y2
      have k3 := (keepC_scr (scr_p y3)).trans k2
      have hx : exc W_p nob g1 g3 := exc_tr z3 y3
      have hq : bpl 200000 (pon (P a) (jpl g (jm g))) := bpl_mono (bpl_on (h.2.2.2.2.2.1 a) hf40) (by omega)
      have p49 : gm_I g3 44 49 = (pon (P a) (jpl g (jm g))).1 := congrArg (fun p : plc => p.1) y2
      have p50 : gm_I g3 44 50 = (pon (P a) (jpl g (jm g))).2.1 := congrArg (fun p : plc => p.2.1) y2
      have p51 : gm_I g3 44 51 = (pon (P a) (jpl g (jm g))).2.2 := congrArg (fun p : plc => p.2.2) y2
      rw [z1, jb1_some, hx44 k2, y1, jb1_some, p49, p50, p51]
      rcases o_78 h k3 (isGr_p H1 hx) (isO_p hx w3) hb ha hq with ⟨i, k, s1, o, s2, s3⟩ | ⟨s1, o, s2, s3⟩
      · rw [← s2]
        refine ⟨5, i, k, 0, fun _ => 0, ?_, by decide, MO_tr (exc_tr (scr_o w2) (scr_p hx)) s3⟩
        rw [@if_pos _ (gd _) ⟨i, k, s1⟩]
        exact ⟨s1, rfl, rfl⟩
      · rw [← s2]
        refine ⟨0, 0, 0, 0, fun _ => 0, ?_, by decide, MO_tr (exc_tr (scr_o w2) (scr_p hx)) s3⟩
        rw [@if_neg _ (gd _) s1]
    · -- both stand
      rw [e2, jg_pos (rgn (by omega)), if_neg (by omega)]
      simp only [@if_pos _ (gd _) q2]
      obtain ⟨g2, z1, z2, z3⟩ := hJ a ha p2
      have k2 := (keepC_scr (scr_p z3)).trans k1
      obtain ⟨g3, y1, y2, y3⟩ := (md_thenJoin_eq (I_fit_tr (keepF_C k2) h.1) hm (jok_trm k2 hjk) (M := Kb g) (by rw [z2]; exact h.2.2.2.2.2.1 a) (by omega) hK0).1
      rw [c_jpl k2, z2] at y2
      have k3 := (keepC_scr (scr_p y3)).trans k2
      have hx : exc W_p nob g1 g3 := exc_tr z3 y3
      have hO3 := (isO_p hx w3 b hb).1 q2
      have p85 : gm_I g3 85 b = (P b).1 := congrArg (fun p : plc => p.1) hO3
      have p86 : gm_I g3 86 b = (P b).2.1 := congrArg (fun p : plc => p.2.1) hO3
      have p87 : gm_I g3 87 b = (P b).2.2 := congrArg (fun p : plc => p.2.2) hO3
      rw [z1, jb1_some, hx44 k2, y1, jb1_some, p85, p86, p87, md_isHeld_eq (M := Kb g + 40) (by rw [y2]; exact bpl_on (h.2.2.2.2.2.1 a) hf40) (x := (P b).1) (y := (P b).2.1) (z := (P b).2.2) (N := Kb g) (h.2.2.2.2.2.1 b) (by omega) (by omega), jb1_some, jg_pos rg01]
      have hiff : pH g3 = ((P b).1, (P b).2.1, (P b).2.2) ↔ P b = pon (P a) (jpl g (jm g)) := by
        rw [y2]
        exact ⟨fun z => z.symm, fun z => z.symm⟩
      have xs : exc scr scrJ g0 g3 := exc_tr (scr_o w2) (scr_p hx)
      by_cases c5 : P b = pon (P a) (jpl g (jm g))
      · rw [if_pos (hiff.mpr c5), if_neg n10]
        simp only [@if_pos _ (gd _) c5]
        exact ⟨0, 0, 0, 0, fun _ => 0, rfl, by decide, MO_0 rfl xs⟩
      · rw [if_neg (fun z => c5 (hiff.mp z)), if_pos rfl, jl_eq]
        simp only [@if_neg _ (gd _) c5]
        obtain ⟨d1, d1n, d1e⟩ := cn_far h.2.1 ha c3
        obtain ⟨d2, d2n, d2e⟩ := cn_far h.2.1 e1 (gC_sy e3)
        have k4 : keepC (gm_wI g3 44 55 0) = keepC g := (keepC_scr (exc_wI exc_rf rfl)).trans k3
        obtain ⟨g6, s1, s2, s3, s4, s5⟩ := md_goes_C h k4 (a := a) (b := c) (d := d1) (u := 0) ha c1 d1e (by omega) gI_eq
        have k6 := (keepC_scr (scr_goes s2)).trans k4
        obtain ⟨g7, t1, t2, t3, t4, t5⟩ := md_goes_C h k6 (a := e) (b := b) (d := d2) (u := 0 + d1) e1 hb d2e (by omega) s3
        obtain ⟨g8, u1, u2, u3, u4, u5, u6, u7⟩ := md_clby_eq (g := g7) (k := 3) (one := (c : Int)) (two := (e : Int)) (u := 0 + d1 + d2) (by omega) t3
        rw [s1, jb1_some, t1, jb1_some, u1, jb2_some]
        refine ⟨3, c, e, d1 + d2, two d1 (wayj n g a c) (wayj n g e b), ⟨d1, d2, rfl, rfl, rfl, d1e, d2e, rfl, fun _ _ => rfl⟩, by omega, fun q => by omega, fun _ => ⟨g8, rfl, u2, by rw [u3]; omega, u4, u5, fun i hi => ?_, ?_⟩⟩
        · rw [u6 i (by omega)]
          unfold two
          by_cases z : i < d1
          · rw [@if_pos _ (gd _) z, t4 i (by omega)]
            have := s5 i z
            rw [Nat.zero_add] at this
            exact this
          · rw [@if_neg _ (gd _) z]
            have := t5 (i - d1) (by omega)
            rw [show 0 + d1 + (i - d1) = i by omega] at this
            exact this
        · refine exc_tr (km_scr (exc_wI xs rfl)) (exc_tr (km_scr (scr_goes s2)) (exc_tr (km_scr (scr_goes t2)) (exc_mono u7 (fun a k q => ?_) (fun _ _ q => by cases q))))
          simp only [W_cl, Bool.or_eq_true, Bool.and_eq_true, beq_iff_eq] at q
          rcases q with rfl | ⟨rfl, ((rfl | rfl) | rfl) | rfl⟩ <;> rfl
