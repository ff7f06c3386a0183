/-! The class's attach gives the verdict. -/
/-- what the class gives -/
def CO (n : Nat) (g : gm_T) (P : Nat → plc) (a b : Nat) (f : plc) (k x y d : Nat) (w : Nat → Int) (o : Option (Int × gm_T)) : Prop := (k = 0 → ∃ P2 g2, o = some (0, g2) ∧ exc nob (fun a _ => a == 23) g g2 ∧ (∀ c, c < 30 → gm_J g2 23 c = pp (P2 c)) ∧ okJ n g P P2 a b f) ∧ (k ≠ 0 → ∃ g2, o = some ((k : Int), g2) ∧ gm_I g2 22 5 = (k : Int) ∧ gm_I g2 22 6 = (x : Int) ∧ gm_I g2 22 7 = (y : Int) ∧ gm_I g2 22 8 = (d : Int) ∧ (∀ i, i < d → gm_I g2 24 i = w i) ∧ exc W_cc nob g g2)
theorem p0_here : pp p0 = 549756338176 := by decide +kernel
theorem jb2_id {o : Option (Int × gm_T)} : (jb2 o fun (v : Int) (g : gm_T) => some (v, g)) = o := by
  cases o <;> rfl
theorem LF_ex {p : Nat → Nat → Prop} {n : Nat} : (∃ i k, LF p n i k) ∨ ∀ i k, i < n → k < n → ¬ p i k := by
  by_cases c : ∃ i, i < n ∧ ∃ k, k < n ∧ p i k
  · left
    obtain ⟨i, h1, h2⟩ := lst_ex c
    obtain ⟨k, h3, h4⟩ := lst_ex h1.2
    exact ⟨i, k, h1.1, h3.1, h3.2, fun k2 hk z => h4 k2 hk ⟨by omega, z⟩, fun i2 k2 hi hk z => h2 i2 hi ⟨by omega, k2, hk, z⟩⟩
  · right
    exact fun i k hi hk z => c ⟨i, hi, k, hk, z⟩
/-- one of two groups is moved to the wall, or off it -/
theorem at_moved {n : Nat} {g : gm_T} {P : Nat → plc} (h : IW n g P) {a b : Nat} {f : plc} {e : Nat} (he : e < n) (hoff : ¬ onW n g e) {M O : Nat} (m2 : isG g e M) (hO : O < 2 ^ 30) {v q : plc} (hv : bpl 300000 v) (hq : bpl (Kb g + 1240) q) (hvq : pon v (P e) = q) {but : Int} (hpair : ∀ i k, i < n → k < n → (hitp g P M O v i k ↔ hitc n g P e but q i k)) (hf : (fun c => @ite _ (c < n ∧ cn g e c) (gd _) (pon v (P c)) (P c)) b = pon ((fun c => @ite _ (c < n ∧ cn g e c) (gd _) (pon v (P c)) (P c)) a) f) : (∃ i k, LF (hitc n g P e but q) n i k ∧ CO n g P a b f 5 i k 0 (fun _ => 0) (cv_attachTo n g (M : Int) (pp v) (O : Int))) ∨ ((¬ ∃ i k, LF (hitc n g P e but q) n i k) ∧ CO n g P a b f 0 0 0 0 (fun _ => 0) (cv_attachTo n g (M : Int) (pp v) (O : Int))) := by
  rcases cv_attachTo_eq h m2.1 hO hv with ⟨i, k, s1, g2, s2, s3, s4, s5, s6, s7⟩ | ⟨s1, g2, s2, s3, s4⟩
  · left
    exact ⟨i, k, LF_cong s1 hpair, fun z => by omega, fun _ => ⟨g2, s2, s3, s4, s5, s6, fun i hi => by omega, cc_22 s7⟩⟩
  · right
    refine ⟨fun ⟨i, k, z⟩ => s1 i k z.1 z.2.1 ((hpair i k z.1 z.2.1).mpr z.2.2.1), fun _ => ⟨_, g2, s2, s3, fun c hc => ?_, okJ_moved h he hoff hv.1 hq hvq hf⟩, fun z => absurd rfl z⟩
    rw [s4 c hc]
    by_cases y : c < n ∧ cn g e c
    · rw [if_pos ⟨y.1, (m2.2 c).mpr y.2⟩, @if_pos _ (gd _) y]
    · rw [if_neg (fun y2 => y ⟨y2.1, (m2.2 c).mp y2.2⟩), @if_neg _ (gd _) y]
theorem cv_attach_eq {n : Nat} {g : gm_T} {P : Nat → plc} (h : IW n g P) {a b : Nat} (ha : a < n) (hb : b < n) {f : plc} (hf : bpl 40 f) : ∃ k x y d w, VR n g P a b f k x y d w ∧ d ≤ 60 ∧ k ≤ 5 ∧ CO n g P a b f k x y d w (cv_attach n g (a : Int) (b : Int) (pp f)) := by
  have h30 := h.1.1.2.2
  have ok := IW_ok h
  have hK : Kb g ≤ 147000 := by
    have := (jm_60 h.2.1).1
    unfold Kb
    omega
  have hK0 : 0 ≤ Kb g := by unfold Kb; omega
  obtain ⟨Ma, ma1, ma2⟩ := h.2.2.1 a ha
  obtain ⟨Mb, mb1, mb2⟩ := h.2.2.1 b hb
  have hPa := h.2.2.2.2.2.1 a
  have hPb := h.2.2.2.2.2.1 b
  have hra := rt_le g a
  have hrb := rt_le g b
  have hMa := Nat.lt_trans ma2.1 (show 2 ^ 30 < 2147483648 by decide)
  have hMb := Nat.lt_trans mb2.1 (show 2 ^ 30 < 2147483648 by decide)
  unfold cv_attach
  rw [jg_pos (by omega), Int.toNat_natCast, ma1, jl_eq, jg_pos (by omega), Int.toNat_natCast, mb1, jl_eq, jg_pos ⟨⟨by omega, by omega⟩, by omega, by omega⟩, h.2.2.2.1 a (by omega), h.2.2.2.1 b (by omega)]
  by_cases c1 : cn g a b
  · have hMM : Ma = Mb := by
      apply Nat.eq_of_testBit_eq
      intro i
      apply dec2
      rw [ma2.2 i, mb2.2 i]
      exact ⟨fun z => gC_tr (gC_sy c1) z, fun z => gC_tr c1 z⟩
    have hrel : bpl (Kb g + Kb g) (rel (P a) (P b)) := bpl_on (bpl_in hPa) hPb
    rw [if_pos (by rw [hMM]), cc_against_eq hPa hPb (by omega) hK0 hK0, jb1_some]
    unfold VR
    simp only [@if_pos _ (gd _) c1]
    by_cases c2 : rel (P a) (P b) = f
    · rw [if_pos (show lC (pp (pon (pin (P a)) (P b))) (pp f) = 0 from lC_0.mpr (by rw [← c2]; rfl))]
      simp only [@if_pos _ (gd _) c2]
      refine ⟨0, 0, 0, 0, fun _ => 0, rfl, by decide, by decide, fun _ => ⟨P, g, rfl, exc_rf, h.2.2.2.1, okJ_same h ?_⟩, fun z => absurd rfl z⟩
      rw [← c2, pon_rel (ok a) (ok b)]
    · rw [if_neg (show ¬ lC (pp (pon (pin (P a)) (P b))) (pp f) = 0 from fun z => c2 ((pp_inj hrel hf (by omega) (by decide)).mp (lC_0.mp z))), jb2_id]
      simp only [@if_neg _ (gd _) c2]
      obtain ⟨d, d1, d2⟩ := cn_far (vm h.2.1) hb (gC_sy c1)
      obtain ⟨g2, r1, r2, r3, r4, r5, r6, r7⟩ := cv_tellB_eq h30 h.2.1 (kind := 1) (one := (a : Int)) (two := (b : Int)) ha hb d2 d1
      exact ⟨1, a, b, d, wayj n g b a, ⟨rfl, rfl, rfl, d2, fun _ _ => rfl⟩, by omega, by decide, fun z => by omega, fun _ => ⟨g2, r1, r2, r3, r4, r5, r6, r7⟩⟩
  · have hMM : ¬ ((Ma : Int) = (Mb : Int)) := fun z => c1 ((ma2.2 b).mp (by
      have hz : Ma = Mb := by omega
      rw [hz]
      exact (mb2.2 b).mpr (gC_rf b)))
    have hv : bpl 300000 (mvv P a b f) := bpl_mono (bpl_on (bpl_on hPb (bpl_in hf)) (bpl_in hPa)) (by omega)
    have hvo := hv.1
    rw [if_neg hMM, cc_inverse_eq hf (by decide), jb1_some, cc_onto_eq hPb (bpl_in hf) (by omega) hK0 (by decide), jb1_some, cc_move_eq hPa (bpl_on hPb (bpl_in hf)) (by omega) hK0 (by omega), jb1_some]
    rw [show pon (pon (P b) (pin f)) (pin (P a)) = mvv P a b f from rfl]
    have hpair : ∀ p q, p < n → q < n → (hitp g P Ma Mb (mvv P a b f) p q ↔ hit2 g P a b f p q) := fun p q _ _ => by
      unfold hitp hit2
      rw [ma2.2 p, mb2.2 q]
    unfold VR
    simp only [@if_neg _ (gd _) c1]
    rcases cv_firstHit_eq h.1 h.2.2.2.1 h.2.2.2.2.2.1 (by omega) hK0 ma2.1 mb2.1 hv with ⟨p, q, s1, s2⟩ | ⟨s1, s2⟩
    · -- 2
      have hL := LF_cong s1 hpair
      have hp := s1.1
      have hq := s1.2.1
      simp only [@if_pos _ (gd _) (show ∃ p q, LF (hit2 g P a b f) n p q from ⟨p, q, hL⟩)]
      obtain ⟨d1, d1n, d1e⟩ := cn_far (vm h.2.1) ha hL.2.2.1.1
      obtain ⟨d2, d2n, d2e⟩ := cn_far (vm h.2.1) hq (gC_sy hL.2.2.1.2.1)
      obtain ⟨g2, r1, r2, r3, r4, r5, r6, r7⟩ := cv_tellA_eq h30 h.2.1 (kind := 2) hp ha hb hq d1e d2e d1n d2n
      rw [s2, jb1_some, jg_pos ⟨by omega, by omega⟩, if_neg (by omega), jg_pos (by omega), jg_pos (by omega), show (30 * (p : Int) + (q : Int)) / 30 = (p : Int) by omega, show (30 * (p : Int) + (q : Int)) % 30 = (q : Int) by omega, jb2_id]
      exact ⟨2, p, q, d1 + d2, two d1 (wayj n g a p) (wayj n g q b), ⟨d1, d2, hL, rfl, d1e, d2e, rfl, fun _ _ => rfl⟩, by omega, by decide, fun z => by omega, fun _ => ⟨g2, r1, r2, r3, r4, r5, r6, r7⟩⟩
    · have hno : ¬ ∃ p q, LF (hit2 g P a b f) n p q := fun ⟨p, q, z⟩ => s1 p q z.1 z.2.1 ((hpair p q z.1 z.2.1).mpr z.2.2.1)
      simp only [@if_neg _ (gd _) hno]
      obtain ⟨S, t1, t2, t3⟩ := cv_standing_eq h
      have hS31 := Nat.lt_trans t2 (show 2 ^ 30 < 2147483648 by decide)
      rw [s2, jb1_some, jg_pos (rgk rfl), if_pos (by decide), cv_stands_eq h ha, cv_stands_eq h hb]
      simp only [jb_gd]
      have hpva : pon (mvv P a b f) (P a) = pon (P b) (pin f) := by
        unfold mvv
        rw [pon_assoc (pon_okt (ok b) (pin_okt hf.1)) (pin_okt (ok a)), pin_on (ok a), pon_0 (pon_okt (ok b) (pin_okt hf.1))]
      by_cases p1 : onW n g a
      · simp only [@if_pos _ (gd _) p1]
        by_cases p2 : onW n g b
        · -- both stand
          simp only [@if_pos _ (gd _) p2]
          have hz : mvv P a b f = p0 ↔ P b = pon (P a) f := by
            constructor
            · intro z
              have h1 : pon (mvv P a b f) (pon (P a) f) = P b := by
                rw [← pon_assoc hvo (ok a), hpva, pon_assoc (ok b) (pin_okt hf.1), pin_on hf.1, pon_0 (ok b)]
              rw [z, p0_on (pon_okt (ok a) hf.1)] at h1
              exact h1.symm
            · intro z
              unfold mvv
              rw [z, pon_assoc (ok a) hf.1, pon_in hf.1, pon_0 (ok a), pon_in (ok a)]
          by_cases c5 : P b = pon (P a) f
          · rw [if_pos (show lC (pp (mvv P a b f)) 549756338176 = 0 from lC_0.mpr (by rw [hz.mpr c5]; exact p0_here))]
            simp only [@if_pos _ (gd _) c5]
            exact ⟨0, 0, 0, 0, fun _ => 0, rfl, by decide, by decide, fun _ => ⟨P, g, rfl, exc_rf, h.2.2.2.1, okJ_same h c5⟩, fun z => absurd rfl z⟩
          · have hb0 : bpl 0 p0 := ⟨⟨by decide, by decide⟩, ⟨by decide, by decide⟩, by decide, by decide⟩
            rw [if_neg (show ¬ lC (pp (mvv P a b f)) 549756338176 = 0 from fun z => c5 (hz.mp ((pp_inj hv hb0 (by decide) (by decide)).mp (by rw [lC_0.mp z, p0_here]))))]
            simp only [@if_neg _ (gd _) c5]
            rcases hl_sp (n := n) g a with ⟨-, y2⟩ | ⟨c, x1, x2, x3, -, -⟩
            · exact absurd p1 y2
            · rcases hl_sp (n := n) g b with ⟨-, y2⟩ | ⟨e, z1, z2, z3, -, -⟩
              · exact absurd p2 y2
              · obtain ⟨d1, d1n, d1e⟩ := cn_far (vm h.2.1) ha x3
                obtain ⟨d2, d2n, d2e⟩ := cn_far (vm h.2.1) z1 (gC_sy z3)
                obtain ⟨g2, r1, r2, r3, r4, r5, r6, r7⟩ := cv_tellA_eq h30 h.2.1 (kind := 3) x1 ha hb z1 d1e d2e d1n d2n
                rw [cv_anchor_eq h ha ma2 p1, x2, jb1_some, cv_anchor_eq h hb mb2 p2, z2, jb1_some, jb2_id]
                exact ⟨3, c, e, d1 + d2, two d1 (wayj n g a c) (wayj n g e b), ⟨d1, d2, rfl, rfl, rfl, d1e, d2e, rfl, fun _ _ => rfl⟩, by omega, by decide, fun z => by omega, fun _ => ⟨g2, r1, r2, r3, r4, r5, r6, r7⟩⟩
        · -- a's stands: b's is moved
          simp only [@if_neg _ (gd _) p2]
          have hpin : pin (mvv P a b f) = pon (pon (P a) f) (pin (P b)) := pin_mvv (ok a) (ok b) hf.1
          have hvq : pon (pin (mvv P a b f)) (P b) = pon (P a) f := by
            rw [hpin, pon_assoc (pon_okt (ok a) hf.1) (pin_okt (ok b)), pin_on (ok b), pon_0 (pon_okt (ok a) hf.1)]
          rw [cc_inverse_eq hv (by decide), jb1_some, t1, jb1_some, zA_not hS31, jb2_id]
          have hm := at_moved h (a := a) (b := b) (f := f) hb p2 mb2 (Nat.lt_of_le_of_lt (ndf_le S Ma) t2) (bpl_in hv) (bpl_mono (bpl_on hPa hf) (by omega)) hvq (but := (rt g a : Int)) (fun i k hi hk => by
            unfold hitp hitc
            rw [mb2.2 i, ndf_bit, Bool.and_eq_true, t3 k, Bool.not_eq_true', ← Bool.not_eq_true, ma2.2 k]
            have hmv : pon (pin (mvv P a b f)) (P i) = pon (pon (P a) f) (rel (P b) (P i)) := by
              rw [hpin, pon_assoc (pon_okt (ok a) hf.1) (pin_okt (ok b))]
              rfl
            rw [hmv]
            have hrk : (rt g k : Int) ≠ (rt g a : Int) ↔ ¬ cn g a k := ⟨fun z y => z (by rw [rt_cn y]), fun z y => z (rt_iff.mp (by omega))⟩
            rw [hrk]
            constructor
            · rintro ⟨y1, ⟨⟨-, y2⟩, y3⟩, y4⟩
              refine ⟨y1, fun y => ?_, y3, y2, y4⟩
              obtain ⟨x, x1, x2, x3⟩ := y2
              exact p2 ⟨x, x1, gC_tr y x2, x3⟩
            · rintro ⟨y1, -, y3, y2, y4⟩
              exact ⟨y1, ⟨⟨hk, y2⟩, y3⟩, y4⟩) (by
            dsimp only
            rw [@if_pos _ (gd _) (show b < n ∧ cn g b b from ⟨hb, gC_rf b⟩), @if_neg _ (gd _) (show ¬ (a < n ∧ cn g b a) from fun z => c1 (gC_sy z.2)), hvq])
          rcases hm with ⟨i, k, y1, y2⟩ | ⟨y1, y2⟩
          · simp only [@if_pos _ (gd _) (show ∃ p q, LF (hitc n g P b (rt g a : Int) (pon (P a) f)) n p q from ⟨i, k, y1⟩)]
            exact ⟨5, i, k, 0, fun _ => 0, ⟨y1, rfl, rfl⟩, by decide, by decide, y2⟩
          · simp only [@if_neg _ (gd _) y1]
            exact ⟨0, 0, 0, 0, fun _ => 0, rfl, by decide, by decide, y2⟩
      · -- a's is moved
        simp only [@if_neg _ (gd _) p1]
        have hmv : ∀ i, pon (mvv P a b f) (P i) = pon (pon (P b) (pin f)) (rel (P a) (P i)) := fun i => by
          unfold mvv
          rw [pon_assoc (pon_okt (ok b) (pin_okt hf.1)) (pin_okt (ok a))]
          rfl
        have hfin : (fun c => @ite _ (c < n ∧ cn g a c) (gd _) (pon (mvv P a b f) (P c)) (P c)) b = pon ((fun c => @ite _ (c < n ∧ cn g a c) (gd _) (pon (mvv P a b f) (P c)) (P c)) a) f := by
          dsimp only
          rw [@if_neg _ (gd _) (show ¬ (b < n ∧ cn g a b) from fun z => c1 z.2), @if_pos _ (gd _) (show a < n ∧ cn g a a from ⟨ha, gC_rf a⟩), hpva, pon_assoc (ok b) (pin_okt hf.1), pin_on hf.1, pon_0 (ok b)]
        have hqb : bpl (Kb g + 1240) (pon (P b) (pin f)) := bpl_mono (bpl_on hPb (bpl_in hf)) (by omega)
        by_cases p2 : onW n g b
        · simp only [@if_pos _ (gd _) p2]
          rw [t1, jb1_some, jg_pos (rgk rfl), if_neg n10, jb1_some, zA_not hS31, jb1_some, jb2_id]
          have hm := at_moved h (a := a) (b := b) (f := f) ha p1 ma2 (Nat.lt_of_le_of_lt (ndf_le S Mb) t2) hv hqb hpva (but := (rt g b : Int)) (fun i k hi hk => by
            unfold hitp hitc
            rw [ma2.2 i, ndf_bit, Bool.and_eq_true, t3 k, Bool.not_eq_true', ← Bool.not_eq_true, mb2.2 k, hmv i]
            have hrk : (rt g k : Int) ≠ (rt g b : Int) ↔ ¬ cn g b k := ⟨fun z y => z (by rw [rt_cn y]), fun z y => z (rt_iff.mp (by omega))⟩
            rw [hrk]
            constructor
            · rintro ⟨y1, ⟨⟨-, y2⟩, y3⟩, y4⟩
              refine ⟨y1, fun y => ?_, y3, y2, y4⟩
              obtain ⟨x, x1, x2, x3⟩ := y2
              exact p1 ⟨x, x1, gC_tr y x2, x3⟩
            · rintro ⟨y1, -, y3, y2, y4⟩
              exact ⟨y1, ⟨⟨hk, y2⟩, y3⟩, y4⟩) hfin
          rcases hm with ⟨i, k, y1, y2⟩ | ⟨y1, y2⟩
          · simp only [@if_pos _ (gd _) (show ∃ p q, LF (hitc n g P a (rt g b : Int) (pon (P b) (pin f))) n p q from ⟨i, k, y1⟩)]
            exact ⟨5, i, k, 0, fun _ => 0, ⟨y1, rfl, rfl⟩, by decide, by decide, y2⟩
          · simp only [@if_neg _ (gd _) y1]
            exact ⟨0, 0, 0, 0, fun _ => 0, rfl, by decide, by decide, y2⟩
        · simp only [@if_neg _ (gd _) p2]
          rw [jb1_some, jg_pos (rgk rfl), if_pos rfl, jb1_some, jb2_id]
          have hm := cv_attachTo_eq h ma2.1 (show 0 < 2 ^ 30 by decide) hv
          rcases hm with ⟨i, k, y1, -⟩ | ⟨-, g2, y2, y3, y4⟩
          · have := y1.2.2.1.2.1
            rw [Nat.zero_testBit] at this
            cases this
          · refine ⟨0, 0, 0, 0, fun _ => 0, rfl, by decide, by decide, fun _ => ⟨_, g2, y2, y3, fun c hc => ?_, okJ_moved h ha p1 hvo hqb hpva hfin⟩, fun z => absurd rfl z⟩
            rw [y4 c hc]
            by_cases y : c < n ∧ cn g a c
            · rw [if_pos ⟨y.1, (ma2.2 c).mpr y.2⟩, @if_pos _ (gd _) y]
            · rw [if_neg (fun y2 => y ⟨y2.1, (ma2.2 c).mp y2.2⟩), @if_neg _ (gd _) y]
