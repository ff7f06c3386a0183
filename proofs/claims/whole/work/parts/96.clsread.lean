/-! Questions: the class's whole reading. -/
theorem lpq_wrong {c : Int} {op : Bool → Bool → Bool} {t : Nat → Int} {rec : Nat → qres} {r : qres} (h : r.2.2 = true) : ∀ m, lpq c op t rec m r = r
  | 0 => rfl
  | m + 1 => by
    unfold lpq
    rw [if_neg (fun z => by
      rw [h] at z
      cases z.1)]
theorem prs_out {t : Nat → Int} {L : Nat} (hE : endT t L) {ev : Int → Int → Int → Int → Bool} : ∀ (f k p : Nat), L ≤ p → (prs t ev f k p).2 = (p, true)
  | 0, _, _, _ => rfl
  | f + 1, 0, p, hp => by
    have h1 := prs_out hE (ev := ev) f 1 p hp
    show (lpq 124 or t (prs t ev f 1) fz (prs t ev f 1 p)).2 = _
    rw [lpq_wrong (by rw [h1])]
    exact h1
  | f + 1, 1, p, hp => by
    have h1 := prs_out hE (ev := ev) f 2 p hp
    show (lpq 38 and t (prs t ev f 2) fz (prs t ev f 2 p)).2 = _
    rw [lpq_wrong (by rw [h1])]
    exact h1
  | f + 1, k + 2, p, hp => by
    have e := hE p hp
    show (if t p = 33 then (fun a => !(prs t ev f 2 (p + 1)).1 a, (prs t ev f 2 (p + 1)).2) else if t p = 40 then qpar t (prs t ev f 0 (p + 1)) else qtst t ev p).2 = _
    rw [if_neg (by omega), if_neg (by omega)]
    unfold qtst
    rw [@if_neg _ (gd _) (fun z => by
      unfold isLt at z
      omega)]
theorem prs_t38 {t : Nat → Int} {L : Nat} (hE : endT t L) (hL : L ≤ 240) {ev : Int → Int → Int → Int → Bool} (f p : Nat) : (prs t ev f 1 p).2.2 = false → t (prs t ev f 1 p).2.1 ≠ 38 := by
  cases f with
  | zero => intro z; cases z
  | succ f =>
    by_cases hp : L ≤ p
    · intro z
      rw [prs_out hE (f + 1) 1 p hp] at z
      cases z
    · have ho := prs_ok hE (ev := ev) f 2 p (by omega)
      exact lpq_end hE (by decide) (fun q hq => prs_ok hE f 2 q hq) fz _ ho.1.2 (Nat.lt_of_le_of_lt (show L - (prs t ev f 2 p).2.1 ≤ 300 by omega) (fz_gt rfl))
theorem prs_q {t : Nat → Int} {L : Nat} (hE : endT t L) (hL : L ≤ 240) {ev : Int → Int → Int → Int → Bool} (f p : Nat) (hp : p ≤ L) : (prs t ev f 0 p).2.2 = false → t (prs t ev f 0 p).2.1 ≠ 124 ∧ t (prs t ev f 0 p).2.1 ≠ 38 := by
  cases f with
  | zero => intro z; cases z
  | succ f =>
    intro z
    have ho := prs_ok hE (ev := ev) f 1 p hp
    exact ⟨lpq_end hE (by decide) (fun q hq => prs_ok hE f 1 q hq) fz _ ho.1.2 (Nat.lt_of_le_of_lt (show L - (prs t ev f 1 p).2.1 ≤ 300 by omega) (fz_gt rfl)) z, lpq_keep (fun q => prs_t38 hE hL f q) fz _ (prs_t38 hE hL f p) z⟩
/-- the loop goes on behind a factor, at q -/
def lgo (n L : Nat) (t : Nat → Int) (g0 : gm_T) (o : Option ((Int × gm_T) ⊕ (Int × gm_T))) (q d : Nat) (T F : Nat → Nat → Bool) (N : Nat → Bool) : Prop := ∃ (fuel rd : Nat) (g : gm_T), o = cq_readTape_l39 n fuel 0 (q : Int) (rd : Int) g ∧ (rd ≤ q ∧ L - q < fuel) ∧ exc W_cq nob g0 g ∧ isQ g n L t d T F N
/-- the loop ends with a fault at q -/
def lno (L : Nat) (g0 : gm_T) (o : Option ((Int × gm_T) ⊕ (Int × gm_T))) (q : Nat) : Prop := ∃ g, exc W_cq nob g0 g ∧ (o = some (.inr ((q : Int), g)) ∨ (q = L ∧ ∃ w, (w = 1 ∨ (w = 0 ∧ 0 < gm_I g 40 6 ∧ gm_I g 40 6 ≤ 1000)) ∧ o = some (.inl (w, g))))
def sam (d : Nat) (T F : Nat → Nat → Bool) (N : Nat → Bool) (T' F' : Nat → Nat → Bool) (N' : Nat → Bool) : Prop := ∀ i, i < d → T' i = T i ∧ F' i = F i ∧ N' i = N i
theorem sam_rf {d : Nat} {T F : Nat → Nat → Bool} {N : Nat → Bool} : sam d T F N T F N := fun _ _ => ⟨rfl, rfl, rfl⟩
theorem sam_tr {d : Nat} {T F T' F' T2 F2 : Nat → Nat → Bool} {N N' N2 : Nat → Bool} (h1 : sam d T F N T' F' N') (h2 : sam d T' F' N' T2 F2 N2) : sam d T F N T2 F2 N2 := fun i hi => ⟨(h2 i hi).1.trans (h1 i hi).1, (h2 i hi).2.1.trans (h1 i hi).2.1, (h2 i hi).2.2.trans (h1 i hi).2.2⟩
/-- what the class does where the reading of a factor or a term gives r -/
def clF (n L : Nat) (t : Nat → Int) (g0 : gm_T) (p : Nat) (r : qres) (term : Bool) : Prop := ∀ (d : Nat) (T F : Nat → Nat → Bool) (N : Nat → Bool) (fuel rd : Nat) (g : gm_T), isQ g n L t d T F N → exc W_cq nob g0 g → rd ≤ p → d ≤ p → L - p < fuel → (term = true → N d = false) → (r.2.2 = false → ∃ T' F' N', lgo n L t g0 (cq_readTape_l39 n fuel 1 (p : Int) (rd : Int) g) r.2.1 d T' F' N' ∧ sam d T F N T' F' N' ∧ N' d = false ∧ T' d = T d ∧ ∀ b : Nat, F' d b = (F d b && xor (N d) (r.1 (b : Int)))) ∧ (r.2.2 = true → lno L g0 (cq_readTape_l39 n fuel 1 (p : Int) (rd : Int) g) r.2.1)
def clQ (n L : Nat) (t : Nat → Int) (g0 : gm_T) (p : Nat) (r : qres) : Prop := ∀ (d : Nat) (T F : Nat → Nat → Bool) (N : Nat → Bool) (fuel rd : Nat) (g : gm_T), isQ g n L t d T F N → exc W_cq nob g0 g → rd ≤ p → d ≤ p → L - p < fuel → N d = false → (∀ b, F d b = true) → (r.2.2 = false → ∃ T' F' N', lgo n L t g0 (cq_readTape_l39 n fuel 1 (p : Int) (rd : Int) g) r.2.1 d T' F' N' ∧ sam d T F N T' F' N' ∧ N' d = false ∧ ∀ b : Nat, (T' d b || F' d b) = (T d b || r.1 (b : Int))) ∧ (r.2.2 = true → lno L g0 (cq_readTape_l39 n fuel 1 (p : Int) (rd : Int) g) r.2.1)
theorem cterm_lp {n L : Nat} {t : Nat → Int} (hE : endT t L) (hL : L ≤ 240) {g0 : gm_T} {rec : Nat → qres} (hok : ∀ p, p ≤ L → qok L p (rec p)) {p0 : Nat} (hrec : ∀ p, p0 ≤ p → p ≤ L → clF n L t g0 p (rec p) false) : ∀ (m : Nat) (r : qres) (d : Nat) (T F : Nat → Nat → Bool) (N : Nat → Bool) (fuel rd : Nat) (g : gm_T) (F0 : Nat → Bool), r.2.2 = false → (p0 ≤ r.2.1 ∧ r.2.1 ≤ L) → L - r.2.1 < m → isQ g n L t d T F N → exc W_cq nob g0 g → rd ≤ r.2.1 → d ≤ r.2.1 → L - r.2.1 < fuel → N d = false → (∀ b : Nat, F d b = (F0 b && r.1 (b : Int))) → ((lpq 38 and t rec m r).2.2 = false → ∃ T' F' N', lgo n L t g0 (cq_readTape_l39 n fuel 0 (r.2.1 : Int) (rd : Int) g) (lpq 38 and t rec m r).2.1 d T' F' N' ∧ sam d T F N T' F' N' ∧ N' d = false ∧ T' d = T d ∧ ∀ b : Nat, F' d b = (F0 b && (lpq 38 and t rec m r).1 (b : Int))) ∧ ((lpq 38 and t rec m r).2.2 = true → lno L g0 (cq_readTape_l39 n fuel 0 (r.2.1 : Int) (rd : Int) g) (lpq 38 and t rec m r).2.1)
  | 0, r, d, T, F, N, fuel, rd, g, F0, _, _, h, _, _, _, _, _, _, _ => by omega
  | m + 1, r, d, T, F, N, fuel, rd, g, F0, hw, hp, hm, hq, hx, hr, hd, hf, hN, hF => by
    obtain ⟨fu2, rfl⟩ : ∃ f, fuel = f + 1 := ⟨fuel - 1, by omega⟩
    unfold lpq
    by_cases c : t r.2.1 = 38
    · have l1 := qlt_L hE (p := r.2.1) (by omega)
      have hs := cq_behd (n := n) hq.1 (p := r.2.1) (rd := rd) (fuel := fu2) l1 hr (q := (r.2.1 : Int) + 1) ⟨by omega, by omega⟩ (cq_and c)
      rw [if_neg (by omega), if_neg (by omega)] at hs
      have ho := hok (r.2.1 + 1) (by omega)
      have hc := hrec (r.2.1 + 1) (by omega) (by omega) d T F N fu2 (rd + 1) g hq hx (by omega) (by omega) (by omega) (fun z => by cases z)
      rw [if_pos ⟨hw, c⟩, hs]
      cases hw2 : (rec (r.2.1 + 1)).2.2 with
      | true =>
        rw [lpq_wrong (r := (fun a => and (r.1 a) ((rec (r.2.1 + 1)).1 a), (rec (r.2.1 + 1)).2)) hw2]
        refine ⟨fun z => ?_, fun _ => hc.2 hw2⟩
        dsimp only at z
        rw [hw2] at z
        cases z
      | false =>
        obtain ⟨T1, F1, N1, ⟨fu3, rd3, g3, e1, ⟨e2, e3⟩, e4, e5⟩, s1, s2, s3, s4⟩ := hc.1 hw2
        have next := cterm_lp hE hL hok hrec m (fun a => and (r.1 a) ((rec (r.2.1 + 1)).1 a), (rec (r.2.1 + 1)).2) d T1 F1 N1 fu3 rd3 g3 F0 hw2 ⟨by have := ho.1.1; dsimp only; omega, ho.1.2⟩ (by have := ho.1.1; dsimp only; omega) e5 e4 e2 (by have := ho.1.1; dsimp only; omega) e3 s2 (fun b => by
          rw [s4 b, hF b, hN]
          dsimp only
          cases F0 b <;> cases r.1 (b : Int) <;> cases (rec (r.2.1 + 1)).1 (b : Int) <;> rfl)
        dsimp only at next
        rw [show cq_readTape_l39 n fu2 1 ((r.2.1 : Int) + 1) ((rd : Int) + 1) g = _ from e1]
        refine ⟨fun z => ?_, next.2⟩
        obtain ⟨T2, F2, N2, k1, k2, k3, k4, k5⟩ := next.1 z
        exact ⟨T2, F2, N2, k1, sam_tr s1 k2, k3, k4.trans s3, k5⟩
    · rw [if_neg (fun z => c z.2)]
      refine ⟨fun _ => ⟨T, F, N, ⟨fu2 + 1, rd, g, rfl, ⟨hr, hf⟩, hx, hq⟩, sam_rf, hN, rfl, hF⟩, fun z => ?_⟩
      rw [hw] at z
      cases z
theorem cquest_lp {n L : Nat} {t : Nat → Int} (hE : endT t L) (hL : L ≤ 240) (h30 : n ≤ 30) {g0 : gm_T} {rec : Nat → qres} (hok : ∀ p, p ≤ L → qok L p (rec p)) {p0 : Nat} (hrec : ∀ p, p0 ≤ p → p ≤ L → clF n L t g0 p (rec p) true) : ∀ (m : Nat) (r : qres) (d : Nat) (T F : Nat → Nat → Bool) (N : Nat → Bool) (fuel rd : Nat) (g : gm_T) (T0 : Nat → Bool), r.2.2 = false → (p0 ≤ r.2.1 ∧ r.2.1 ≤ L) → L - r.2.1 < m → isQ g n L t d T F N → exc W_cq nob g0 g → rd ≤ r.2.1 → d ≤ r.2.1 → L - r.2.1 < fuel → N d = false → (∀ b : Nat, (T d b || F d b) = (T0 b || r.1 (b : Int))) → ((lpq 124 or t rec m r).2.2 = false → ∃ T' F' N', lgo n L t g0 (cq_readTape_l39 n fuel 0 (r.2.1 : Int) (rd : Int) g) (lpq 124 or t rec m r).2.1 d T' F' N' ∧ sam d T F N T' F' N' ∧ N' d = false ∧ ∀ b : Nat, (T' d b || F' d b) = (T0 b || (lpq 124 or t rec m r).1 (b : Int))) ∧ ((lpq 124 or t rec m r).2.2 = true → lno L g0 (cq_readTape_l39 n fuel 0 (r.2.1 : Int) (rd : Int) g) (lpq 124 or t rec m r).2.1)
  | 0, r, d, T, F, N, fuel, rd, g, T0, _, _, h, _, _, _, _, _, _, _ => by omega
  | m + 1, r, d, T, F, N, fuel, rd, g, T0, hw, hp, hm, hq, hx, hr, hd, hf, hN, hF => by
    obtain ⟨fu2, rfl⟩ : ∃ f, fuel = f + 1 := ⟨fuel - 1, by omega⟩
    unfold lpq
    by_cases c : t r.2.1 = 124
    · have l1 := qlt_L hE (p := r.2.1) (by omega)
      obtain ⟨g1, o1, o2, o3⟩ := cq_or h30 hq (by omega) c
      have hs := cq_behd (n := n) hq.1 (p := r.2.1) (rd := rd) (fuel := fu2) l1 hr (q := (r.2.1 : Int) + 1) ⟨by omega, by omega⟩ o1
      rw [if_neg (by omega), if_neg (by omega)] at hs
      have ho := hok (r.2.1 + 1) (by omega)
      have hc := hrec (r.2.1 + 1) (by omega) (by omega) d _ _ N fu2 (rd + 1) g1 o3 (exc_tr hx o2) (by omega) (by omega) (by omega) (fun _ => hN)
      rw [if_pos ⟨hw, c⟩, hs]
      cases hw2 : (rec (r.2.1 + 1)).2.2 with
      | true =>
        rw [lpq_wrong (r := (fun a => or (r.1 a) ((rec (r.2.1 + 1)).1 a), (rec (r.2.1 + 1)).2)) hw2]
        refine ⟨fun z => ?_, fun _ => hc.2 hw2⟩
        dsimp only at z
        rw [hw2] at z
        cases z
      | false =>
        obtain ⟨T1, F1, N1, ⟨fu3, rd3, g3, e1, ⟨e2, e3⟩, e4, e5⟩, s1, s2, s3, s4⟩ := hc.1 hw2
        have next := cquest_lp hE hL h30 hok hrec m (fun a => or (r.1 a) ((rec (r.2.1 + 1)).1 a), (rec (r.2.1 + 1)).2) d T1 F1 N1 fu3 rd3 g3 T0 hw2 ⟨by have := ho.1.1; dsimp only; omega, ho.1.2⟩ (by have := ho.1.1; dsimp only; omega) e5 e4 e2 (by have := ho.1.1; dsimp only; omega) e3 s2 (fun b => by
          have h2 := hF b
          rw [s4 b, s3, fu_eq, fu_eq, hN]
          dsimp only
          rw [h2]
          cases T0 b <;> cases r.1 (b : Int) <;> cases (rec (r.2.1 + 1)).1 (b : Int) <;> rfl)
        dsimp only at next
        rw [show cq_readTape_l39 n fu2 1 ((r.2.1 : Int) + 1) ((rd : Int) + 1) g1 = _ from e1]
        refine ⟨fun z => ?_, next.2⟩
        obtain ⟨T2, F2, N2, k1, k2, k3, k4⟩ := next.1 z
        refine ⟨T2, F2, N2, k1, sam_tr (sam_tr (fun i hi => ?_) s1) k2, k3, k4⟩
        rw [fu_ne (by omega), fu_ne (by omega)]
        exact ⟨rfl, rfl, rfl⟩
    · rw [if_neg (fun z => c z.2)]
      refine ⟨fun _ => ⟨T, F, N, ⟨fu2 + 1, rd, g, rfl, ⟨hr, hf⟩, hx, hq⟩, sam_rf, hN, hF⟩, fun z => ?_⟩
      rw [hw] at z
      cases z
theorem cls_read {n L : Nat} {t : Nat → Int} (hE : endT t L) (hL : L ≤ 240) (h30 : n ≤ 30) {g0 : gm_T} (hn : gm_I g0 10 1 = (n : Int)) {lv : Int → Int → Int} (hcv : ∀ p, isLt (t p) → ∀ g, exc W_cq nob g0 g → ∀ b : Nat, b < n → cq_valueOf n g (t p) (b : Int) = some (lv (b : Int) (t p)) ∧ rg (lv (b : Int) (t p))) : ∀ (f p : Nat), p ≤ L → (3 * (L - p) + 3 ≤ f → clQ n L t g0 p (prs t (evl lv) f 0 p)) ∧ (3 * (L - p) + 2 ≤ f → clF n L t g0 p (prs t (evl lv) f 1 p) true) ∧ (3 * (L - p) + 1 ≤ f → clF n L t g0 p (prs t (evl lv) f 2 p) false) := by
  have fzL : ∀ q, L - q < fz := fun q => Nat.lt_of_le_of_lt (show L - q ≤ 300 by omega) (fz_gt rfl)
  intro f
  induction f with
  | zero =>
    intro p hp
    exact ⟨fun z => by omega, fun z => by omega, fun z => by omega⟩
  | succ f ih =>
    intro p hp
    refine ⟨fun hf => ?_, fun hf => ?_, fun hf => ?_⟩
    · intro d T F N fuel rd g hq hx hr hd hfu hN hF
      have ho := prs_ok hE (ev := evl lv) f 1 p hp
      have h1 := (ih p hp).2.1 (by omega) d T F N fuel rd g hq hx hr hd hfu (fun _ => hN)
      show ((lpq 124 or t (prs t (evl lv) f 1) fz (prs t (evl lv) f 1 p)).2.2 = false → _) ∧ ((lpq 124 or t (prs t (evl lv) f 1) fz (prs t (evl lv) f 1 p)).2.2 = true → lno L g0 (cq_readTape_l39 n fuel 1 (p : Int) (rd : Int) g) (lpq 124 or t (prs t (evl lv) f 1) fz (prs t (evl lv) f 1 p)).2.1)
      cases hw : (prs t (evl lv) f 1 p).2.2 with
      | true =>
        rw [lpq_wrong hw]
        refine ⟨fun z => ?_, fun _ => h1.2 hw⟩
        rw [hw] at z
        cases z
      | false =>
        obtain ⟨T1, F1, N1, ⟨fu3, rd3, g3, e1, ⟨e2, e3⟩, e4, e5⟩, s1, s2, s3, s4⟩ := h1.1 hw
        have next := cquest_lp hE hL h30 (fun q hq => prs_ok hE (ev := evl lv) f 1 q hq) (p0 := p) (fun q h1 h2 => (ih q h2).2.1 (by omega)) fz (prs t (evl lv) f 1 p) d T1 F1 N1 fu3 rd3 g3 (T d) hw ho.1 (fzL _) e5 e4 e2 (by have := ho.1.1; omega) e3 s2 (fun b => by
          rw [s4 b, s3, hF b, hN]
          cases T d b <;> cases (prs t (evl lv) f 1 p).1 (b : Int) <;> rfl)
        rw [e1]
        refine ⟨fun z => ?_, next.2⟩
        obtain ⟨T2, F2, N2, k1, k2, k3, k4⟩ := next.1 z
        exact ⟨T2, F2, N2, k1, sam_tr s1 k2, k3, k4⟩
    · intro d T F N fuel rd g hq hx hr hd hfu hN
      have hN2 := hN rfl
      have ho := prs_ok hE (ev := evl lv) f 2 p hp
      have h1 := (ih p hp).2.2 (by omega) d T F N fuel rd g hq hx hr hd hfu (fun z => by cases z)
      show ((lpq 38 and t (prs t (evl lv) f 2) fz (prs t (evl lv) f 2 p)).2.2 = false → _) ∧ ((lpq 38 and t (prs t (evl lv) f 2) fz (prs t (evl lv) f 2 p)).2.2 = true → lno L g0 (cq_readTape_l39 n fuel 1 (p : Int) (rd : Int) g) (lpq 38 and t (prs t (evl lv) f 2) fz (prs t (evl lv) f 2 p)).2.1)
      cases hw : (prs t (evl lv) f 2 p).2.2 with
      | true =>
        rw [lpq_wrong hw]
        refine ⟨fun z => ?_, fun _ => h1.2 hw⟩
        rw [hw] at z
        cases z
      | false =>
        obtain ⟨T1, F1, N1, ⟨fu3, rd3, g3, e1, ⟨e2, e3⟩, e4, e5⟩, s1, s2, s3, s4⟩ := h1.1 hw
        have next := cterm_lp hE hL (fun q hq => prs_ok hE (ev := evl lv) f 2 q hq) (p0 := p) (fun q h1 h2 => (ih q h2).2.2 (by omega)) fz (prs t (evl lv) f 2 p) d T1 F1 N1 fu3 rd3 g3 (F d) hw ho.1 (fzL _) e5 e4 e2 (by have := ho.1.1; omega) e3 s2 (fun b => by
          rw [s4 b, hN2]
          cases F d b <;> cases (prs t (evl lv) f 2 p).1 (b : Int) <;> rfl)
        rw [e1]
        refine ⟨fun z => ?_, next.2⟩
        obtain ⟨T2, F2, N2, k1, k2, k3, k4, k5⟩ := next.1 z
        refine ⟨T2, F2, N2, k1, sam_tr s1 k2, k3, k4.trans s3, fun b => ?_⟩
        rw [k5 b, hN2, Bool.false_xor]
        rfl
    · intro d T F N fuel rd g hq hx hr hd hfu _
      obtain ⟨fu2, rfl⟩ : ∃ f, fuel = f + 1 := ⟨fuel - 1, by omega⟩
      have hpr : prs t (evl lv) (f + 1) 2 p = if t p = 33 then (fun a => !(prs t (evl lv) f 2 (p + 1)).1 a, (prs t (evl lv) f 2 (p + 1)).2) else if t p = 40 then qpar t (prs t (evl lv) f 0 (p + 1)) else qtst t (evl lv) p := rfl
      by_cases hpL : p = L
      · have h2 := prs_out hE (ev := evl lv) (f + 1) 2 p (by omega)
        refine ⟨fun z => ?_, fun _ => ?_⟩
        · rw [h2] at z
          cases z
        · rw [h2, hpL]
          exact ⟨g, hx, Or.inr ⟨rfl, 1, Or.inl rfl, cq_end hq.1 (by omega)⟩⟩
      have hpl : p < L := by omega
      rw [hpr]
      by_cases c1 : t p = 33
      · obtain ⟨g1, o1, o2, o3⟩ := cq_bang hq (by omega) c1
        have hs := cq_want (n := n) hq.1 (p := p) (rd := rd) (fuel := fu2) hpl hr (q := (p : Int) + 1) ⟨by omega, by omega⟩ o1
        rw [if_neg (by omega), if_pos c1] at hs
        have hc := (ih (p + 1) (by omega)).2.2 (by omega) d T F (fu N d (!N d)) fu2 (rd + 1) g1 o3 (exc_tr hx o2) (by omega) (by omega) (by omega) (fun z => by cases z)
        rw [if_pos c1, hs]
        refine ⟨fun z => ?_, hc.2⟩
        obtain ⟨T1, F1, N1, e1, s1, s2, s3, s4⟩ := hc.1 z
        refine ⟨T1, F1, N1, e1, sam_tr (fun i hi => ?_) s1, s2, s3, fun b => ?_⟩
        · rw [fu_ne (by omega)]
          exact ⟨rfl, rfl, rfl⟩
        · rw [s4 b, fu_eq]
          dsimp only
          cases F d b <;> cases N d <;> cases (prs t (evl lv) f 2 (p + 1)).1 (b : Int) <;> rfl
      · rw [if_neg c1]
        by_cases c2 : t p = 40
        · obtain ⟨g1, o1, o2, o3⟩ := cq_paren hq (by omega) c2
          have hs := cq_want (n := n) hq.1 (p := p) (rd := rd) (fuel := fu2) hpl hr (q := (p : Int) + 1) ⟨by omega, by omega⟩ o1
          rw [if_neg (by omega), if_neg c1, if_pos c2] at hs
          have hc := (ih (p + 1) (by omega)).1 (by omega) (d + 1) _ _ _ fu2 (rd + 1) g1 o3 (exc_tr hx o2) (by omega) (by omega) (by omega) fu_eq (fun b => by rw [fu_eq])
          have ho := prs_ok hE (ev := evl lv) f 0 (p + 1) (by omega)
          have hend := prs_q hE hL (ev := evl lv) f (p + 1) (by omega)
          rw [if_pos c2, hs]
          obtain ⟨r, hr2⟩ : ∃ r, r = prs t (evl lv) f 0 (p + 1) := ⟨_, rfl⟩
          rw [← hr2] at hc ho hend ⊢
          unfold qpar
          cases hw : r.2.2 with
          | true =>
            rw [if_pos rfl]
            refine ⟨fun z => ?_, fun _ => hc.2 hw⟩
            rw [hw] at z
            cases z
          | false =>
            obtain ⟨T1, F1, N1, ⟨fu3, rd3, g3, e1, ⟨e2, e3⟩, e4, e5⟩, s1, s2, s3⟩ := hc.1 hw
            have hop := ho.1
            obtain ⟨fu4, rfl⟩ : ∃ f, fu3 = f + 1 := ⟨fu3 - 1, by omega⟩
            rw [if_neg (by decide), show cq_readTape_l39 n fu2 1 ((p : Int) + 1) ((rd : Int) + 1) g1 = _ from e1]
            have l240 : d + 1 < 241 := by omega
            by_cases c3 : t r.2.1 = 41
            · have l1 := qlt_L hE (p := r.2.1) (by omega)
              obtain ⟨g5, v1, v2, v3⟩ := cq_shut h30 e5 l240 c3
              have hs2 := cq_behd (n := n) e5.1 (p := r.2.1) (rd := rd3) (fuel := fu4) l1 e2 (q := (r.2.1 : Int) + 1) ⟨by omega, by omega⟩ v1
              rw [if_neg (by omega), if_pos c3] at hs2
              obtain ⟨u1, u2, u3⟩ := s1 d (by omega)
              rw [fu_ne (by omega)] at u1 u2 u3
              rw [if_pos c3, hs2]
              refine ⟨fun _ => ⟨T1, _, _, ⟨fu4, rd3 + 1, g5, rfl, ⟨by dsimp only; omega, by dsimp only; omega⟩, exc_tr e4 v2, v3⟩, fun i hi => ?_, fu_eq, u1, fun b => ?_⟩, fun z => by cases z⟩
              · obtain ⟨w1, w2, w3⟩ := s1 i (by omega)
                rw [fu_ne (by omega)] at w1 w2 w3
                rw [fu_ne (by omega), fu_ne (by omega)]
                exact ⟨w1, w2, w3⟩
              · have h5 := s3 b
                rw [fu_eq] at h5
                rw [fu_eq, u2, u3, h5]
                rfl
            · rw [if_neg c3]
              refine ⟨fun z => (by cases z), fun _ => ?_⟩
              dsimp only
              by_cases c4 : r.2.1 = L
              · rw [c4]
                exact ⟨g3, e4, Or.inr ⟨rfl, 0, Or.inr ⟨rfl, by rw [e5.2.1]; omega, by rw [e5.2.1]; omega⟩, cq_end e5.1 (by omega)⟩⟩
              · have hst := cq_stop e5 l240 (p := r.2.1) (hend hw).1 (hend hw).2 (Or.inl c3)
                have hs2 := cq_behd (n := n) e5.1 (p := r.2.1) (rd := rd3) (fuel := fu4) (by omega) e2 (q := -(r.2.1 : Int)) ⟨by omega, by omega⟩ hst
                rw [if_pos (by omega), Int.neg_neg] at hs2
                exact ⟨g3, e4, Or.inl hs2⟩
        · rw [if_neg c2]
          obtain ⟨h1, h2⟩ := cq_test hE h30 (by rw [hx.1 10 1 rfl]; exact hn) hq (by omega) hpl c1 c2 (lv := lv) (fun hl b hb => hcv p hl g hx b hb)
          have ho := qtst_ok hE (ev := evl lv) (p := p) hp
          refine ⟨fun z => ?_, fun z => ?_⟩
          · obtain ⟨g2, k1, k2, k3⟩ := h2 z
            have ho2 := ho.2 z
            have hs := cq_want (n := n) hq.1 (p := p) (rd := rd) (fuel := fu2) hpl hr (q := ((qtst t (evl lv) p).2.1 : Int)) ⟨by omega, by have := ho.1.2; omega⟩ k1
            rw [if_neg (by omega), if_neg c1, if_neg c2] at hs
            rw [hs]
            refine ⟨T, _, _, ⟨fu2, rd + 1, g2, rfl, ⟨by omega, by omega⟩, exc_tr hx k2, k3⟩, fun i hi => ?_, fu_eq, rfl, fun b => by rw [fu_eq]⟩
            rw [fu_ne (by omega), fu_ne (by omega)]
            exact ⟨rfl, rfl, rfl⟩
          · have k1 := h1 z
            have hs := cq_want (n := n) hq.1 (p := p) (rd := rd) (fuel := fu2) hpl hr (q := -((qtst t (evl lv) p).2.1 : Int)) ⟨by have := ho.1.2; omega, by omega⟩ k1
            rw [if_pos (by omega), Int.neg_neg] at hs
            exact ⟨g, hx, Or.inl hs⟩
