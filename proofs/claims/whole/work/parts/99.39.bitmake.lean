/-! The call of bit that makes one: both sides, and the bits after it. -/
theorem mk_lo {n a j : Nat} (h : a < 111) (h1 : a ≠ 10) (h2 : a ≠ 19) : W_mk n a j = false := by
  cases e : W_mk n a j with
  | false => rfl
  | true =>
    exfalso
    simp only [W_mk, W_nb, Bool.or_eq_true, Bool.and_eq_true, beq_iff_eq, decide_eq_true_eq] at e
    unfold bA at e
    omega
theorem rb_hi {n a j : Nat} (h : 111 ≤ a) : W_rb n a j = false := by
  cases e : W_rb n a j with
  | false => rfl
  | true =>
    exfalso
    simp only [W_rb, W_kb, W_kc8, W_ks5, W_ly, Bool.or_eq_true, Bool.and_eq_true, beq_iff_eq, decide_eq_true_eq] at e
    omega
theorem mS_hi {n a j : Nat} (h : 111 ≤ a) : W_mS n a j = false := by
  cases e : W_mS n a j with
  | false => rfl
  | true =>
    exfalso
    simp only [W_mS, Bool.or_eq_true, Bool.and_eq_true, beq_iff_eq] at e
    omega
theorem bt_cb {n a j : Nat} (h : W_cb a j = true) : W_bt n a j = true := by unfold W_bt; rw [h]; rfl
theorem bt_mk {n a j : Nat} (h : W_mk n a j = true) : W_bt n a j = true := by unfold W_bt; rw [h, Bool.or_true]; rfl
theorem bt_rb {n a j : Nat} (h : W_rb n a j = true) : W_bt n a j = true := by unfold W_bt; rw [h, Bool.or_true]; rfl
theorem bt_mS {n a j : Nat} (h : W_mS n a j = true) : W_bt n a j = true := by unfold W_bt; rw [h, Bool.or_true]
theorem V_way_tb {n : Nat} {g h : gm_T} (x : exc W_tb nob g h) (W : V_way n g) : V_way n h := by
  intro b l hb hl
  unfold mE at hl
  rw [x.1 46 _ rfl] at hl
  rw [(way_tb x b l).1, (way_tb x b l).2]
  exact W b l hb hl
theorem V_way_new {n : Nat} {g h : gm_T} {l : ptl} (V : V_bit n g) (o : oldB n g h) (W : V_way n g) (h3 : 3 ≤ l.length) (e : gm_I h 46 n = (l.length : Int)) (R : cP h 47 48 49 (8 * n) l) (r : rng l.length (ptx l) (pty l) = true) : V_way (n + 1) h := by
  intro b k hb hk
  by_cases q : b = n
  · subst q
    unfold mE at hk
    rw [e] at hk
    have hk' : k < l.length := by omega
    have w := rng_way r hk'
    have nn : nx h b k = rnx l.length k := by
      unfold nx rnx mE
      rw [e]
      by_cases z : k + 1 < l.length
      · rw [if_pos z, if_pos (by omega)]
      · rw [if_neg z, if_neg (by omega)]
    have n8 : rnx l.length k < l.length := by
      unfold rnx
      split <;> omega
    unfold wX wY mX mY
    rw [nn, (cP_k R n8).1, (cP_k R hk').1, (cP_k R n8).2.1, (cP_k R hk').2.1]
    unfold rdx at w
    exact w
  · have hb' : b < n := by omega
    have hk' : (k : Int) < mE g b := by unfold mE at *; rw [(o b hb').1] at hk; exact hk
    have k8 := k8_of V hb' hk'
    rw [(way_old V o hb' k8).1, (way_old V o hb' k8).2]
    exact W b k hb' hk'
theorem bit_made {n L : Nat} {g g7 : gm_T} {t : Nat → Int} {a b c : Int} (VN : V_num n g) (VB : V_bit n g) (VC : V_cell n g) (VTb : V_tab n g) (VW : V_way n g) (hT : isT g L t) (ha : rg a) (hb : rg b) (hc : rg c) (o : okB a b c) (hn : n < 30) (x7 : exc W_cb nob g g7) (z7 : gm_I g7 1 0 = 0) (R : rdB g7 t) (f : bflt t L = none) (r : rng (bcor t).length (ptx (bcor t)) (pty (bcor t)) = true) (q : anq (gsq (bcor t).length (ptx (bcor t)) (pty (bcor t)) (ptx (bspt t)) (pty (bspt t))) 0 (bspt t).length = false) : ∃ g1 h g2, mkB n g7 a b c = some ((n : Int), g1) ∧ md_bit g1 a b c = some ((n : Int), g2) ∧ exc (W_bt n) (W_nb n) g h ∧ exc W_tb nob h g2 ∧ V_num (n + 1) g2 ∧ V_bit (n + 1) g2 ∧ V_cell (n + 1) g2 ∧ V_tab (n + 1) g2 ∧ V_way (n + 1) g2 ∧ gm_I g2 19 n = ((2 ^ n : Nat) : Int) ∧ (gm_I g2 70 n = 0 ∧ gm_I g2 71 n = 0) ∧ gm_I g2 1 0 = 0 ∧ gm_I g2 44 2 = 0 ∧ gm_I g1 10 1 = ((n + 1 : Nat) : Int) := by
  have hE : endT t L := hT.2.2.2
  have l3 := R.1
  have lo := bcor_ok hE
  have so := bspt_ok hE
  have hG := rG_of lo.1 l3 lo.2
  obtain ⟨g1, m1, x1, nb, c11, c12, rows, cnt, g19⟩ := mkB_eq hE ((x7.1 10 1 rfl).trans VN.1) hn R a b c
  have h3 : gm_I g1 44 3 = (n : Int) := ((x1.1 44 3 (mk_lo (by decide) (by decide) (by decide))).trans (x7.1 44 3 rfl)).trans VN.2.1
  have hT1 : isT g1 L t := ⟨((x1.1 44 2 (mk_lo (by decide) (by decide) (by decide))).trans (x7.1 44 2 rfl)).trans hT.1, hT.2.1, fun k hk => ⟨((x1.1 45 k (mk_lo (by decide) (by decide) (by decide))).trans (x7.1 45 k rfl)).trans (hT.2.2.1 k hk).1, (hT.2.2.1 k hk).2⟩, hE⟩
  obtain ⟨gr, xr, zr, er, rd⟩ : ∃ gr, exc (W_rb n) nob g1 gr ∧ gm_I gr 44 2 = 0 ∧ md_bit g1 a b c = mkR gr a b c ∧ rdR g1 gr n t := by
    rcases md_bit_ref h3 (Nat.le_of_lt hn) hT1 ha hb hc with ⟨w, -⟩ | ⟨-, w, -⟩ | ⟨-, -, gr, xr, zr, w⟩
    · exact absurd o w
    · omega
    · rcases w with ⟨e, w, -⟩ | ⟨-, w⟩
      · rw [f] at w; cases w
      · rcases w l3 with ⟨w, -⟩ | ⟨-, w⟩
        · rw [r] at w; cases w
        · rcases w with ⟨w, -⟩ | ⟨-, w1, w2⟩
          · rw [q] at w; cases w
          · exact ⟨gr, xr, zr, w1, w2⟩
  obtain ⟨d1, d2, d3, d4, d5, g9, ly⟩ := rd
  have hr3 : gm_I gr 44 3 = (n : Int) := (xr.1 44 3 rfl).trans h3
  obtain ⟨s54, s55, s56, s70, s71, s3⟩ := mkSn_at (n := n) (g := gr) (a := a) (b := b) (c := c)
  have xs := mkSn_exc (n := n) (g := gr) (a := a) (b := b) (c := c)
  rw [mkR_of hr3 hn] at er
  generalize hh : mkSn n gr a b c = h at er s54 s55 s56 s70 s71 s3 xs
  have xgh : exc (W_bt n) (W_nb n) g h := exc_tr (exc_tr (exc_tr (exc_mono x7 (fun _ _ => bt_cb) (fun _ _ w => by cases w)) (exc_mono x1 (fun _ _ => bt_mk) (fun _ _ w => w))) (exc_mono xr (fun _ _ => bt_rb) (fun _ _ w => by cases w))) (exc_mono xs (fun _ _ => bt_mS) (fun _ _ w => by cases w))
  have B0 : 111 ≤ bA n := by unfold bA; omega
  have hi : ∀ a j, 111 ≤ a → gm_I h a j = gm_I g1 a j := fun a j w => (xs.1 a j (mS_hi w)).trans (xr.1 a j (rb_hi w))
  have O := oldB_bt xgh
  have rows2 : ∀ t' v, t' < 4 → v < 40 → rw1 gr n t' v (winr (bcor t).length (ptx (bcor t)) (pty (bcor t))) := fun t' v h1 h2 => by
    obtain ⟨w, w1, w2⟩ := rows t' v h1 h2
    exact ⟨w, (xr.2 _ _ rfl).trans w1, w2⟩
  obtain ⟨cn1, c57⟩ := cellsB_new hG ly rows2
  have N57 : gm_I gr 57 n ≤ 1600 := by
    have := cntM_le (winr (bcor t).length (ptx (bcor t)) (pty (bcor t)))
    rw [c57]; omega
  have CN : cellsB h n := cellsB_keep cn1 N57 (xs.1 57 n rfl) (fun j hj => ⟨xs.1 59 _ rfl, xs.1 60 _ rfl, xs.1 61 _ rfl⟩) (fun j => xs.2 _ _ rfl)
  have R1 : cP h 47 48 49 (8 * n) (bcor t) := fun i w hw => by
    rw [xs.1 47 _ rfl, xs.1 48 _ rfl, xs.1 49 _ rfl]
    exact d1 i w hw
  have R2 : cP h 51 52 53 (5 * n) (bspt t) := fun i w hw => by
    rw [xs.1 51 _ rfl, xs.1 52 _ rfl, xs.1 53 _ rfl]
    exact d2 i w hw
  have e46 : gm_I h 46 n = ((bcor t).length : Int) := (xs.1 46 n rfl).trans d3
  obtain ⟨⟨n0, n1, n2, n3, n7⟩, nc, ns⟩ := nb
  obtain ⟨-, k1, k2, k3, k4⟩ := R
  have VB2 : V_bit (n + 1) h := V_bit_new (V_bit_bt xgh VB) lo.1 l3 lo.2 so.1 so.2 (fun k hk => gsq_in hG q hk) o
    ((hi _ _ B0).trans (n3.trans k3)) e46
    (fun k hk => by
      have w := cP_k k1 hk
      rw [Nat.zero_add] at w
      exact ⟨(hi _ _ (Nat.le_add_right_of_le B0)).trans ((nc k).1.trans w.1), (hi _ _ (Nat.le_add_right_of_le B0)).trans ((nc k).2.1.trans w.2.1), (hi _ _ (Nat.le_add_right_of_le B0)).trans ((nc k).2.2.trans w.2.2)⟩)
    R1 ((hi _ _ B0).trans (n7.trans k4)) ((xs.1 50 n rfl).trans d4)
    (fun k hk => by
      have w := cP_k k2 hk
      rw [Nat.zero_add] at w
      exact ⟨(hi _ _ (Nat.le_add_right_of_le B0)).trans ((ns k).1.trans w.1), (hi _ _ (Nat.le_add_right_of_le B0)).trans ((ns k).2.1.trans w.2.1), (hi _ _ (Nat.le_add_right_of_le B0)).trans ((ns k).2.2.trans w.2.2)⟩)
    R2 ⟨(hi _ _ B0).trans n0, s54⟩ ⟨(hi _ _ B0).trans n1, s55⟩ ⟨(hi _ _ B0).trans n2, s56⟩
    ⟨(hi _ _ B0).trans c12, (xs.1 57 n rfl).trans c57⟩ (((hi _ _ B0).trans c11).trans (((xs.1 58 n rfl).trans d5).symm))
  have VC2 : V_cell (n + 1) h := V_cell_of.mpr (fun b hb => by
    by_cases w : b = n
    · subst w; exact CN
    · exact cells_bt xgh VB VC b (by omega))
  have VW2 : V_way (n + 1) h := V_way_new VB O VW l3 e46 R1 r
  have T2 := tab_old VB O VTb (fun j => ⟨xgh.1 63 j (bt_no (by unfold P_bt bA; omega)), xgh.1 64 j (bt_no (by unfold P_bt bA; omega))⟩)
  obtain ⟨g2, e2, x2, VT2⟩ := V_tab_new (by omega) VB2 VC2 VW2 s3 T2
  rw [e2, jb1_some, x2.1 44 3 rfl, s3, show (((n + 1 : Nat) : Int) - 1) = (n : Int) by omega] at er
  refine ⟨g1, h, g2, m1, er, xgh, x2, ⟨?_, (x2.1 44 3 rfl).trans s3, by omega⟩, V_bit_tb x2 VB2, V_cell_tb x2 VC2, VT2, V_way_tb x2 VW2, ?_, ⟨(x2.1 70 n rfl).trans s70, (x2.1 71 n rfl).trans s71⟩, ?_, ?_, cnt⟩
  · exact (((x2.1 10 1 rfl).trans (xs.1 10 1 rfl)).trans (xr.1 10 1 rfl)).trans cnt
  · exact (((x2.1 19 n rfl).trans (xs.1 19 n rfl)).trans (xr.1 19 n rfl)).trans g19
  · exact (((x2.1 1 0 rfl).trans (xs.1 1 0 rfl)).trans (xr.1 1 0 rfl)).trans ((x1.1 1 0 (mk_lo (by decide) (by decide) (by decide))).trans z7)
  · exact ((x2.1 44 2 rfl).trans (xs.1 44 2 rfl)).trans zr
