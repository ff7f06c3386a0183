/-! A call of the class and the same call of the reference: one answer, and all holds again. -/
def call2 (M1 M2 : Nat) (as : List Value) : Prop := ∀ (Z : Nat) (s : gm_S) (n : Nat) (g : gm_T), bw_F Z s n → Ivt n g → ∃ (r : Int) (s2 : gm_S) (n2 : Nat) (g1 g2 : gm_T), jm_cl jm_CD km_n 810 M1 (.ref 0 :: as) (gm_h s g) = some (some (gv r), gm_h s2 g1) ∧ jm_cl jm_CD km_n 810 M2 (.ref 44 :: as) (gm_h s2 g1) = some (some (gv r), gm_h s2 g2) ∧ bw_F Z s2 n2 ∧ Ivt n2 g2
theorem kx_about {a1 a2 : Int} (h1 : rg a1) (h2 : rg a2) : call2 125 201 [gv a1, gv a2] := fun Z s n g F I => by
  obtain ⟨r, e1, e2⟩ := op_about I.1.1.choose_spec.1.1 I.1.1.choose_spec.1.2.1 h1 h2
  exact ⟨r, s, n, g, g, rf_cw_about F.1 808 g a1 a2 _ e1, rf_md_about F.1 807 g a1 a2 _ e2, F, I⟩
theorem kx_corner {a1 a2 a3 : Int} (h1 : rg a1) (h2 : rg a2) (h3 : rg a3) : call2 126 202 [gv a1, gv a2, gv a3] := fun Z s n g F I => by
  obtain ⟨r, e1, e2⟩ := op_corner I.1.1.choose_spec.1.1 I.1.1.choose_spec.1.2.1 h1 h2 h3
  exact ⟨r, s, n, g, g, rf_cw_corner F.1 807 g a1 a2 a3 _ e1, rf_md_corner F.1 806 g a1 a2 a3 _ e2, F, I⟩
theorem kx_overlap {a1 a2 a3 a4 a5 : Int} (h1 : rg a1) (h2 : rg a2) (h3 : rg a3) (h4 : rg a4) (h5 : rg a5) : call2 127 208 [gv a1, gv a2, gv a3, gv a4, gv a5] := fun Z s n g F I => by
  obtain ⟨r, e1, e2⟩ := op_overlap I.1.1.choose_spec.1.1 I.1.1.choose_spec.1.2.1 I.1.1.choose_spec.1.2.2.1 h1 h2 h3 h4 h5
  exact ⟨r, s, n, g, g, rf_cw_overlap F.1 807 g a1 a2 a3 a4 a5 _ e1, rf_md_overlap F.1 805 g a1 a2 a3 a4 a5 _ e2, F, I⟩
theorem kx_tolerance {a1 : Int} (h1 : rg a1) : call2 128 209 [gv a1] := fun Z s n g F I => by
  obtain ⟨r, g1, g2, e1, e2, v, x⟩ := op_tolerance I.1.1.choose_spec.1.2.2.2.1 h1
  exact ⟨r, s, n, g1, g2, rf_cw_tolerance F.1 809 g a1 _ e1, rf_md_tolerance F.1 808 g1 a1 _ e2, F, Inv_tol x v I⟩
theorem kx_likeness {a1 a2 a3 : Int} (h1 : rg a1) (h2 : rg a2) (h3 : rg a3) : call2 129 216 [gv a1, gv a2, gv a3] := fun Z s n g F I => by
  obtain ⟨r, g1, g2, e1, e2, v, u, x⟩ := op_likeness2 I.1.1.choose_spec.1.2.2.2.2.1 I.1.1.choose_spec.1.2.2.2.2.2.2 h1 h2 h3
  exact ⟨r, s, n, g1, g2, rf_cw_likeness F.1 808 g a1 a2 a3 _ e1, rf_md_likeness F.1 808 g1 a1 a2 a3 _ e2, F, Inv_like x v u I⟩
theorem kx_score {a1 a2 a3 a4 : Int} (h1 : rg a1) (h2 : rg a2) (h3 : rg a3) (h4 : rg a4) : call2 130 217 [gv a1, gv a2, gv a3, gv a4] := fun Z s n g F I => by
  obtain ⟨r, e1, e2⟩ := op_score I.1.1.choose_spec.1 h1 h2 h3 h4
  exact ⟨r, s, n, g, g, rf_cw_score F.1 806 g a1 a2 a3 a4 _ e1, rf_md_score F.1 806 g a1 a2 a3 a4 _ e2, F, I⟩
theorem kx_turned {a1 a2 a3 a4 a5 : Int} (h1 : rg a1) (h2 : rg a2) (h3 : rg a3) (h4 : rg a4) (h5 : rg a5) : call2 131 218 [gv a1, gv a2, gv a3, gv a4, gv a5] := fun Z s n g F I => by
  obtain ⟨r, e1, e2⟩ := op_turned I.1.1.choose_spec.1 h1 h2 h3 h4 h5
  exact ⟨r, s, n, g, g, rf_cw_turned F.1 806 g a1 a2 a3 a4 a5 _ e1, rf_md_turned F.1 806 g a1 a2 a3 a4 a5 _ e2, F, I⟩
theorem kx_fits {a1 a2 : Int} (h1 : rg a1) (h2 : rg a2) : call2 132 220 [gv a1, gv a2] := fun Z s n g F I => by
  obtain ⟨r, g1, g2, e1, e2, x⟩ := op_fits I.1.1.choose_spec.1 h1 h2
  exact ⟨r, s, n, g1, g2, rf_cw_fits F.1 805 g a1 a2 _ e1, rf_md_fits F.1 806 g1 a1 a2 _ e2, F, Inv_list x I⟩
theorem kx_fit {a1 a2 a3 : Int} (h1 : rg a1) (h2 : rg a2) (h3 : rg a3) : call2 133 221 [gv a1, gv a2, gv a3] := fun Z s n g F I => by
  obtain ⟨r, g1, g2, e1, e2, x⟩ := op_fit I.1.1.choose_spec.1 h1 h2 h3
  exact ⟨r, s, n, g1, g2, rf_cw_fit F.1 805 g a1 a2 a3 _ e1, rf_md_fit F.1 806 g1 a1 a2 a3 _ e2, F, Inv_list x I⟩
theorem kx_rival {a1 a2 a3 a4 : Int} (h1 : rg a1) (h2 : rg a2) (h3 : rg a3) (h4 : rg a4) : call2 134 224 [gv a1, gv a2, gv a3, gv a4] := fun Z s n g F I => by
  obtain ⟨r, g2, e1, e2, x⟩ := op_rival I.1.1.choose_spec.1 h1 h2 h3 h4
  exact ⟨r, s, n, g, g2, rf_cw_rival F.1 805 g a1 a2 a3 a4 _ e1, rf_md_rival F.1 804 g a1 a2 a3 a4 _ e2, F, Inv_list x I⟩
theorem kx_join {a1 a2 a3 a4 : Int} (h1 : rg a1) (h2 : rg a2) (h3 : rg a3) (h4 : rg a4) : call2 135 251 [gv a1, gv a2, gv a3, gv a4] := fun Z s n g F I => by
  obtain ⟨r, g1, g2, e1, e2, v, u, x⟩ := op_join I.1.1.choose_spec I.2.1 h1 h2 h3 h4
  exact ⟨r, s, n, g1, g2, rf_cw_join F.1 803 g a1 a2 a3 a4 _ e1, rf_md_join F.1 801 g1 a1 a2 a3 a4 _ e2, F, Inv_wj x v u I⟩
theorem kx_undo {a1 : Int} (h1 : rg a1) : call2 136 254 [gv a1] := fun Z s n g F I => by
  obtain ⟨r, g1, g2, e1, e2, v, u, x⟩ := op_undo I.1.1.choose_spec I.2.1 h1
  exact ⟨r, s, n, g1, g2, rf_cw_undo F.1 805 g a1 _ e1, rf_md_undo F.1 803 g1 a1 _ e2, F, Inv_wj x v u I⟩
theorem kx_joined {a1 a2 : Int} (h1 : rg a1) (h2 : rg a2) : call2 137 256 [gv a1, gv a2] := fun Z s n g F I => by
  obtain ⟨r, g2, e1, e2, x⟩ := op_joined I.1.1.choose_spec h1 h2
  exact ⟨r, s, n, g, g2, rf_cw_joined F.1 803 g a1 a2 _ e1, rf_md_joined F.1 803 g a1 a2 _ e2, F, Inv_scr x I⟩
theorem kx_group {a1 a2 : Int} (h1 : rg a1) (h2 : rg a2) : call2 138 258 [gv a1, gv a2] := fun Z s n g F I => by
  obtain ⟨r, g2, e1, e2, x⟩ := op_group I.1.1.choose_spec h1 h2
  exact ⟨r, s, n, g, g2, rf_cw_group F.1 807 g a1 a2 _ e1, rf_md_group F.1 803 g a1 a2 _ e2, F, Inv_scr x I⟩
theorem kx_clash {a1 : Int} (h1 : rg a1) : call2 139 259 [gv a1] := fun Z s n g F I => by
  obtain ⟨r, e1, e2⟩ := op_clash I.2.1 h1
  exact ⟨r, s, n, g, g, rf_cw_clash F.1 809 g a1 _ e1, rf_md_clash F.1 808 g a1 _ e2, F, I⟩
theorem kx_word {a1 a2 a3 a4 : Int} (h1 : rg a1) (h2 : rg a2) (h3 : rg a3) (h4 : rg a4) : call2 140 264 [gv a1, gv a2, gv a3, gv a4] := fun Z s n g F I => by
  obtain ⟨r, g1, g2, e1, e2, v, u, x⟩ := op_word I.1.1.choose_spec I.2.1 h1 h2 h3 h4
  exact ⟨r, s, n, g1, g2, rf_cw_word F.1 802 g a1 a2 a3 a4 _ e1, rf_md_word F.1 802 g1 a1 a2 a3 a4 _ e2, F, Inv_wk x v u I⟩
theorem kx_unsay {a1 : Int} (h1 : rg a1) : call2 141 265 [gv a1] := fun Z s n g F I => by
  obtain ⟨r, g1, g2, e1, e2, v, x⟩ := op_unsay I.1.1.choose_spec h1
  exact ⟨r, s, n, g1, g2, rf_cw_unsay F.1 807 g a1 _ e1, rf_md_unsay F.1 803 g1 a1 _ e2, F, Inv_wd x v I⟩
theorem kx_put {a1 a2 a3 a4 : Int} (h1 : rg a1) (h2 : rg a2) (h3 : rg a3) (h4 : rg a4) : call2 142 266 [gv a1, gv a2, gv a3, gv a4] := fun Z s n g F I => by
  obtain ⟨r, g1, g2, e1, e2, v, u, x⟩ := op_put I.1.1.choose_spec I.2.1 h1 h2 h3 h4
  exact ⟨r, s, n, g1, g2, rf_cw_put F.1 802 g a1 a2 a3 a4 _ e1, rf_md_put F.1 802 g1 a1 a2 a3 a4 _ e2, F, Inv_wk x v u I⟩
theorem kx_lift {a1 : Int} (h1 : rg a1) : call2 143 267 [gv a1] := fun Z s n g F I => by
  obtain ⟨r, g1, g2, e1, e2, v, x⟩ := op_lift I.1.1.choose_spec h1
  exact ⟨r, s, n, g1, g2, rf_cw_lift F.1 808 g a1 _ e1, rf_md_lift F.1 803 g1 a1 _ e2, F, Inv_wd x v I⟩
theorem kx_placed {a1 a2 : Int} (h1 : rg a1) (h2 : rg a2) : call2 144 268 [gv a1, gv a2] := fun Z s n g F I => by
  obtain ⟨r, g2, e1, e2, x⟩ := op_placed I.1.1.choose_spec h1 h2
  exact ⟨r, s, n, g, g2, rf_cw_placed F.1 807 g a1 a2 _ e1, rf_md_placed F.1 803 g a1 a2 _ e2, F, Inv_scr x I⟩
theorem kx_at {a1 a2 : Int} (h1 : rg a1) (h2 : rg a2) : call2 145 269 [gv a1, gv a2] := fun Z s n g F I => by
  obtain ⟨r, g2, e1, e2, x⟩ := op_at I.1.1.choose_spec h1 h2
  exact ⟨r, s, n, g, g2, rf_cw_at F.1 807 g a1 a2 _ e1, rf_md_at F.1 803 g a1 a2 _ e2, F, Inv_scr x I⟩
theorem kx_proof {a1 : Int} (h1 : rg a1) : call2 146 272 [gv a1] := fun Z s n g F I => by
  obtain ⟨r, g1, g2, e1, e2, x⟩ := op_proof I.1.1.choose_spec h1
  exact ⟨r, s, n, g1, g2, rf_cw_proof F.1 802 g a1 _ e1, rf_md_proof F.1 802 g1 a1 _ e2, F, Inv_scr x I⟩
theorem kx_reason {a1 a2 : Int} (h1 : rg a1) (h2 : rg a2) : call2 147 273 [gv a1, gv a2] := fun Z s n g F I => by
  obtain ⟨r, g1, g2, e1, e2, x⟩ := op_reason I.1.1.choose_spec h1 h2
  exact ⟨r, s, n, g1, g2, rf_cw_reason F.1 802 g a1 a2 _ e1, rf_md_reason F.1 802 g1 a1 a2 _ e2, F, Inv_scr x I⟩
theorem kx_photograph {a1 a2 a3 : Int} (h1 : rg a1) (h2 : rg a2) (h3 : rg a3) : call2 148 275 [gv a1, gv a2, gv a3] := fun Z s n g F I => by
  obtain ⟨r, g1, g2, e1, e2, v, u, x⟩ := op_photograph I.2.2.2.2.1 I.2.2.2.2.2.1 h1 h2 h3
  exact ⟨r, s, n, g1, g2, rf_cw_photograph F.1 806 g a1 a2 a3 _ e1, rf_md_photograph F.1 806 g1 a1 a2 a3 _ e2, F, Inv_pho x v u I⟩
theorem kx_agree {a1 a2 a3 a4 : Int} (h1 : rg a1) (h2 : rg a2) (h3 : rg a3) (h4 : rg a4) : call2 149 278 [gv a1, gv a2, gv a3, gv a4] := fun Z s n g F I => by
  obtain ⟨r, e1, e2⟩ := op_agree I.1.1.choose_spec.1.1 I.1.1.choose_spec.1.2.1 I.2.2.2.2.2.1 h1 h2 h3 h4
  exact ⟨r, s, n, g, g, rf_cw_agree F.1 806 g a1 a2 a3 a4 _ e1, rf_md_agree F.1 806 g a1 a2 a3 a4 _ e2, F, I⟩
theorem kx_best {a1 a2 : Int} (h1 : rg a1) (h2 : rg a2) : call2 150 280 [gv a1, gv a2] := fun Z s n g F I => by
  obtain ⟨r, g1, e1, e2, x⟩ := op_best I.1.1.choose_spec.1 I.2.2.2.2.2.1 h1 h2
  exact ⟨r, s, n, g1, g1, rf_cw_best F.1 804 g a1 a2 _ e1, rf_md_best F.1 806 g1 a1 a2 _ e2, F, Inv_scr x I⟩
theorem kx_arrange {a1 : Int} (h1 : rg a1) : call2 151 286 [gv a1] := fun Z s n g F I => by
  obtain ⟨r, g1, g2, e1, e2, v, x⟩ := op_arrange I.1.1.choose_spec.1 I.2.2.2.2.2.2.1 h1
  exact ⟨r, s, n, g1, g2, rf_cw_arrange F.1 803 g a1 _ e1, rf_md_arrange F.1 801 g1 a1 _ e2, F, Inv_arr x v I⟩
theorem kx_arranged {a1 a2 : Int} (h1 : rg a1) (h2 : rg a2) : call2 152 287 [gv a1, gv a2] := fun Z s n g F I => by
  obtain ⟨r, e1, e2⟩ := op_arranged I.1.1.choose_spec.1.1 I.2.2.2.2.2.2.1 h1 h2
  exact ⟨r, s, n, g, g, rf_cw_arranged F.1 807 g a1 a2 _ e1, rf_md_arranged F.1 808 g a1 a2 _ e2, F, I⟩
theorem kx_ask : call2 153 295 [] := fun Z s n g F I => by
  obtain ⟨r, g1, g2, e1, e2, v, u, x⟩ := op_ask I.1.1.choose_spec I.2.2.1 I.2.2.2.2.1 I.2.2.2.2.2.2.2.2 
  exact ⟨r, s, n, g1, g2, rf_cw_ask F.1 802 g  _ e1, rf_md_ask F.1 4 g1  _ e2, F, Inv_ask x v u I⟩
theorem kx_asked {a1 : Int} (h1 : rg a1) : call2 154 296 [gv a1] := fun Z s n g F I => by
  obtain ⟨r, e1, e2⟩ := op_asked I.2.2.2.2.2.2.2.2 h1
  exact ⟨r, s, n, g, g, rf_cw_asked F.1 808 g a1 _ e1, rf_md_asked F.1 808 g a1 _ e2, F, I⟩
theorem kx_enter {a1 a2 a3 : Int} (h1 : rg a1) (h2 : rg a2) (h3 : rg a3) : call2 155 297 [gv a1, gv a2, gv a3] := fun Z s n g F I => by
  obtain ⟨r, g1, g2, e1, e2, v, x⟩ := op_enter I.1.1.choose_spec.1.1 I.2.2.1 h1 h2 h3
  exact ⟨r, s, n, g1, g2, rf_cw_enter F.1 807 g a1 a2 a3 _ e1, rf_md_enter F.1 807 g1 a1 a2 a3 _ e2, F, Inv_box x v I⟩
theorem kx_box {a1 a2 a3 : Int} (h1 : rg a1) (h2 : rg a2) (h3 : rg a3) : call2 156 299 [gv a1, gv a2, gv a3] := fun Z s n g F I => by
  obtain ⟨r, e1, e2⟩ := op_box I.1.1.choose_spec.1.1 I.2.2.1 h1 h2 h3
  exact ⟨r, s, n, g, g, rf_cw_box F.1 808 g a1 a2 a3 _ e1, rf_md_box F.1 807 g a1 a2 a3 _ e2, F, I⟩
theorem kx_skill {a1 a2 a3 : Int} (h1 : rg a1) (h2 : rg a2) (h3 : rg a3) : call2 157 300 [gv a1, gv a2, gv a3] := fun Z s n g F I => by
  obtain ⟨r, g1, g2, e1, e2, v, x⟩ := op_skill I.2.2.2.1 h1 h2 h3
  exact ⟨r, s, n, g1, g2, rf_cw_skill F.1 808 g a1 a2 a3 _ e1, rf_md_skill F.1 808 g1 a1 a2 a3 _ e2, F, Inv_skill x v I⟩
theorem kx_share {a1 : Int} (h1 : rg a1) : call2 158 303 [gv a1] := fun Z s n g F I => by
  obtain ⟨r, g1, g2, e1, e2, v, x⟩ := op_share I.1.1.choose_spec.1.1 I.1.1.choose_spec.1.2.1 I.2.2.2.1 I.2.2.1 I.2.2.2.2.2.2.2.1 h1
  exact ⟨r, s, n, g1, g2, rf_cw_share F.1 805 g a1 _ e1, rf_md_share F.1 807 g1 a1 _ e2, F, Inv_sh x v I⟩
theorem kx_count {a1 : Int} (h1 : rg a1) : call2 159 304 [gv a1] := fun Z s n g F I => by
  obtain ⟨r, g2, e1, e2, x⟩ := op_count I.1.1.choose_spec I.2.2.1 I.2.2.2.2.1 h1
  exact ⟨r, s, n, g, g2, rf_cw_count F.1 802 g a1 _ e1, rf_md_count F.1 802 g a1 _ e2, F, Inv_scr x I⟩
theorem kx_feed (w : Int64) {a3 : Int} (h3 : rg a3) : call2 123 174 [.long w, gv a3] := fun Z s n g F I => by
  obtain ⟨r, g1, g2, e1, e2, v, x⟩ := op_feed I.2.2.2.2.1 w h3
  exact ⟨r, s, n, g1, g2, rf_cw_feed F.1 808 g w a3 _ e1, rf_md_feed F.1 808 g1 w a3 _ e2, F, Inv_tape x v I⟩
theorem kx_bit {a1 a2 a3 : Int} (h1 : rg a1) (h2 : rg a2) (h3 : rg a3) : call2 124 200 [gv a1, gv a2, gv a3] := fun Z s n g F I => by
  obtain ⟨r, g1, g2, m, e1, e2, em, I2⟩ := op_bit I h1 h2 h3
  obtain ⟨s2, m2, F2, c2, c3⟩ := rf_cw_bit F 804 g a1 a2 a3 _ e1
  have hm : m = m2 := by
    have c4 : gm_I g1 10 1 = (m2 : Int) := c2
    omega
  subst hm
  exact ⟨r, s2, m, g1, g2, c3, rf_md_bit F2.1 803 g1 a1 a2 a3 _ e2, F2, I2⟩
