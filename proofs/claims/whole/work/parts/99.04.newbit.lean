/-! The making of a bit: the programs of its constructor, of addBit and of bit. -/
noncomputable def cb_made_l187 (i23 : Nat) (c29 : Int) (c30 : Int) (c31 : Int) : Nat → Int → Int → gm_T → Option (Int × gm_T)
  | 0, _, _, _ => none
  | fuel + 1, v28, v32, g33 =>
    jg (rg v32 ∧ rg c30)
    (if v32 < c30 then
    (jb1 (ck_holdsCell g33 c31 v32) fun (v38 : Int) =>
    jg (rg v38)
    (if v38 = 0 then
    (cb_made_l187 i23 c29 c30 c31 fuel v28 (v32 + 1) g33)
    else
    (jb1 (cb_markCell g33 i23 c31 v32) fun (g42 : gm_T) =>
    cb_made_l187 i23 c29 c30 c31 fuel (v28 + 1) (v32 + 1) g42)))
    else
    (some (v28, g33)))
noncomputable def cb_made_l170 (i6 : Nat) (c12 : Int) (c13 : Int) : Nat → Int → Int → gm_T → Option (Int × gm_T)
  | 0, _, _, _ => none
  | fuel + 1, v11, v14, g16 =>
    jg (rg v14 ∧ rg c12)
    (if v14 < c12 then
    (jb1 (ck_least_5 g16) fun (v22 : Int) =>
    jb2 (cb_made_l187 i6 c12 c13 v14 fz v11 v22 g16) fun (v47 : Int) (g49 : gm_T) =>
    cb_made_l170 i6 c12 c13 fuel v47 (v14 + 1) g49)
    else
    (some (v11, g16)))
noncomputable def cb_made (g : gm_T) (i0 : Nat) : Option gm_T :=
    jb1 (ck_twiceArea g) fun (v1 : Int) =>
    jl (gm_wI g (bA i0) 11 v1) fun (g2 : gm_T) =>
    jb1 (ck_most_4 g2) fun (v3 : Int) =>
    jb1 (ck_most_5 g2) fun (v4 : Int) =>
    jb1 (ck_least_4 g2) fun (v5 : Int) =>
    jb2 (cb_made_l170 i0 v3 v4 fz 0 v5 g2) fun (v54 : Int) (g57 : gm_T) =>
    jl (gm_wI g57 (bA i0) 12 v54) fun (g58 : gm_T) =>
    some g58
theorem rl_cb_made_l187 {s : gm_S} {n m : Nat} (hs : gm_sh s n m) (d : Nat)  (i23 : Nat) (c29 : Int) (c30 : Int) (c31 : Int) (hi24 : i23 < m) : ∀ (fuel : Nat) (v28 : Int) (v32 : Int) (g33 : gm_T) (j25 : Option Value) (j26 : Option Value) (j27 : Option Value) (hj25 : jm_lg j25 = false) (hj26 : jm_lg j26 = false) (hj27 : jm_lg j27 = false), jr (fun (q : Int × gm_T) (c : Option jm_R) => ∃ (j35 : Option Value), jm_lg j35 = false ∧ c = jm_sup cd_13 (jm_cl jm_CD km_n (d + 3)) (222, [some (.ref (bA i23)), some (.ref 3), j25, j26, j27, some (gv q.1), some (gv c29), some (gv c30), some (gv c31), j35], [], gm_h s q.2)) (cb_made_l187  i23 c29 c30 c31 fuel v28 v32 g33) (jm_sup cd_13 (jm_cl jm_CD km_n (d + 3)) (187, [some (.ref (bA i23)), some (.ref 3), j25, j26, j27, some (gv v28), some (gv c29), some (gv c30), some (gv c31), some (gv v32)], [], gm_h s g33)) := by
  intro fuel
  induction fuel with
  | zero => intros; exact jr_none
  | succ fuel ih =>
    intro v28 v32 g33 j25 j26 j27 hj25 hj26 hj27
    unfold cb_made_l187
    exact (
      r_iload (pc2 := 189) rfl rfl rfl (
      r_iload (pc2 := 191) rfl rfl rfl (
      jr_g fun h37 => r_cge (pc2 := 194) (t := 222) rfl h37.1 h37.2 rfl (fun _ =>
      r_aload (pc2 := 195) rfl rfl rfl (
      r_iload (pc2 := 197) rfl rfl rfl (
      r_iload (pc2 := 199) rfl rfl rfl (
      r_callVP (pc2 := 202) (args := [.ref 3, gv c31, gv v32]) (st2 := []) rfl rfl rfl rfl rfl rfl (rc_of (sh_T hs rfl rfl)) (rf_ck_holdsCell hs (d + 1) g33 c31 v32 ) fun v38 => (
      jr_g fun h39 => r_ifeq (pc2 := 205) (t := 216) rfl h39 rfl (fun _ =>
      r_iinc (kk := 1) (L2 := [some (.ref (bA i23)), some (.ref 3), j25, j26, j27, some (gv v28), some (gv c29), some (gv c30), some (gv c31), some (gv (v32 + 1))]) (pc2 := 219) rfl ic_1 rfl rfl rfl (
      r_goto (t := 187) rfl (
      ih v28 (v32 + 1) g33 _ _ _ hj25 hj26 hj27))) (fun _ =>
      r_iinc (kk := 1) (L2 := [some (.ref (bA i23)), some (.ref 3), j25, j26, j27, some (gv (v28 + 1)), some (gv c29), some (gv c30), some (gv c31), some (gv v32)]) (pc2 := 208) rfl ic_1 rfl rfl (jm_st1j hj27 rfl ⟨rfl, rfl⟩) (
      r_aload (pc2 := 209) rfl rfl rfl (
      r_iload (pc2 := 211) rfl rfl rfl (
      r_iload (pc2 := 213) rfl rfl rfl (
      r_callVV (pc2 := 216) (args := [.ref (bA i23), gv c31, gv v32]) (st2 := []) rfl rfl rfl rfl rfl rfl (rc_of (sh_b0 hs hi24)) (rf_cb_markCell hs d g33 i23 c31 v32 hi24) fun g42 => (
      r_iinc (kk := 1) (L2 := [some (.ref (bA i23)), some (.ref 3), j25, j26, j27, some (gv (v28 + 1)), some (gv c29), some (gv c30), some (gv c31), some (gv (v32 + 1))]) (pc2 := 219) rfl ic_1 rfl rfl rfl (
      r_goto (t := 187) rfl (
      ih (v28 + 1) (v32 + 1) g42 _ _ _ hj25 hj26 hj27))))))))))))) (fun _ =>
      jr_leaf ⟨_, rfl, rfl⟩))))
theorem rl_cb_made_l170 {s : gm_S} {n m : Nat} (hs : gm_sh s n m) (d : Nat)  (i6 : Nat) (c12 : Int) (c13 : Int) (hi7 : i6 < m) : ∀ (fuel : Nat) (v11 : Int) (v14 : Int) (g16 : gm_T) (j8 : Option Value) (j9 : Option Value) (j10 : Option Value) (j15 : Option Value) (hj8 : jm_lg j8 = false) (hj9 : jm_lg j9 = false) (hj10 : jm_lg j10 = false) (hj15 : jm_lg j15 = false), jr (fun (q : Int × gm_T) (c : Option jm_R) => ∃ (j18 : Option Value) (j19 : Option Value), jm_lg j18 = false ∧ jm_lg j19 = false ∧ c = jm_sup cd_13 (jm_cl jm_CD km_n (d + 3)) (228, [some (.ref (bA i6)), some (.ref 3), j8, j9, j10, some (gv q.1), some (gv c12), some (gv c13), j18, j19], [], gm_h s q.2)) (cb_made_l170  i6 c12 c13 fuel v11 v14 g16) (jm_sup cd_13 (jm_cl jm_CD km_n (d + 3)) (170, [some (.ref (bA i6)), some (.ref 3), j8, j9, j10, some (gv v11), some (gv c12), some (gv c13), some (gv v14), j15], [], gm_h s g16)) := by
  intro fuel
  induction fuel with
  | zero => intros; exact jr_none
  | succ fuel ih =>
    intro v11 v14 g16 j8 j9 j10 j15 hj8 hj9 hj10 hj15
    unfold cb_made_l170
    exact (
      r_iload (pc2 := 172) rfl rfl rfl (
      r_iload (pc2 := 174) rfl rfl rfl (
      jr_g fun h21 => r_cge (pc2 := 177) (t := 228) rfl h21.1 h21.2 rfl (fun _ =>
      r_aload (pc2 := 178) rfl rfl rfl (
      r_aload (pc2 := 179) rfl rfl rfl (
      r_getA (pc2 := 182) rfl rfl (sh_T hs rfl rfl) (sh_A hs rfl rfl) (
      r_callVP (pc2 := 185) (args := [.ref 3, .ref 5]) (st2 := []) rfl rfl rfl rfl rfl rfl (rc_of (sh_T hs rfl rfl)) (rf_ck_least_5 hs (d + 2) g16 ) fun v22 => (
      r_istore (L2 := [some (.ref (bA i6)), some (.ref 3), j8, j9, j10, some (gv v11), some (gv c12), some (gv c13), some (gv v14), some (gv v22)]) (pc2 := 187) rfl rfl rfl (
      r_b2 (rl_cb_made_l187 hs d   i6 c12 c13 v14 hi7 fz v11 v22 g16 _ _ _ hj8 hj9 hj10) (fun v47 g49 c h => match c, h with | _, ⟨j48, hj48, rfl⟩ => (
      r_iinc (kk := 1) (L2 := [some (.ref (bA i6)), some (.ref 3), j8, j9, j10, some (gv v47), some (gv c12), some (gv c13), some (gv (v14 + 1)), j48]) (pc2 := 225) rfl ic_1 rfl rfl rfl (
      r_goto (t := 170) rfl (
      ih v47 (v14 + 1) g49 _ _ _ _ hj8 hj9 hj10 hj48)))))))))) (fun _ =>
      jr_leaf ⟨_, _, rfl, hj15, rfl⟩))))
theorem rf_cb_made {s : gm_S} {n m : Nat} (hs : gm_sh s n m) (d : Nat) (g : gm_T) (i0 : Nat) (a2 : Int) (a3 : Int) (a4 : Int) (hi0 : i0 < m) : jr (eV s) (cb_made g i0) (jm_sup cd_13 (jm_cl jm_CD km_n (d + 3)) (129, [some (.ref (bA i0)), some (.ref 3), some (gv a2), some (gv a3), some (gv a4), none, none, none, none, none], [], gm_h s g)) := by
  unfold cb_made
  exact (
      r_aload (pc2 := 130) rfl rfl rfl (
      r_aload (pc2 := 131) rfl rfl rfl (
      r_callVP (pc2 := 134) (args := [.ref 3]) (st2 := [.ref (bA i0)]) rfl rfl rfl rfl rfl rfl (rc_of (sh_T hs rfl rfl)) (rf_ck_twiceArea hs (d + 1) g ) fun v1 => (
      r_putI (pc2 := 137) rfl rfl (sh_b0 hs hi0) fun g2 => (
      r_ic (x := 0) (pc2 := 138) rfl ic_0 rfl (
      r_istore (L2 := [some (.ref (bA i0)), some (.ref 3), some (gv a2), some (gv a3), some (gv a4), some (gv 0), none, none, none, none]) (pc2 := 140) rfl rfl rfl (
      r_aload (pc2 := 141) rfl rfl rfl (
      r_aload (pc2 := 142) rfl rfl rfl (
      r_getA (pc2 := 145) rfl rfl (sh_T hs rfl rfl) (sh_A hs rfl rfl) (
      r_callVP (pc2 := 148) (args := [.ref 3, .ref 4]) (st2 := []) rfl rfl rfl rfl rfl rfl (rc_of (sh_T hs rfl rfl)) (rf_ck_most_4 hs (d + 2) g2 ) fun v3 => (
      r_istore (L2 := [some (.ref (bA i0)), some (.ref 3), some (gv a2), some (gv a3), some (gv a4), some (gv 0), some (gv v3), none, none, none]) (pc2 := 150) rfl rfl rfl (
      r_aload (pc2 := 151) rfl rfl rfl (
      r_aload (pc2 := 152) rfl rfl rfl (
      r_getA (pc2 := 155) rfl rfl (sh_T hs rfl rfl) (sh_A hs rfl rfl) (
      r_callVP (pc2 := 158) (args := [.ref 3, .ref 5]) (st2 := []) rfl rfl rfl rfl rfl rfl (rc_of (sh_T hs rfl rfl)) (rf_ck_most_5 hs (d + 2) g2 ) fun v4 => (
      r_istore (L2 := [some (.ref (bA i0)), some (.ref 3), some (gv a2), some (gv a3), some (gv a4), some (gv 0), some (gv v3), some (gv v4), none, none]) (pc2 := 160) rfl rfl rfl (
      r_aload (pc2 := 161) rfl rfl rfl (
      r_aload (pc2 := 162) rfl rfl rfl (
      r_getA (pc2 := 165) rfl rfl (sh_T hs rfl rfl) (sh_A hs rfl rfl) (
      r_callVP (pc2 := 168) (args := [.ref 3, .ref 4]) (st2 := []) rfl rfl rfl rfl rfl rfl (rc_of (sh_T hs rfl rfl)) (rf_ck_least_4 hs (d + 2) g2 ) fun v5 => (
      r_istore (L2 := [some (.ref (bA i0)), some (.ref 3), some (gv a2), some (gv a3), some (gv a4), some (gv 0), some (gv v3), some (gv v4), some (gv v5), none]) (pc2 := 170) rfl rfl rfl (
      r_b2 (rl_cb_made_l170 hs d   i0 v3 v4 hi0 fz 0 v5 g2 _ _ _ _ rfl rfl rfl rfl) (fun v54 g57 c h => match c, h with | _, ⟨j55, j56, hj55, hj56, rfl⟩ => (
      r_aload (pc2 := 229) rfl rfl rfl (
      r_iload (pc2 := 231) rfl rfl rfl (
      r_putI (pc2 := 234) rfl rfl (sh_b0 hs hi0) fun g58 => (
      r_vret rfl rfl)))))))))))))))))))))))))))
noncomputable def cb_init (n : Nat) (g : gm_T) (a b c : Int) : Option gm_T :=
    jl (bw_g g (bA n + 1) (fun _ => 0)) fun (g1 : gm_T) =>
    jl (gm_wI g1 (bA n) 0 a) fun (g2 : gm_T) =>
    jl (gm_wI g2 (bA n) 1 b) fun (g3 : gm_T) =>
    jl (gm_wI g3 (bA n) 2 c) fun (g4 : gm_T) =>
    jl (gm_wI g4 (bA n) 3 (gm_I g4 3 3)) fun (g5 : gm_T) =>
    jl (bw_g g5 (bA n + 2) (g5.1 4)) fun (g6 : gm_T) =>
    jl (bw_g g6 (bA n + 3) (g6.1 5)) fun (g7 : gm_T) =>
    jl (bw_g g7 (bA n + 4) (g7.1 6)) fun (g8 : gm_T) =>
    jl (gm_wI g8 (bA n) 7 (gm_I g8 3 7)) fun (g9 : gm_T) =>
    jl (bw_g g9 (bA n + 5) (g9.1 7)) fun (g10 : gm_T) =>
    jl (bw_g g10 (bA n + 6) (g10.1 8)) fun (g11 : gm_T) =>
    jl (bw_g g11 (bA n + 7) (g11.1 9)) fun (g12 : gm_T) =>
    cb_made g12 n
theorem rf_cb_init {s : gm_S} {n Z : Nat} (d : Nat) (p : bw_p s n 1 Z) (g : gm_T) (a b c : Int) : jr (fun g2 c2 => ∃ s2, bw_p s2 n 8 Z ∧ c2 = some (none, gm_h s2 g2)) (cb_init n g a b c) (jm_cl jm_CD km_n (d + 4) 13 [.ref (bA n), .ref 3, gv a, gv b, gv c] (gm_h s g)) := by
  unfold cb_init
  have hb0 : ∀ {s2 : gm_S} {j : Nat}, bw_p s2 n j Z → 0 < j → bA n < s2.1 ∧ s2.2.2.1 (bA n) = 1 := fun p2 hj => ⟨by have := p2.2.1.1; omega, (p2.2.2.1 0 hj).1⟩
  have e1 : bA n < (bw_s s 14 160 160).1 ∧ (bw_s s 14 160 160).2.2.1 (bA n) = 1 := ⟨by have := p.2.1.1; show bA n < s.1 + 1; omega, (if_neg (by have := p.2.1.1; omega)).trans (hb0 p (by omega)).2⟩
  have p2 : bw_p (bw_a (bw_s s 14 160 160) (bA n) 13 (bA n + 1)) n 2 Z := bw_p2 (sl := 160) p rfl rfl rfl rfl
  exact (r_ent (cd := cd_13) (n := 10) (L0 := [some (.ref (bA n)), some (.ref 3), some (gv a), some (gv b), some (gv c), none, none, none, none, none]) rfl rfl rfl rfl (
      r_aload (pc2 := 1) rfl rfl rfl (
      r_objB (pc2 := 4) rfl rfl rfl (
      r_aload (pc2 := 5) rfl rfl rfl (
      r_ic (x := 160) (pc2 := 8) rfl (by decide) rfl (
      r_newaB (r := bA n + 1) (pc2 := 10) rfl rfl p.2.1.1 fun g1 => (
      r_putAB (pc2 := 13) rfl rfl e1 (
      r_aload (pc2 := 14) rfl rfl rfl (
      r_iload (pc2 := 15) rfl rfl rfl (
      r_putI (pc2 := 18) rfl rfl (hb0 p2 (by omega)) fun _ => (
      r_aload (pc2 := 19) rfl rfl rfl (
      r_iload (pc2 := 20) rfl rfl rfl (
      r_putI (pc2 := 23) rfl rfl (hb0 p2 (by omega)) fun _ => (
      r_aload (pc2 := 24) rfl rfl rfl (
      r_iload (pc2 := 26) rfl rfl rfl (
      r_putI (pc2 := 29) rfl rfl (hb0 p2 (by omega)) fun _ => (
      r_aload (pc2 := 30) rfl rfl rfl (
      r_aload (pc2 := 31) rfl rfl rfl (
      r_getI (pc2 := 34) rfl rfl (sh_T p2.1 rfl rfl) (
      r_putI (pc2 := 37) rfl rfl (hb0 p2 (by omega)) fun _ => (
      r_fldB (j := 2) (f := 4) (q := 4) p2 rfl rfl rfl rfl rfl rfl rfl rfl rfl rfl rfl rfl rfl rfl rfl rfl rfl rfl fun _ _ p3 => (
      r_fldB (j := 3) (f := 5) (q := 5) p3 rfl rfl rfl rfl rfl rfl rfl rfl rfl rfl rfl rfl rfl rfl rfl rfl rfl rfl fun _ _ p4 => (
      r_fldB (j := 4) (f := 6) (q := 6) p4 rfl rfl rfl rfl rfl rfl rfl rfl rfl rfl rfl rfl rfl rfl rfl rfl rfl rfl fun _ _ p5 => (
      r_aload (pc2 := 80) rfl rfl rfl (
      r_aload (pc2 := 81) rfl rfl rfl (
      r_getI (pc2 := 84) rfl rfl (sh_T p5.1 rfl rfl) (
      r_putI (pc2 := 87) rfl rfl (hb0 p5 (by omega)) fun _ => (
      r_fldB (j := 5) (f := 8) (q := 7) p5 rfl rfl rfl rfl rfl rfl rfl rfl rfl rfl rfl rfl rfl rfl rfl rfl rfl rfl fun _ _ p6 => (
      r_fldB (j := 6) (f := 9) (q := 8) p6 rfl rfl rfl rfl rfl rfl rfl rfl rfl rfl rfl rfl rfl rfl rfl rfl rfl rfl fun _ _ p7 => (
      r_fldB (j := 7) (f := 10) (q := 9) p7 rfl rfl rfl rfl rfl rfl rfl rfl rfl rfl rfl rfl rfl rfl rfl rfl rfl rfl fun _ _ p8 => (
      fun z hz => ⟨_, p8, rf_cb_made (bw_p8 p8) d _ n a b c (Nat.lt_succ_self n) z hz⟩)))))))))))))))))))))))))))))))
noncomputable def cf_addBit (n : Nat) (g : gm_T) : Option gm_T :=
    jg (gm_I g 10 1 = (n : Int) ∧ n < 30)
    (jl (gm_wI g 10 1 (gm_I g 10 1 + 1)) fun (g1 : gm_T) => some g1)
theorem rf_cf_addBit {s : gm_S} {n Z : Nat} (d : Nat) (p : bw_p s n 8 (Z + 213 * n)) (g : gm_T) : jr (fun g2 c2 => ∃ s2, bw_F Z s2 (n + 1) ∧ c2 = some (none, gm_h s2 g2)) (cf_addBit n g) (jm_cl jm_CD km_n (d + 1) 30 [.ref 10, .ref (bA n)] (gm_h s g)) := by
  unfold cf_addBit
  refine jr_g fun hq => ?_
  have pF := bw_p9 p hq.2
  have hb0 : bA n < s.1 ∧ s.2.2.1 (bA n) = 1 := ⟨by have := p.2.1.1; omega, (p.2.2.1 0 (by omega)).1⟩
  refine (r_ent (cd := cd_30) (n := 2) (L0 := [some (.ref 10), some (.ref (bA n))]) rfl rfl rfl rfl (
      r_aload (pc2 := 1) rfl rfl rfl (
      r_getI (pc2 := 4) rfl rfl (sh_T p.1 rfl rfl) (
      r_ic (x := 30) (pc2 := 6) rfl ic_30 rfl ?_))))
  have r1 : rg (gm_I g 10 1) := by unfold rg; omega
  have k := r_cge (e := fun (g2 : gm_T) c2 => ∃ s2, bw_F Z s2 (n + 1) ∧ c2 = some (none, gm_h s2 g2)) (A := jl (gm_wI g 10 1 (gm_I g 10 1 + 1)) fun (g1 : gm_T) => some g1) (B := none) (cd := cd_30) (call := jm_cl jm_CD km_n d) (pc := 6) (pc2 := 9) (t := 29) (L := [some (.ref 10), some (.ref (bA n))]) (st := []) (h := gm_h s g) (x := gm_I g 10 1) (y := 30) rfl r1 (rgk rfl) rfl (fun _ =>
      r_aload (pc2 := 10) rfl rfl rfl (
      r_getA (pc2 := 13) rfl rfl (sh_T p.1 rfl rfl) (sh_A p.1 rfl rfl) (
      r_aload (pc2 := 14) rfl rfl rfl (
      r_getI (pc2 := 17) rfl rfl (sh_T p.1 rfl rfl) (
      r_aload (pc2 := 18) rfl rfl rfl (
      r_aastB (pc2 := 19) rfl rfl (sh_T p.1 rfl rfl) (sh_L p.1 rfl rfl) hb0 hq.1 hq.2 (
      r_aload (pc2 := 20) rfl rfl rfl (
      r_dup (pc2 := 21) rfl rfl rfl (
      r_getI (pc2 := 24) rfl rfl (sh_T pF.1 rfl rfl) (
      r_ic (x := 1) (pc2 := 25) rfl ic_1 rfl (
      r_iadd (pc2 := 26) rfl rfl (
      r_putI (pc2 := 29) rfl rfl (sh_T pF.1 rfl rfl) fun g1 => (
      r_vret rfl ⟨_, pF, rfl⟩))))))))))))) (fun _ => jr_none)
  rw [if_pos (by omega)] at k
  exact k
noncomputable def cw_bit (n : Nat) (g : gm_T) (a1 : Int) (a2 : Int) (a3 : Int) : Option (Int × gm_T) :=
    jg (rg a1)
    (if a1 < 1 then
    (jg (gm_I g 10 1 = (n : Int)) (some ((-2), g)))
    else
    (if a1 ≤ 99 then
    (jg (rg a2)
    (if a2 < (-1) then
    (jg (gm_I g 10 1 = (n : Int)) (some ((-2), g)))
    else
    (if a2 ≤ 3 then
    (jg (rg a3)
    (if a3 < 0 then
    (jg (gm_I g 10 1 = (n : Int)) (some ((-2), g)))
    else
    (if a3 ≤ 9 then
    (jg (rg (gm_I g 10 1))
    (if (gm_I g 10 1) = 30 then
    (jg (gm_I g 10 1 = (n : Int)) (some ((-4), g)))
    else
    (jb2 (ck_readTape g) fun (v5 : Int) (g6 : gm_T) =>
    jl (gm_wI g6 1 0 0) fun (g7 : gm_T) =>
    jg (rg v5)
    (if v5 < 0 then
    (jb1 (ck_isRing g7) fun (v9 : Int) =>
    jg (rg v9)
    (if v9 = 0 then
    (jg (gm_I g7 10 1 = (n : Int)) (some ((-5), g7)))
    else
    (jb1 (ck_hasGoodSpots g7) fun (v11 : Int) =>
    jg (rg v11)
    (if v11 = 0 then
    (jg (gm_I g7 10 1 = (n : Int)) (some ((-6), g7)))
    else
    (jl ((gm_I g7 10 1)) fun (v13 : Int) =>
    jl (bw_g g7 (bA n) (fun _ => 0)) fun (g14 : gm_T) =>
    jb1 (cb_init n g14 a1 a2 a3) fun (g15 : gm_T) =>
    jb1 (cf_addBit n g15) fun (g16 : gm_T) =>
    jb1 (cj_addBit g16 v13) fun (g17 : gm_T) =>
    jg (gm_I g17 10 1 = ((n + 1 : Nat) : Int)) (some (v13, g17)))))))
    else
    (jg (gm_I g7 10 1 = (n : Int)) (some (((-10) - v5), g7)))))))
    else
    (jg (gm_I g 10 1 = (n : Int)) (some ((-2), g))))))
    else
    (jg (gm_I g 10 1 = (n : Int)) (some ((-2), g))))))
    else
    (jg (gm_I g 10 1 = (n : Int)) (some ((-2), g)))))
theorem rf_cw_bit {s : gm_S} {n Z : Nat} (hF : bw_F Z s n) (d : Nat) (g : gm_T) (a1 : Int) (a2 : Int) (a3 : Int)  : jr (bw_e Z) (cw_bit n g a1 a2 a3) (jm_cl jm_CD km_n (d + 6) 124 [.ref 0, gv a1, gv a2, gv a3] (gm_h s g)) := by
  unfold cw_bit
  have hs := hF.1
  have p1 := bw_p1 hF
  have e1 : bA n < (bw_s s 1 0 14).1 ∧ (bw_s s 1 0 14).2.2.1 (bA n) = 1 := ⟨by have := p1.2.1.1; omega, (p1.2.2.1 0 (by omega)).1⟩
  exact (r_ent (cd := cd_124) (n := 6) (L0 := [some (.ref 0), some (gv a1), some (gv a2), some (gv a3), none, none]) rfl rfl rfl rfl (
      r_iload (pc2 := 1) rfl rfl rfl (
      r_ic (x := 1) (pc2 := 2) rfl ic_1 rfl (
      jr_g fun h1 => r_clt (pc2 := 5) (t := 31) rfl h1 (rgk rfl) rfl (fun _ =>
      r_ic (x := -2) (pc2 := 33) rfl ic_m2 rfl (
      jr_g fun hq => r_iret rfl ⟨s, n, hF, hq, rfl⟩)) (fun _ =>
      r_iload (pc2 := 6) rfl rfl rfl (
      r_ic (x := 99) (pc2 := 8) rfl ic_99 rfl (
      r_cgt (pc2 := 11) (t := 31) rfl h1 (rgk rfl) rfl (fun _ =>
      r_iload (pc2 := 12) rfl rfl rfl (
      r_ic (x := -1) (pc2 := 13) rfl ic_m1 rfl (
      jr_g fun h2 => r_clt (pc2 := 16) (t := 31) rfl h2 (rgk rfl) rfl (fun _ =>
      r_ic (x := -2) (pc2 := 33) rfl ic_m2 rfl (
      jr_g fun hq => r_iret rfl ⟨s, n, hF, hq, rfl⟩)) (fun _ =>
      r_iload (pc2 := 17) rfl rfl rfl (
      r_ic (x := 3) (pc2 := 18) rfl ic_3 rfl (
      r_cgt (pc2 := 21) (t := 31) rfl h2 (rgk rfl) rfl (fun _ =>
      r_iload (pc2 := 22) rfl rfl rfl (
      jr_g fun h3 => r_iflt (pc2 := 25) (t := 31) rfl h3 rfl (fun _ =>
      r_ic (x := -2) (pc2 := 33) rfl ic_m2 rfl (
      jr_g fun hq => r_iret rfl ⟨s, n, hF, hq, rfl⟩)) (fun _ =>
      r_iload (pc2 := 26) rfl rfl rfl (
      r_ic (x := 9) (pc2 := 28) rfl ic_9 rfl (
      r_cle (pc2 := 31) (t := 34) rfl h3 (rgk rfl) rfl (fun _ =>
      r_aload (pc2 := 35) rfl rfl rfl (
      r_getA (pc2 := 38) rfl rfl (sh_T hs rfl rfl) (sh_A hs rfl rfl) (
      r_getI (pc2 := 41) rfl rfl (sh_T hs rfl rfl) (
      r_ic (x := 30) (pc2 := 43) rfl ic_30 rfl (
      jr_g fun h4 => r_cne (pc2 := 46) (t := 49) rfl h4 (rgk rfl) rfl (fun _ =>
      r_ic (x := -4) (pc2 := 48) rfl ic_m4 rfl (
      jr_g fun hq => r_iret rfl ⟨s, n, hF, hq, rfl⟩)) (fun _ =>
      r_aload (pc2 := 50) rfl rfl rfl (
      r_getA (pc2 := 53) rfl rfl (sh_T hs rfl rfl) (sh_A hs rfl rfl) (
      r_callVI (pc2 := 56) (args := [.ref 3]) (st2 := []) rfl rfl rfl rfl rfl rfl (rc_of (sh_T hs rfl rfl)) (rf_ck_readTape hs d g ) fun v5 g6 => (
      r_istore (L2 := [some (.ref 0), some (gv a1), some (gv a2), some (gv a3), some (gv v5), none]) (pc2 := 58) rfl rfl rfl (
      r_aload (pc2 := 59) rfl rfl rfl (
      r_getA (pc2 := 62) rfl rfl (sh_T hs rfl rfl) (sh_A hs rfl rfl) (
      r_ic (x := 0) (pc2 := 63) rfl ic_0 rfl (
      r_putI (pc2 := 66) rfl rfl (sh_T hs rfl rfl) fun g7 => (
      r_iload (pc2 := 68) rfl rfl rfl (
      jr_g fun h8 => r_iflt (pc2 := 71) (t := 77) rfl h8 rfl (fun _ =>
      r_aload (pc2 := 78) rfl rfl rfl (
      r_getA (pc2 := 81) rfl rfl (sh_T hs rfl rfl) (sh_A hs rfl rfl) (
      r_callVP (pc2 := 84) (args := [.ref 3]) (st2 := []) rfl rfl rfl rfl rfl rfl (rc_of (sh_T hs rfl rfl)) (rf_ck_isRing hs d g7 ) fun v9 => (
      jr_g fun h10 => r_ifne (pc2 := 87) (t := 90) rfl h10 rfl (fun _ =>
      r_ic (x := -5) (pc2 := 89) rfl ic_m5 rfl (
      jr_g fun hq => r_iret rfl ⟨s, n, hF, hq, rfl⟩)) (fun _ =>
      r_aload (pc2 := 91) rfl rfl rfl (
      r_getA (pc2 := 94) rfl rfl (sh_T hs rfl rfl) (sh_A hs rfl rfl) (
      r_callVP (pc2 := 97) (args := [.ref 3]) (st2 := []) rfl rfl rfl rfl rfl rfl (rc_of (sh_T hs rfl rfl)) (rf_ck_hasGoodSpots hs (d + 2) g7 ) fun v11 => (
      jr_g fun h12 => r_ifne (pc2 := 100) (t := 103) rfl h12 rfl (fun _ =>
      r_ic (x := -6) (pc2 := 102) rfl ic_m6 rfl (
      jr_g fun hq => r_iret rfl ⟨s, n, hF, hq, rfl⟩)) (fun _ =>
      r_aload (pc2 := 104) rfl rfl rfl (
      r_getA (pc2 := 107) rfl rfl (sh_T hs rfl rfl) (sh_A hs rfl rfl) (
      r_getI (pc2 := 110) rfl rfl (sh_T hs rfl rfl) (
      r_istoreL (L3 := fun v13 => [some (.ref 0), some (gv a1), some (gv a2), some (gv a3), some (gv v5), some (gv v13)]) (pc2 := 112) rfl rfl (fun _ => rfl) fun v13 => (
      r_aload (pc2 := 113) rfl rfl rfl (
      r_getA (pc2 := 116) rfl rfl (sh_T hs rfl rfl) (sh_A hs rfl rfl) (
      r_newB (r := bA n) (pc2 := 119) rfl rfl hF.2.1 fun g14 => (
      r_dup (pc2 := 120) rfl rfl rfl (
      r_aload (pc2 := 121) rfl rfl rfl (
      r_getA (pc2 := 124) rfl rfl (sh_T p1.1 rfl rfl) (sh_A p1.1 rfl rfl) (
      r_iload (pc2 := 125) rfl rfl rfl (
      r_iload (pc2 := 126) rfl rfl rfl (
      r_iload (pc2 := 127) rfl rfl rfl (
      r_callVW (pc2 := 130) (args := [.ref (bA n), .ref 3, gv a1, gv a2, gv a3]) (st2 := [.ref (bA n), .ref 10]) rfl rfl rfl rfl rfl rfl (rc_of e1) (rf_cb_init (d + 1) p1 g14 a1 a2 a3) fun s15 g15 p15 => (
      r_callVW (pc2 := 133) (args := [.ref 10, .ref (bA n)]) (st2 := []) rfl rfl rfl rfl rfl rfl (rc_of (sh_T p15.1 rfl rfl)) (rf_cf_addBit (d + 4) p15 g15) fun s16 g16 p16 => (
      r_aload (pc2 := 134) rfl rfl rfl (
      r_getA (pc2 := 137) rfl rfl (sh_T p16.1 rfl rfl) (sh_A p16.1 rfl rfl) (
      r_iload (pc2 := 139) rfl rfl rfl (
      r_callVV (pc2 := 142) (args := [.ref 14, gv v13]) (st2 := []) rfl rfl rfl rfl rfl rfl (rc_of (sh_T p16.1 rfl rfl)) (rf_cj_addBit p16.1 (d + 4) g16 v13) fun g17 => (
      r_iload (pc2 := 144) rfl rfl rfl (
      jr_g fun hq => r_iret rfl ⟨s16, n + 1, p16, hq, rfl⟩))))))))))))))))))))))))))))) (fun _ =>
      r_ic (x := -10) (pc2 := 73) rfl ic_m10 rfl (
      r_iload (pc2 := 75) rfl rfl rfl (
      r_isub (pc2 := 76) rfl rfl (
      jr_g fun hq => r_iret rfl ⟨s, n, hF, hq, rfl⟩))))))))))))))))))) (fun _ =>
      r_ic (x := -2) (pc2 := 33) rfl ic_m2 rfl (
      jr_g fun hq => r_iret rfl ⟨s, n, hF, hq, rfl⟩))))))) (fun _ =>
      r_ic (x := -2) (pc2 := 33) rfl ic_m2 rfl (
      jr_g fun hq => r_iret rfl ⟨s, n, hF, hq, rfl⟩)))))))) (fun _ =>
      r_ic (x := -2) (pc2 := 33) rfl ic_m2 rfl (
      jr_g fun hq => r_iret rfl ⟨s, n, hF, hq, rfl⟩)))))))))
