/-! New cells, switches, calls, ends. -/
def jm_tk (pc : Int) : Int → List Int → List (Int32 × Nat) → Bool
  | _, [], [] => true
  | lo, o :: os, (v, t) :: ps => decide (v.toInt = lo) && decide (pc + o = (t : Int)) && jm_tk pc (lo + 1) os ps
  | _, _, _ => false
theorem jm_tk_ok (pc : Int) (d : Nat) (x : Int32) : ∀ (os : List Int) (lo : Int) (ps : List (Int32 × Nat)), jm_tk pc lo os ps = true → ((x.toInt < lo ∨ lo + os.length ≤ x.toInt) → jm_sw d x ps = d) ∧ ((lo ≤ x.toInt ∧ x.toInt < lo + os.length) → ∃ off, os[(x.toInt - lo).toNat]? = some off ∧ pc + off = (jm_sw d x ps : Int)) := by
  intro os
  induction os with
  | nil =>
    intro lo ps h
    cases ps with
    | nil => exact ⟨fun _ => rfl, fun q => by simp at q; omega⟩
    | cons a b => cases h
  | cons o os ih =>
    intro lo ps h
    cases ps with
    | nil => cases h
    | cons a ps =>
      obtain ⟨v, t⟩ := a
      unfold jm_tk at h
      simp only [Bool.and_eq_true, decide_eq_true_eq] at h
      obtain ⟨⟨h1, h2⟩, h3⟩ := h
      obtain ⟨i1, i2⟩ := ih (lo + 1) ps h3
      unfold jm_sw
      constructor
      · intro q
        have hne : ¬ x = v := fun e => by rw [e, h1] at q; simp at q; omega
        rw [if_neg hne]
        exact i1 (by simp at q; omega)
      · intro q
        by_cases e : x = v
        · rw [if_pos e]
          exact ⟨o, by rw [e, h1, Int.sub_self]; rfl, h2⟩
        · rw [if_neg e]
          have hne : ¬ x.toInt = lo := fun z => e (Int32.toInt_inj.mp (z.trans h1.symm))
          obtain ⟨off, g1, g2⟩ := i2 (by simp at q; omega)
          refine ⟨off, ?_, g2⟩
          rw [show (x.toInt - lo).toNat = (x.toInt - (lo + 1)).toNat + 1 by omega, List.getElem?_cons_succ]
          exact g1
def jm_lk (pc : Int) : List (Int × Int) → List (Int32 × Nat) → Bool
  | [], [] => true
  | (a, o) :: os, (v, t) :: ps => decide (v.toInt = a) && decide (pc + o = (t : Int)) && jm_lk pc os ps
  | _, _ => false
theorem jm_lk_ok (pc dflt : Int) (d : Nat) (hd : pc + dflt = (d : Int)) (x : Int32) : ∀ (os : List (Int × Int)) (ps : List (Int32 × Nat)), jm_lk pc os ps = true → pc + Op.lookupswitch.offset os dflt x.toInt = (jm_sw d x ps : Int) := by
  intro os
  induction os with
  | nil =>
    intro ps h
    cases ps with
    | nil => exact hd
    | cons a b => cases h
  | cons o os ih =>
    intro ps h
    cases ps with
    | nil => cases h
    | cons a ps =>
      obtain ⟨v, t⟩ := a
      obtain ⟨b, o⟩ := o
      unfold jm_lk at h
      simp only [Bool.and_eq_true, decide_eq_true_eq] at h
      obtain ⟨⟨h1, h2⟩, h3⟩ := h
      unfold jm_sw
      by_cases e : x = v
      · rw [if_pos e, Op.lookupswitch.offset_cons, if_pos (by first | exact (by rw [e, h1]) | (rw [e, h1]; rfl) | (subst e; exact h1))]
        exact h2
      · rw [if_neg e, lv_osw e h1]
        exact ih ps h3
theorem jm_warm1 {w : Cond} {args : Array Value} {s : State} (hg : jm_sp w = true) (hw : w.before args s = true) (a' : Array Value) (U : State) (hW : s.WarmedH U.vm) : w.before a' U = true := by
  have gen : goodWord w = true → w.before a' U = true := fun h => word_at hW (good_of_word h) hw
  cases w with
  | methodLinkNest a i y h => exact va_Nw.use rfl (va_Nw.warmM hW (va_Nw.of rfl hw))
  | castable a b => exact va_Nw.use rfl (va_Nw.warmC hW (va_Nw.of rfl hw))
  | arrayOver t =>
    cases t with
    | object C => exact va_AO.use (va_AO.moved hW.alike (va_AO.of hw))
    | _ => exact gen hg
  | _ => exact gen hg
theorem jm_warm {args : Array Value} {s : State} (hts : ∀ w ∈ jm_tb, w.before args s = true) : ∀ w ∈ jm_tb, ∀ (a' : Array Value) (U : State), s.WarmedH U.vm → w.before a' U = true := fun w hw a' U hW => jm_warm1 (List.mem_filter.mp hw).2 (hts w hw) a' U hW
theorem jm_as_ex {ρ : Nat → Nat} {n q nL : Nat} {ls : Array Slot} {L : jm_Lo} (hL : jm_cL n L) (hl : lv_has ls nL (jm_as ρ L)) : lv_has ls nL (jm_as (jm_ex ρ n q) L) := jm_has_of hl fun i v hv => jm_as_mem.mpr ⟨v, hv, jm_cv_ex (hL v (List.mem_of_getElem? hv))⟩
theorem jm_T_al {h : jm_H} {tag len sl : Nat} {fi : Nat → Int32} : jm_T (jm_al h tag len sl fi) (jm_N h) = tag := if_pos rfl
/-- the real state behind a new cell -/
theorem jm_rel_al {D : va_G} {aC : Nat → ClassId} {A : Nat → Prop} {ρ0 : Nat → Nat} {n0 nL : Nat} {s : State} {ρ : Nat → Nat} {H1 : Heap} {locs : List Loc} {ls : Array Slot} {L : jm_Lo} {h : jm_H} {tag len sl : Nat} {fi : Nat → Int32} {q : Nat} {x : va_E} (hL : jm_cL (jm_N h) L) (hH : jm_cH h) (hn : n0 ≤ jm_N h) (hx : jm_ce aC (jm_ex ρ (jm_N h) q) (jm_al h tag len sl fi) (jm_N h) = x) (hρ : ∀ i, i < n0 → ρ i = ρ0 i) (hP : va_P D jm_cls (jm_wl aC ρ h ++ [(q, x)]) H1) (hD : va_D A (jm_wl aC ρ h ++ [(q, x)])) (hS : va_S A s.heap H1 locs) (hl : lv_has ls nL (jm_as ρ L)) (hlen : L.length = nL) : jm_rel D aC A ρ0 n0 nL s (jm_ex ρ (jm_N h) q) H1 locs ls L (jm_al h tag len sl fi) := by
  have hw := jm_wl_al (aC := aC) (ρ := ρ) hH tag len sl fi q
  rw [hx] at hw
  exact ⟨fun i hi => (jm_ex_lt (Nat.lt_of_lt_of_le hi hn)).trans (hρ i hi), hw ▸ hP, hw ▸ hD, hS, jm_as_ex hL hl, hlen⟩
theorem jm_sub1 {a b : Nat} (h : b ≤ a) : a + 1 - b = a - b + 1 := by omega
theorem jm_subk {a b k : Nat} (h : b ≤ a) : a + k - b = a - b + k := by omega
def kc_n (own : String) (idx ci n : Nat) : Prop := ∃ (C : String) (T : u_T) (ty : Nat → FieldType), kc_ok ci C T n ty ∧ Cond.classLink own idx C ∈ jm_tb ∧ Cond.instantiable C n ∈ jm_tb ∧ Cond.initialized C ∈ jm_tb ∧ ∀ j, j < n → defaultValue (ty j) = vp_V ((jm_kd ci).map (fun kind => if kind = 1 then .long 0 else if kind = 2 then .null else .int 0)) j

theorem sn_new {own : String} {cc : ByteArray} {nL : Nat} {ret : Option FieldType} {ini : Bool} {pc : Nat} {idx ci n : Nat} (hd : decode cc pc = .ok (.new idx, 3)) (hf : kc_n own idx ci n) : jm_snd own cc nL ret ini pc (op_new ci n) := by
  intro p l e s m args below meth c D aC A ρ0 n0 s0 d call rF hF hcx hcp hcs L st h hL hS hH hn hs
  obtain ⟨hx, hb, hml, hown, hts, hr, hlocks, hini, hK, hA⟩ := hcx
  refine ⟨fun pc' L' st' h1 hg hN hSl k ρ H locs ls hrel => ?_, fun hg ρ H locs ls hrel => ?_⟩
  · obtain ⟨hρ, hP, hD, hSt, hl, hlen⟩ := id hrel
    unfold op_new jm_go at hg
    obtain ⟨C, T, ty, ⟨hc, hin, hty, hnm, hci, hTC, hkl⟩, hcl, hinst, hini2, hdf⟩ := hf
    cases hg
    have hN1 : jm_N h + 1 ≤ jm_N hF := hN
    have hS1 : jm_S h + n ≤ jm_S hF := hSl
    refine va_new (C := C) (T := T) (N := n) hx hb hts hin ty hty hown (hts _ hcl) (hts _ hinst) (hts _ hini2) hK hP hD hSt hA hc hdf (by show jm_N h - n0 + 1 ≤ jm_N hF - n0; omega) (by show jm_S h - s0 + n ≤ jm_S hF - s0; omega) hd (fun q H1 hP1 hD1 hS1 => ?_)
    have hx2 : jm_ce aC (jm_ex ρ (jm_N h) q) (jm_al h ci 0 n (fun _ => 0)) (jm_N h) = .inr (ci, (jm_kd ci).map (fun kind => if kind = 1 then .long 0 else if kind = 2 then .null else .int 0)) := by
      rw [jm_ce_ob (ci := ci) jm_T_al hci]
      congr 2
      refine List.ext_getElem? fun j => ?_
      rw [List.getElem?_mapIdx, List.getElem?_map]
      cases (jm_kd ci)[j]? with
      | none => rfl
      | some kd =>
        refine congrArg some ?_
        unfold jm_fv
        rw [show jm_J (jm_al h ci 0 n (fun _ => 0)) (jm_N h) j = 0 from congrFun (if_pos rfl : (if jm_N h = jm_N h then (fun _ => (0 : Int64)) else jm_J h (jm_N h)) = _) j, show jm_A (jm_al h ci 0 n (fun _ => 0)) (jm_N h) j = none from congrFun (if_pos rfl : (if jm_N h = jm_N h then (fun _ => (none : Option Nat)) else jm_A h (jm_N h)) = _) j, show jm_I (jm_al h ci 0 n (fun _ => 0)) (jm_N h) j = 0 from congrFun (if_pos rfl : (if jm_N h = jm_N h then (fun _ => (0 : Int32)) else jm_I h (jm_N h)) = _) j]
        rfl
    have kk := k (jm_ex ρ (jm_N h) q) H1 locs ls (jm_rel_al hL hH hn hx2 hρ hP1 hD1 hS1 hl hlen)
    rw [List.map_cons, jm_cs_ex hS, show jm_cv (jm_ex ρ (jm_N h) q) (.ref (jm_N h)) = .ref q from congrArg Value.ref jm_ex_self, show jm_N (jm_al h ci 0 n (fun _ => 0)) - n0 = jm_N h - n0 + 1 from jm_sub1 hn, show jm_S (jm_al h ci 0 n (fun _ => 0)) - s0 = jm_S h - s0 + n from jm_subk hs] at kk
    exact kk
  · unfold op_new jm_go at hg
    (repeat' split at hg) <;> cases hg

theorem sn_newI {own : String} {cc : ByteArray} {nL : Nat} {ret : Option FieldType} {ini : Bool} {pc : Nat} (hd : decode cc pc = .ok (.newarray .int, 2)) (hm : Cond.arrayClass .int ∈ jm_tb) : jm_snd own cc nL ret ini pc (op_newa 13 2) := by
  intro p l e s m args below meth c D aC A ρ0 n0 s0 d call rF hF hcx hcp hcs L st h hL hS hH hn hs
  obtain ⟨hx, hb, hml, hown, hts, hr, hlocks, hini, hK, hA⟩ := hcx
  refine ⟨fun pc' L' st' h1 hg hN hSl k ρ H locs ls hrel => ?_, fun hg ρ H locs ls hrel => ?_⟩
  · obtain ⟨hρ, hP, hD, hSt, hl, hlen⟩ := id hrel
    unfold op_newa jm_go at hg
    split at hg
    · split at hg
      · rename_i n st2 hgd
        cases hg
        have hN1 : jm_N h + 1 ≤ jm_N hF := hN
        have hS1 : jm_S h + n.toNatClampNeg ≤ jm_S hF := hSl
        refine va_newa (atype := .int) (a0 := (n.toNatClampNeg, .inl (fun _ => 0))) (N' := n.toNatClampNeg) hx hb (hts _ hm) rfl hK hP hD hSt hA (fun cA => rfl) (Int32.not_lt.mpr hgd.1) rfl (by have := hgd.2; show n.toNatClampNeg * 4 ≤ 536870912; omega) (by show jm_N h - n0 + 1 ≤ jm_N hF - n0; omega) (by show jm_S h - s0 + n.toNatClampNeg ≤ jm_S hF - s0; omega) hd (fun q cA H1 hK1 hP1 hD1 hS1 => ?_)
        have hcA : cA = aC 13 := Option.some.inj ((hK1.2 5 (cA, .int) rfl).2.symm.trans (hK.2 1 (aC 13, .int) rfl).2)
        subst hcA
        have hx2 : jm_ce aC (jm_ex ρ (jm_N h) q) (jm_al h 13 n.toNatClampNeg n.toNatClampNeg (fun _ => 0)) (jm_N h) = .inl (aC 13, (n.toNatClampNeg, .inl (fun _ => 0))) := by
          rw [jm_ce_iz (tag := 13) jm_T_al (by decide)]
          rw [show jm_L (jm_al h 13 n.toNatClampNeg n.toNatClampNeg (fun _ => 0)) (jm_N h) = n.toNatClampNeg from if_pos rfl]
          rw [show jm_I (jm_al h 13 n.toNatClampNeg n.toNatClampNeg (fun _ => 0)) (jm_N h) = (fun _ => 0) from if_pos rfl]
        have kk := k (jm_ex ρ (jm_N h) q) H1 locs ls (jm_rel_al hL hH hn hx2 hρ hP1 hD1 hS1 hl hlen)
        rw [List.map_cons, jm_cs_ex (jm_cS_cons.mp hS).2, show jm_cv (jm_ex ρ (jm_N h) q) (.ref (jm_N h)) = .ref q from congrArg Value.ref jm_ex_self, show jm_N (jm_al h 13 n.toNatClampNeg n.toNatClampNeg (fun _ => 0)) - n0 = jm_N h - n0 + 1 from jm_sub1 hn, show jm_S (jm_al h 13 n.toNatClampNeg n.toNatClampNeg (fun _ => 0)) - s0 = jm_S h - s0 + n.toNatClampNeg from jm_subk hs] at kk
        exact kk
      · cases hg
    · cases hg
  · unfold op_newa jm_go at hg
    (repeat' split at hg) <;> cases hg

theorem sn_newB {own : String} {cc : ByteArray} {nL : Nat} {ret : Option FieldType} {ini : Bool} {pc : Nat} (hd : decode cc pc = .ok (.newarray .byte, 2)) (hm : Cond.arrayClass .byte ∈ jm_tb) : jm_snd own cc nL ret ini pc (op_newa 12 2) := by
  intro p l e s m args below meth c D aC A ρ0 n0 s0 d call rF hF hcx hcp hcs L st h hL hS hH hn hs
  obtain ⟨hx, hb, hml, hown, hts, hr, hlocks, hini, hK, hA⟩ := hcx
  refine ⟨fun pc' L' st' h1 hg hN hSl k ρ H locs ls hrel => ?_, fun hg ρ H locs ls hrel => ?_⟩
  · obtain ⟨hρ, hP, hD, hSt, hl, hlen⟩ := id hrel
    unfold op_newa jm_go at hg
    split at hg
    · split at hg
      · rename_i n st2 hgd
        cases hg
        have hN1 : jm_N h + 1 ≤ jm_N hF := hN
        have hS1 : jm_S h + n.toNatClampNeg ≤ jm_S hF := hSl
        refine va_newa (atype := .byte) (a0 := (n.toNatClampNeg, .inl (fun _ => 0))) (N' := n.toNatClampNeg) hx hb (hts _ hm) rfl hK hP hD hSt hA (fun cA => rfl) (Int32.not_lt.mpr hgd.1) rfl (by have := hgd.2; show n.toNatClampNeg * 1 ≤ 536870912; omega) (by show jm_N h - n0 + 1 ≤ jm_N hF - n0; omega) (by show jm_S h - s0 + n.toNatClampNeg ≤ jm_S hF - s0; omega) hd (fun q cA H1 hK1 hP1 hD1 hS1 => ?_)
        have hcA : cA = aC 12 := Option.some.inj ((hK1.2 5 (cA, .byte) rfl).2.symm.trans (hK.2 0 (aC 12, .byte) rfl).2)
        subst hcA
        have hx2 : jm_ce aC (jm_ex ρ (jm_N h) q) (jm_al h 12 n.toNatClampNeg n.toNatClampNeg (fun _ => 0)) (jm_N h) = .inl (aC 12, (n.toNatClampNeg, .inl (fun _ => 0))) := by
          rw [jm_ce_iz (tag := 12) jm_T_al (by decide)]
          rw [show jm_L (jm_al h 12 n.toNatClampNeg n.toNatClampNeg (fun _ => 0)) (jm_N h) = n.toNatClampNeg from if_pos rfl]
          rw [show jm_I (jm_al h 12 n.toNatClampNeg n.toNatClampNeg (fun _ => 0)) (jm_N h) = (fun _ => 0) from if_pos rfl]
        have kk := k (jm_ex ρ (jm_N h) q) H1 locs ls (jm_rel_al hL hH hn hx2 hρ hP1 hD1 hS1 hl hlen)
        rw [List.map_cons, jm_cs_ex (jm_cS_cons.mp hS).2, show jm_cv (jm_ex ρ (jm_N h) q) (.ref (jm_N h)) = .ref q from congrArg Value.ref jm_ex_self, show jm_N (jm_al h 12 n.toNatClampNeg n.toNatClampNeg (fun _ => 0)) - n0 = jm_N h - n0 + 1 from jm_sub1 hn, show jm_S (jm_al h 12 n.toNatClampNeg n.toNatClampNeg (fun _ => 0)) - s0 = jm_S h - s0 + n.toNatClampNeg from jm_subk hs] at kk
        exact kk
      · cases hg
    · cases hg
  · unfold op_newa jm_go at hg
    (repeat' split at hg) <;> cases hg

theorem sn_newZ {own : String} {cc : ByteArray} {nL : Nat} {ret : Option FieldType} {ini : Bool} {pc : Nat} (hd : decode cc pc = .ok (.newarray .boolean, 2)) (hm : Cond.arrayClass .boolean ∈ jm_tb) : jm_snd own cc nL ret ini pc (op_newa 15 2) := by
  intro p l e s m args below meth c D aC A ρ0 n0 s0 d call rF hF hcx hcp hcs L st h hL hS hH hn hs
  obtain ⟨hx, hb, hml, hown, hts, hr, hlocks, hini, hK, hA⟩ := hcx
  refine ⟨fun pc' L' st' h1 hg hN hSl k ρ H locs ls hrel => ?_, fun hg ρ H locs ls hrel => ?_⟩
  · obtain ⟨hρ, hP, hD, hSt, hl, hlen⟩ := id hrel
    unfold op_newa jm_go at hg
    split at hg
    · split at hg
      · rename_i n st2 hgd
        cases hg
        have hN1 : jm_N h + 1 ≤ jm_N hF := hN
        have hS1 : jm_S h + n.toNatClampNeg ≤ jm_S hF := hSl
        refine va_newa (atype := .boolean) (a0 := (n.toNatClampNeg, .inl (fun _ => 0))) (N' := n.toNatClampNeg) hx hb (hts _ hm) rfl hK hP hD hSt hA (fun cA => rfl) (Int32.not_lt.mpr hgd.1) rfl (by have := hgd.2; show n.toNatClampNeg * 1 ≤ 536870912; omega) (by show jm_N h - n0 + 1 ≤ jm_N hF - n0; omega) (by show jm_S h - s0 + n.toNatClampNeg ≤ jm_S hF - s0; omega) hd (fun q cA H1 hK1 hP1 hD1 hS1 => ?_)
        have hcA : cA = aC 15 := Option.some.inj ((hK1.2 5 (cA, .boolean) rfl).2.symm.trans (hK.2 3 (aC 15, .boolean) rfl).2)
        subst hcA
        have hx2 : jm_ce aC (jm_ex ρ (jm_N h) q) (jm_al h 15 n.toNatClampNeg n.toNatClampNeg (fun _ => 0)) (jm_N h) = .inl (aC 15, (n.toNatClampNeg, .inl (fun _ => 0))) := by
          rw [jm_ce_iz (tag := 15) jm_T_al (by decide)]
          rw [show jm_L (jm_al h 15 n.toNatClampNeg n.toNatClampNeg (fun _ => 0)) (jm_N h) = n.toNatClampNeg from if_pos rfl]
          rw [show jm_I (jm_al h 15 n.toNatClampNeg n.toNatClampNeg (fun _ => 0)) (jm_N h) = (fun _ => 0) from if_pos rfl]
        have kk := k (jm_ex ρ (jm_N h) q) H1 locs ls (jm_rel_al hL hH hn hx2 hρ hP1 hD1 hS1 hl hlen)
        rw [List.map_cons, jm_cs_ex (jm_cS_cons.mp hS).2, show jm_cv (jm_ex ρ (jm_N h) q) (.ref (jm_N h)) = .ref q from congrArg Value.ref jm_ex_self, show jm_N (jm_al h 15 n.toNatClampNeg n.toNatClampNeg (fun _ => 0)) - n0 = jm_N h - n0 + 1 from jm_sub1 hn, show jm_S (jm_al h 15 n.toNatClampNeg n.toNatClampNeg (fun _ => 0)) - s0 = jm_S h - s0 + n.toNatClampNeg from jm_subk hs] at kk
        exact kk
      · cases hg
    · cases hg
  · unfold op_newa jm_go at hg
    (repeat' split at hg) <;> cases hg

theorem sn_newJ {own : String} {cc : ByteArray} {nL : Nat} {ret : Option FieldType} {ini : Bool} {pc : Nat} (hd : decode cc pc = .ok (.newarray .long, 2)) (hm : Cond.arrayClass .long ∈ jm_tb) : jm_snd own cc nL ret ini pc (op_newa 14 2) := by
  intro p l e s m args below meth c D aC A ρ0 n0 s0 d call rF hF hcx hcp hcs L st h hL hS hH hn hs
  obtain ⟨hx, hb, hml, hown, hts, hr, hlocks, hini, hK, hA⟩ := hcx
  refine ⟨fun pc' L' st' h1 hg hN hSl k ρ H locs ls hrel => ?_, fun hg ρ H locs ls hrel => ?_⟩
  · obtain ⟨hρ, hP, hD, hSt, hl, hlen⟩ := id hrel
    unfold op_newa jm_go at hg
    split at hg
    · split at hg
      · rename_i n st2 hgd
        cases hg
        have hN1 : jm_N h + 1 ≤ jm_N hF := hN
        have hS1 : jm_S h + n.toNatClampNeg ≤ jm_S hF := hSl
        refine va_newa (atype := .long) (a0 := (n.toNatClampNeg, .inr (.inl (fun _ => 0)))) (N' := n.toNatClampNeg) hx hb (hts _ hm) rfl hK hP hD hSt hA (fun cA => rfl) (Int32.not_lt.mpr hgd.1) rfl (by have := hgd.2; show n.toNatClampNeg * 8 ≤ 536870912; omega) (by show jm_N h - n0 + 1 ≤ jm_N hF - n0; omega) (by show jm_S h - s0 + n.toNatClampNeg ≤ jm_S hF - s0; omega) hd (fun q cA H1 hK1 hP1 hD1 hS1 => ?_)
        have hcA : cA = aC 14 := Option.some.inj ((hK1.2 5 (cA, .long) rfl).2.symm.trans (hK.2 2 (aC 14, .long) rfl).2)
        subst hcA
        have hx2 : jm_ce aC (jm_ex ρ (jm_N h) q) (jm_al h 14 n.toNatClampNeg n.toNatClampNeg (fun _ => 0)) (jm_N h) = .inl (aC 14, (n.toNatClampNeg, .inr (.inl (fun _ => 0)))) := by
          rw [jm_ce_j jm_T_al]
          rw [show jm_L (jm_al h 14 n.toNatClampNeg n.toNatClampNeg (fun _ => 0)) (jm_N h) = n.toNatClampNeg from if_pos rfl]
          rw [show jm_J (jm_al h 14 n.toNatClampNeg n.toNatClampNeg (fun _ => 0)) (jm_N h) = (fun _ => 0) from if_pos rfl]
        have kk := k (jm_ex ρ (jm_N h) q) H1 locs ls (jm_rel_al hL hH hn hx2 hρ hP1 hD1 hS1 hl hlen)
        rw [List.map_cons, jm_cs_ex (jm_cS_cons.mp hS).2, show jm_cv (jm_ex ρ (jm_N h) q) (.ref (jm_N h)) = .ref q from congrArg Value.ref jm_ex_self, show jm_N (jm_al h 14 n.toNatClampNeg n.toNatClampNeg (fun _ => 0)) - n0 = jm_N h - n0 + 1 from jm_sub1 hn, show jm_S (jm_al h 14 n.toNatClampNeg n.toNatClampNeg (fun _ => 0)) - s0 = jm_S h - s0 + n.toNatClampNeg from jm_subk hs] at kk
        exact kk
      · cases hg
    · cases hg
  · unfold op_newa jm_go at hg
    (repeat' split at hg) <;> cases hg

theorem sn_newQ {own : String} {cc : ByteArray} {nL : Nat} {ret : Option FieldType} {ini : Bool} {pc : Nat} {idx : Nat} (hd : decode cc pc = .ok (.anewarray idx, 3)) (hm : Cond.classLink own idx "FrescoWall$Bit" ∈ jm_tb) (hm2 : Cond.arrayOver (.object "FrescoWall$Bit") ∈ jm_tb) : jm_snd own cc nL ret ini pc (op_newa 16 3) := by
  intro p l e s m args below meth c D aC A ρ0 n0 s0 d call rF hF hcx hcp hcs L st h hL hS hH hn hs
  obtain ⟨hx, hb, hml, hown, hts, hr, hlocks, hini, hK, hA⟩ := hcx
  refine ⟨fun pc' L' st' h1 hg hN hSl k ρ H locs ls hrel => ?_, fun hg ρ H locs ls hrel => ?_⟩
  · obtain ⟨hρ, hP, hD, hSt, hl, hlen⟩ := id hrel
    unfold op_newa jm_go at hg
    split at hg
    · split at hg
      · rename_i n st2 hgd
        cases hg
        have hN1 : jm_N h + 1 ≤ jm_N hF := hN
        have hS1 : jm_S h + n.toNatClampNeg ≤ jm_S hF := hSl
        refine va_newq (C := "FrescoWall$Bit") (N' := n.toNatClampNeg) hx hb hown (hts _ hm) (va_AO.of (hts _ hm2)) hK hP hD hSt hA (Int32.not_lt.mpr hgd.1) rfl (by have := hgd.2; omega) (by show jm_N h - n0 + 1 ≤ jm_N hF - n0; omega) (by show jm_S h - s0 + n.toNatClampNeg ≤ jm_S hF - s0; omega) hd (fun q cA H1 hK1 hP1 hD1 hS1 => ?_)
        obtain ⟨_, _, _, _, _, e1⟩ := (hK1.2 5 (cA, .object "FrescoWall$Bit") rfl).2
        obtain ⟨_, _, _, _, _, e2⟩ := (hK.2 4 (aC 16, .object "FrescoWall$Bit") rfl).2
        have hcA : cA = aC 16 := Option.some.inj (e1.symm.trans e2)
        subst hcA
        have hx2 : jm_ce aC (jm_ex ρ (jm_N h) q) (jm_al h 16 n.toNatClampNeg n.toNatClampNeg (fun _ => 0)) (jm_N h) = .inl (aC 16, n.toNatClampNeg, .inr (.inr (.inr (.inr (fun _ => none))))) := by
          rw [jm_ce_a jm_T_al]
          rw [show jm_L (jm_al h 16 n.toNatClampNeg n.toNatClampNeg (fun _ => 0)) (jm_N h) = n.toNatClampNeg from if_pos rfl]
          rw [show jm_A (jm_al h 16 n.toNatClampNeg n.toNatClampNeg (fun _ => 0)) (jm_N h) = (fun _ => none) from if_pos rfl]
          rfl
        have kk := k (jm_ex ρ (jm_N h) q) H1 locs ls (jm_rel_al hL hH hn hx2 hρ hP1 hD1 hS1 hl hlen)
        rw [List.map_cons, jm_cs_ex (jm_cS_cons.mp hS).2, show jm_cv (jm_ex ρ (jm_N h) q) (.ref (jm_N h)) = .ref q from congrArg Value.ref jm_ex_self, show jm_N (jm_al h 16 n.toNatClampNeg n.toNatClampNeg (fun _ => 0)) - n0 = jm_N h - n0 + 1 from jm_sub1 hn, show jm_S (jm_al h 16 n.toNatClampNeg n.toNatClampNeg (fun _ => 0)) - s0 = jm_S h - s0 + n.toNatClampNeg from jm_subk hs] at kk
        exact kk
      · cases hg
    · cases hg
  · unfold op_newa jm_go at hg
    (repeat' split at hg) <;> cases hg

theorem sn_clone {own : String} {cc : ByteArray} {nL : Nat} {ret : Option FieldType} {ini : Bool} {pc : Nat} {idx : Nat} (hd : decode cc pc = .ok (.invokevirtual idx, 3)) (hf : Cond.methodLink own idx ⟨"[I", "clone", "()Ljava/lang/Object;"⟩ ∈ jm_tb ∧ Cond.sameMethod "[I" "java/lang/Object" "clone" "()Ljava/lang/Object;" ∈ jm_tb ∧ Cond.native ⟨"java/lang/Object", "clone", "()Ljava/lang/Object;"⟩ ∈ jm_tb ∧ Cond.instanceMethod ⟨"java/lang/Object", "clone", "()Ljava/lang/Object;"⟩ ∈ jm_tb ∧ Cond.selects "[I" ⟨"[I", "clone", "()Ljava/lang/Object;"⟩ ⟨"java/lang/Object", "clone", "()Ljava/lang/Object;"⟩ ∈ jm_tb ∧ Cond.castable "[I" "java/lang/Cloneable" ∈ jm_tb) : jm_snd own cc nL ret ini pc (op_clone) := by
  intro p l e s m args below meth c D aC A ρ0 n0 s0 d call rF hF hcx hcp hcs L st h hL hS hH hn hs
  obtain ⟨hx, hb, hml, hown, hts, hr, hlocks, hini, hK, hA⟩ := hcx
  refine ⟨fun pc' L' st' h1 hg hN hSl k ρ H locs ls hrel => ?_, fun hg ρ H locs ls hrel => ?_⟩
  · obtain ⟨hρ, hP, hD, hSt, hl, hlen⟩ := id hrel
    unfold op_clone jm_go at hg
    split at hg
    · split at hg
      · rename_i r st2 hgd
        cases hg
        have hN1 : jm_N h + 1 ≤ jm_N hF := hN
        have hS1 : jm_S h + jm_L h r ≤ jm_S hF := hSl
        have he := (jm_wl_get (aC := aC) (ρ := ρ) hgd.1.1).trans (congrArg (fun e => some (ρ r, e)) (jm_ce_iz hgd.1.2 (by decide)))
        have hnm : s.vm.findClass "[I" = some (aC 13) := (hK.2 1 (aC 13, .int) rfl).2
        have hm := hf
        refine va_clone (ad := "[I") hx hb (hml.trans hl.1.symm) hown (hts _ hm.1) (hts _ hm.2.1) (hts _ hm.2.2.1) (hts _ hm.2.2.2.1) (hts _ hm.2.2.2.2.1) (va_Nw.of rfl (hts _ hm.2.2.2.2.2)) hK hP hD hSt hA r 1 he rfl hnm (fun i v hv => ?_) (by show 1 ≤ d + 1; omega) (by rw [jm_cat_map]; have := hgd.2; show _ + 14 ≤ 60 * (d + 1); omega) (by show jm_N h - n0 + 1 ≤ jm_N hF - n0; omega) (by show jm_S h - s0 + jm_L h r ≤ jm_S hF - s0; omega) hd (fun q H1 hK1 hP1 hD1 hS1 => ?_)
        · by_cases hi : i < jm_L h r
          · have := (arrV_read (aC 13) (fun j => Value.int (jm_I h r j)) hi).symm.trans hv
            cases this
            rfl
          · have hsz : (vp_cell (aC 13) (jm_L h r, .inl (jm_I h r))).slots.size = jm_L h r := arrV_size _ _ _
            rw [Array.getElem?_eq_none (by rw [hsz]; omega)] at hv
            cases hv
        have hx2 : jm_ce aC (jm_ex ρ (jm_N h) q) (jm_al h 13 (jm_L h r) (jm_L h r) (jm_I h r)) (jm_N h) = .inl (aC 13, jm_L h r, .inl (jm_I h r)) := by
          rw [jm_ce_iz (tag := 13) jm_T_al (by decide)]
          rw [show jm_L (jm_al h 13 (jm_L h r) (jm_L h r) (jm_I h r)) (jm_N h) = jm_L h r from if_pos rfl]
          rw [show jm_I (jm_al h 13 (jm_L h r) (jm_L h r) (jm_I h r)) (jm_N h) = jm_I h r from if_pos rfl]
        have kk := k (jm_ex ρ (jm_N h) q) H1 locs ls (jm_rel_al hL hH hn hx2 hρ hP1 hD1 hS1 hl hlen)
        rw [List.map_cons, jm_cs_ex (jm_cS_cons.mp hS).2, show jm_cv (jm_ex ρ (jm_N h) q) (.ref (jm_N h)) = .ref q from congrArg Value.ref jm_ex_self, show jm_N (jm_al h 13 (jm_L h r) (jm_L h r) (jm_I h r)) - n0 = jm_N h - n0 + 1 from jm_sub1 hn, show jm_S (jm_al h 13 (jm_L h r) (jm_L h r) (jm_I h r)) - s0 = jm_S h - s0 + jm_L h r from jm_subk hs] at kk
        exact kk
      · cases hg
    · cases hg
  · unfold op_clone jm_go at hg
    (repeat' split at hg) <;> cases hg

theorem sn_castI {own : String} {cc : ByteArray} {nL : Nat} {ret : Option FieldType} {ini : Bool} {pc : Nat} {idx : Nat} (hd : decode cc pc = .ok (.checkcast idx, 3)) (hf : Cond.classLink own idx "[I" ∈ jm_tb) : jm_snd own cc nL ret ini pc (op_castI) := by
  intro p l e s m args below meth c D aC A ρ0 n0 s0 d call rF hF hcx hcp hcs L st h hL hS hH hn hs
  obtain ⟨hx, hb, hml, hown, hts, hr, hlocks, hini, hK, hA⟩ := hcx
  refine ⟨fun pc' L' st' h1 hg hN hSl k ρ H locs ls hrel => ?_, fun hg ρ H locs ls hrel => ?_⟩
  · obtain ⟨hρ, hP, hD, hSt, hl, hlen⟩ := id hrel
    unfold op_castI jm_go at hg
    split at hg
    · split at hg
      · rename_i r st2 hgd
        cases hg
        have he := (jm_wl_get (aC := aC) (ρ := ρ) hgd.1).trans (congrArg (fun e => some (ρ r, e)) (jm_ce_iz hgd.2 (by decide)))
        exact va_castA hx hb hown (hts _ hf) hP r he (hK.2 1 (aC 13, .int) rfl).2 hd (k ρ H locs ls hrel)
      · cases hg
    · cases hg
  · unfold op_castI jm_go at hg
    (repeat' split at hg) <;> cases hg

theorem sn_objInit {own : String} {cc : ByteArray} {nL : Nat} {ret : Option FieldType} {ini : Bool} {pc : Nat} {idx : Nat} (hd : decode cc pc = .ok (.invokespecial idx, 3)) (hf : Cond.methodLink own idx Lib.objectInit ∈ jm_tb ∧ Cond.instanceMethod Lib.objectInit ∈ jm_tb ∧ Cond.code Lib.objectInit ⟨#[0xb1]⟩ 1 none ∈ jm_tb) : jm_snd own cc nL ret ini pc (op_objInit) := by
  intro p l e s m args below meth c D aC A ρ0 n0 s0 d call rF hF hcx hcp hcs L st h hL hS hH hn hs
  obtain ⟨hx, hb, hml, hown, hts, hr, hlocks, hini, hK, hA⟩ := hcx
  refine ⟨fun pc' L' st' h1 hg hN hSl k ρ H locs ls hrel => ?_, fun hg ρ H locs ls hrel => ?_⟩
  · obtain ⟨hρ, hP, hD, hSt, hl, hlen⟩ := id hrel
    unfold op_objInit jm_go at hg
    split at hg
    · split at hg
      · rename_i r st2 hgd
        cases hg
        exact W.objInit hx hb hown (hts _ hf.1) (hts _ hf.2.1) (hts _ hf.2.2) rfl (hl.1.trans hml.symm) rfl hd (by show 1 ≤ d + 1; omega) (by show 2 * 0 + _ + 12 ≤ 60 * (d + 1); rw [jm_cat_map]; omega) (k ρ H locs ls hrel)
      · cases hg
    · cases hg
  · unfold op_objInit jm_go at hg
    (repeat' split at hg) <;> cases hg

theorem sn_tsw {own : String} {cc : ByteArray} {nL : Nat} {ret : Option FieldType} {ini : Bool} {pc : Nat} {dflt lo hi : Int} {offs : Array Int} {len dt : Nat} {ps : List (Int32 × Nat)} (hd : decode cc pc = .ok (.tableswitch dflt lo hi offs, len)) (ht : (pc : Int) + dflt = (dt : Int)) (hhi : hi + 1 = lo + offs.toList.length) (hk : jm_tk (pc : Int) lo offs.toList ps = true) : jm_snd own cc nL ret ini pc (op_sw dt ps) := by
  intro p l e s m args below meth c D aC A ρ0 n0 s0 d call rF hF hcx hcp hcs L st h hL hS hH hn hs
  obtain ⟨hx, hb, hml, hown, hts, hr, hlocks, hini, hK, hA⟩ := hcx
  refine ⟨fun pc' L' st' h1 hg hN hSl k ρ H locs ls hrel => ?_, fun hg ρ H locs ls hrel => ?_⟩
  · obtain ⟨hρ, hP, hD, hSt, hl, hlen⟩ := id hrel
    unfold op_sw jm_go at hg
    split at hg
    · rename_i x st2
      cases hg
      obtain ⟨i1, i2⟩ := jm_tk_ok (pc : Int) dt x offs.toList lo ps hk
      by_cases hq : x.toInt < lo ∨ lo + offs.toList.length ≤ x.toInt
      · refine lv_tableOut hx hb hd (tgt := jm_sw dt x ps) (by rcases hq with q | q; exact Or.inl q; exact Or.inr (by omega)) ?_ (k ρ H locs ls hrel)
        rw [i1 hq]
        exact ht
      · obtain ⟨off, g1, g2⟩ := i2 (by omega)
        exact lv_tableIn hx hb hd (off := off) (by omega) (by omega) (by rw [← Array.getElem?_toList]; exact g1) g2 (k ρ H locs ls hrel)
    · cases hg
  · unfold op_sw jm_go at hg
    (repeat' split at hg) <;> cases hg

theorem sn_lsw {own : String} {cc : ByteArray} {nL : Nat} {ret : Option FieldType} {ini : Bool} {pc : Nat} {dflt : Int} {qs : Array (Int × Int)} {len dt : Nat} {ps : List (Int32 × Nat)} (hd : decode cc pc = .ok (.lookupswitch dflt qs, len)) (ht : (pc : Int) + dflt = (dt : Int)) (hp : (qs.toList.zip (qs.toList.drop 1)).all (fun (a, next) => a.1 < next.1) = true) (hk : jm_lk (pc : Int) qs.toList ps = true) : jm_snd own cc nL ret ini pc (op_sw dt ps) := by
  intro p l e s m args below meth c D aC A ρ0 n0 s0 d call rF hF hcx hcp hcs L st h hL hS hH hn hs
  obtain ⟨hx, hb, hml, hown, hts, hr, hlocks, hini, hK, hA⟩ := hcx
  refine ⟨fun pc' L' st' h1 hg hN hSl k ρ H locs ls hrel => ?_, fun hg ρ H locs ls hrel => ?_⟩
  · obtain ⟨hρ, hP, hD, hSt, hl, hlen⟩ := id hrel
    unfold op_sw jm_go at hg
    split at hg
    · rename_i x st2
      cases hg
      exact lv_lookup hx hb hd hp rfl (jm_lk_ok (pc : Int) dflt dt ht x qs.toList ps hk) (k ρ H locs ls hrel)
    · cases hg
  · unfold op_sw jm_go at hg
    (repeat' split at hg) <;> cases hg

theorem sn_iret {own : String} {cc : ByteArray} {nL : Nat} {ret : Option FieldType} {ini : Bool} {pc : Nat} (hd : decode cc pc = .ok (.ireturn, 1)) (hrt : ret = some .int) : jm_snd own cc nL ret ini pc (op_iret) := by
  intro p l e s m args below meth c D aC A ρ0 n0 s0 d call rF hF hcx hcp hcs L st h hL hS hH hn hs
  obtain ⟨hx, hb, hml, hown, hts, hr, hlocks, hini, hK, hA⟩ := hcx
  refine ⟨fun pc' L' st' h1 hg hN hSl k ρ H locs ls hrel => ?_, fun hg ρ H locs ls hrel => ?_⟩
  · unfold op_iret at hg
    (repeat' split at hg) <;> cases hg
  · obtain ⟨hρ, hP, hD, hSt, hl, hlen⟩ := id hrel
    unfold op_iret at hg
    split at hg
    · cases hg
      exact W.iret hx hb (hr.trans hrt) (fun t ht hW => ⟨⟨ρ, hρ, rfl, by rw [ht]; exact hP, va_K.moved hW.alike hK, hD⟩, hSt.F ht⟩) (fun q hq => hSt.2.2 q hq) hd hlocks
    · cases hg

theorem sn_zret {own : String} {cc : ByteArray} {nL : Nat} {ret : Option FieldType} {ini : Bool} {pc : Nat} (hd : decode cc pc = .ok (.ireturn, 1)) (hrt : ret = some .boolean) : jm_snd own cc nL ret ini pc (op_zret) := by
  intro p l e s m args below meth c D aC A ρ0 n0 s0 d call rF hF hcx hcp hcs L st h hL hS hH hn hs
  obtain ⟨hx, hb, hml, hown, hts, hr, hlocks, hini, hK, hA⟩ := hcx
  refine ⟨fun pc' L' st' h1 hg hN hSl k ρ H locs ls hrel => ?_, fun hg ρ H locs ls hrel => ?_⟩
  · unfold op_zret at hg
    (repeat' split at hg) <;> cases hg
  · obtain ⟨hρ, hP, hD, hSt, hl, hlen⟩ := id hrel
    unfold op_zret at hg
    split at hg
    · split at hg
      · rename_i hz
        cases hg
        exact W.zret hx hb (hr.trans hrt) (congrArg Value.int hz) (fun t ht hW => ⟨⟨ρ, hρ, rfl, by rw [ht]; exact hP, va_K.moved hW.alike hK, hD⟩, hSt.F ht⟩) (fun q hq => hSt.2.2 q hq) hd hlocks
      · cases hg
    · cases hg

theorem sn_lret {own : String} {cc : ByteArray} {nL : Nat} {ret : Option FieldType} {ini : Bool} {pc : Nat} (hd : decode cc pc = .ok (.lreturn, 1)) (hrt : ret = some .long) : jm_snd own cc nL ret ini pc (op_lret) := by
  intro p l e s m args below meth c D aC A ρ0 n0 s0 d call rF hF hcx hcp hcs L st h hL hS hH hn hs
  obtain ⟨hx, hb, hml, hown, hts, hr, hlocks, hini, hK, hA⟩ := hcx
  refine ⟨fun pc' L' st' h1 hg hN hSl k ρ H locs ls hrel => ?_, fun hg ρ H locs ls hrel => ?_⟩
  · unfold op_lret at hg
    (repeat' split at hg) <;> cases hg
  · obtain ⟨hρ, hP, hD, hSt, hl, hlen⟩ := id hrel
    unfold op_lret at hg
    split at hg
    · cases hg
      exact W.lret hx hb (hr.trans hrt) (fun t ht hW => ⟨⟨ρ, hρ, rfl, by rw [ht]; exact hP, va_K.moved hW.alike hK, hD⟩, hSt.F ht⟩) (fun q hq => hSt.2.2 q hq) hd hlocks
    · cases hg

theorem sn_vret {own : String} {cc : ByteArray} {nL : Nat} {ret : Option FieldType} {ini : Bool} {pc : Nat} (hd : decode cc pc = .ok (.return_, 1)) (hrt : ret = none) : jm_snd own cc nL ret ini pc (op_vret) := by
  intro p l e s m args below meth c D aC A ρ0 n0 s0 d call rF hF hcx hcp hcs L st h hL hS hH hn hs
  obtain ⟨hx, hb, hml, hown, hts, hr, hlocks, hini, hK, hA⟩ := hcx
  refine ⟨fun pc' L' st' h1 hg hN hSl k ρ H locs ls hrel => ?_, fun hg ρ H locs ls hrel => ?_⟩
  · unfold op_vret at hg
    (repeat' split at hg) <;> cases hg
  · obtain ⟨hρ, hP, hD, hSt, hl, hlen⟩ := id hrel
    unfold op_vret at hg
    split at hg
    · cases hg
      exact W.vret hx hb (hr.trans hrt) (fun t ht hW => ⟨⟨ρ, hρ, rfl, by rw [ht]; exact hP, va_K.moved hW.alike hK, hD⟩, hSt.F ht⟩) (fun q hq => hSt.2.2 q hq) hd hlocks
    · cases hg

