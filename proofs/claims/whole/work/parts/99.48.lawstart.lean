/-! What the law knows of the classes at its start; a call in the law's body. -/
theorem lw_hts {args : Array Value} {s : State} (h : ∀ w ∈ lw_tbl, w.before args s = true) : ∀ w ∈ jm_tb, w.before args s = true := fun w hw => h w (List.mem_filter.mp hw).1
theorem lw_arr {args : Array Value} {s : State} {ty : FieldType} (h : (Cond.arrayClass ty).before args s = true) : ∃ cA : ClassId, ArrOfT s cA ty ∧ s.vm.findClass ("[" ++ ty.toString) = some cA := by
  obtain ⟨c, k, comp, h1, h2, h3⟩ := Cond.arrayClass_spec h
  exact ⟨c, fun n z => ⟨fun k h => (by cases h), k, h2, comp, h3⟩, h1⟩
theorem lw_arq {args : Array Value} {s : State} {C : String} (h : (Cond.arrayOver (.object C)).before args s = true) : ∃ cA : ClassId, ArrOfT s cA (.object C) ∧ va_RA s cA (.object C) := by
  obtain ⟨comp, c, k, h1, -, h2, h3, h4⟩ := Cond.arrayOver_spec h
  exact ⟨c, fun n z => ⟨fun k h => (by cases h), k, h2, comp, h3⟩, k, comp, h2, h3, h1, h4⟩
theorem lw_K0 {args : Array Value} {s : State} (hts : ∀ w ∈ jm_tb, w.before args s = true) {ci : Nat} {C : String} {T : u_T} {N : Nat} {ty : Nat → FieldType} (k : kc_ok ci C T N ty) (i : Cond.instantiable C N ∈ jm_tb) : ∃ (cC : ClassId) (iS : Nat → Nat), ∀ q, jm_cls[ci]? = some q → u_Kn s q.1 q.2.1 q.2.2 cC iS := by
  obtain ⟨cC, iS, h⟩ := u_known hts k.2.1 (hts _ i)
  exact ⟨cC, iS, fun q hq => by rw [k.1] at hq; cases hq; exact h⟩
theorem lw_K1 {args : Array Value} {s : State} (hts : ∀ w ∈ jm_tb, w.before args s = true) (c : Nat) : ∃ (cC : ClassId) (iS : Nat → Nat), ∀ q, jm_cls[c]? = some q → u_Kn s q.1 q.2.1 q.2.2 cC iS := by
  match c with
  | 0 => exact lw_K0 hts kc_ok0 in_law_0
  | 1 => exact lw_K0 hts kc_ok1 in_law_1
  | 2 => exact lw_K0 hts kc_ok2 in_law_2
  | 3 => exact lw_K0 hts kc_ok3 in_law_3
  | 4 => exact lw_K0 hts kc_ok4 in_law_4
  | 5 => exact lw_K0 hts kc_ok5 in_law_5
  | 6 => exact lw_K0 hts kc_ok6 in_law_6
  | 7 => exact lw_K0 hts kc_ok7 in_law_7
  | 8 => exact lw_K0 hts kc_ok8 in_law_8
  | 9 => exact lw_K0 hts kc_ok9 in_law_9
  | 10 => exact lw_K0 hts kc_ok10 in_law_10
  | 11 => exact lw_K0 hts kc_ok11 in_law_11
  | n + 12 =>
    obtain ⟨cC, iS, -⟩ := lw_K0 hts kc_ok0 in_law_0
    have e : jm_cls[n + 12]? = none := List.getElem?_eq_none (by rw [show jm_cls.length = 12 from rfl]; omega)
    exact ⟨cC, iS, fun q hq => by rw [e] at hq; cases hq⟩
theorem lw_Kn {args : Array Value} {s : State} (hts : ∀ w ∈ jm_tb, w.before args s = true) : ∃ (D : va_G) (aC : Nat → ClassId), va_K D jm_cls (jm_tys aC) s := by
  obtain ⟨b, b1, b2⟩ := lw_arr (hts _ ar_law_12)
  obtain ⟨i, i1, i2⟩ := lw_arr (hts _ ar_law_13)
  obtain ⟨j, j1, j2⟩ := lw_arr (hts _ ar_law_14)
  obtain ⟨z, z1, z2⟩ := lw_arr (hts _ ar_law_15)
  obtain ⟨q, q1, q2⟩ := lw_arq (hts _ ar_law_16)
  refine ⟨(fun c => Classical.choose (lw_K1 hts c), fun c => Classical.choose (Classical.choose_spec (lw_K1 hts c))), fun k => if k = 12 then b else if k = 13 then i else if k = 14 then j else if k = 15 then z else q, fun c x hx => Classical.choose_spec (Classical.choose_spec (lw_K1 hts c)) x hx, fun k x hx => ?_⟩
  match k, hx with
  | 0, hx => cases hx; exact ⟨b1, b2⟩
  | 1, hx => cases hx; exact ⟨i1, i2⟩
  | 2, hx => cases hx; exact ⟨j1, j2⟩
  | 3, hx => cases hx; exact ⟨z1, z2⟩
  | 4, hx => cases hx; exact ⟨q1, q2⟩
  | n + 5, hx => cases hx
/-- a state of the law's walk; its world -/
def lw_G (p : Program) (l : Launch) (e : Env) (s : State) (m : MethodId) (below : List Frame) (meth : Method) (c : Code) (b : Nat) (H : Heap) (locs : List Loc) (h : jm_H) (pc : Nat) (ls : Array Slot) (st : List Value) : Prop := W p l e room_1 s m #[Value.ref b] below meth c H locs (jm_N h) (jm_S h) (lw_Z below #[Value.ref b] s) (F0 m pc ls st)
def lw_R (D : va_G) (aC : Nat → ClassId) (s : State) (ρ : Nat → Nat) (h : jm_H) (H : Heap) (locs : List Loc) : Prop := va_P D jm_cls (jm_wl aC ρ h) H ∧ va_D (fun q => s.heap.size ≤ q) (jm_wl aC ρ h) ∧ va_S (fun q => s.heap.size ≤ q) s.heap H locs ∧ jm_cH h
section LAWC
variable {p : Program} {l : Launch} {e : Env} {s : State} {m : MethodId} {below : List Frame} {meth : Method} {c : Code} {b L : Nat} {xs : Nat → Int32} {D : va_G} {aC : Nat → ClassId} {ρ : Nat → Nat} {H : Heap} {locs : List Loc} {ls : Array Slot}
theorem lw_cv (C0 : lw_At p s m meth c b L xs) (hK : va_K D jm_cls (jm_tys aC) s) {pc idx M np ci r : Nat} {as rest : List Value} {h h1 : jm_H} {v : Value} (hd : decode code pc = .ok (.invokevirtual idx, 3)) (hf : km_lV R_law idx M np ci) (hlen : as.length = np) (hr : r < jm_N h ∧ jm_T h r = ci) (has : jm_cS (jm_N h) (.ref r :: as)) (hcl : jm_cl jm_CD km_n 810 M (.ref r :: as) h = some (some v, h1)) (hR : lw_R D aC s ρ h H locs) (hl : ls.size = 4) (hrest : (rest.map fun v => v.category).sum ≤ 8) (hN : jm_N h1 ≤ 600000) (hS : jm_S h1 ≤ 7302250) (k : ∀ (ρ' : Nat → Nat) (H1 : Heap) (locs1 : List Loc), (∀ i, i < jm_N h → ρ' i = ρ i) → lw_R D aC s ρ' h1 H1 locs1 → lw_G p l e s m below meth c b H1 locs1 h1 (pc + 3) ls (jm_cv ρ' v :: rest)) : lw_G p l e s m below meth c b H locs h pc ls ((as.map (jm_cv ρ)).reverse ++ .ref (ρ r) :: rest) := by
  obtain ⟨hx, hb, hret, hml, hown, hts0, hX, hbl, hlk0, hgv⟩ := C0
  have hts := lw_hts hts0
  obtain ⟨hP, hD, hSt, hH⟩ := hR
  obtain ⟨a1, a2, a3, a4⟩ := jm_cl_pu (fun M pc => jm_CDall.1 M pc) 810 M _ h (some v) h1 has hH hcl
  have hM := jm_cl_snd l jm_CDall 810 M _ h (some v) h1 has hH hcl D aC ρ H.size
  have hFr := jm_fr hP hD hSt (fun _ h => h)
  obtain ⟨hok, hlk, hin, C, T, N, hc, hci, hsel⟩ := hf
  have hn40 := hok.2.2.2.2
  have hpar : ∀ sig, parseMethodDescriptor (km_y M).desc = some sig → np = sig.parameters.length := by
    intro sig hsig
    have h2 := hok.2.2.2.1
    rw [hsig] at h2
    exact (Option.some.inj h2).symm
  have hwarm : ∀ w ∈ km_w M, ∀ (a' : Array Value) (U : State), s.WarmedH U.vm → w.before a' U = true := by
    intro w hw
    rcases List.mem_cons.mp hw with rfl | hw
    · exact jm_warm hts _ hok.1
    · exact jm_warm hts _ hw
  have he := (jm_wl_get (aC := aC) (ρ := ρ) hr.1).trans (congrArg (fun e => some (ρ r, e)) (jm_ce_ob hr.2 hci))
  unfold lw_G
  refine jm_callj (va_runV (C := C) (n := np) (nL := 4) (As := as.map (jm_cv ρ)) (rest := rest) (b := ρ r) ⟨hx, hb, hml, hown, hts⟩ hM ⟨⟨rfl, rfl, (by show 810 + 1 ≤ 2048; decide), (by show 8 + (km_n M + 11) + 60 * 810 ≤ 84000; omega), hwarm, List.mem_cons_self, hts _ hok.1, hts _ hok.2.1, hok.2.2.1, hpar, hts _ hlk⟩, hts _ hin, hts _ hsel⟩ ⟨jm_blind, va_recv hK hP hc he, jm_pre hP hK hD⟩ rfl (by rw [List.length_map]; exact hlen) hl rfl (lv_room hrest) hd ⟨(by show jm_N h + (jm_N h1 - jm_N h) ≤ 600000; omega), (by show jm_S h + (jm_S h1 - jm_S h) ≤ 7302250; omega)⟩) hSt (fun q _ hq => hFr q hq) hFr (fun ρ' H1 locs1 hρ1 hP1 hD1 hS1 => ?_)
  have kk := k ρ' H1 locs1 hρ1 ⟨hP1, hD1.weaken (fun _ q _ hq => hFr q.1 hq), hS1, a3⟩
  unfold lw_G at kk
  rw [show jm_N h + (jm_N h1 - jm_N h) = jm_N h1 by omega, show jm_S h + (jm_S h1 - jm_S h) = jm_S h1 by omega]
  exact kk
/-- a constructor without arguments -/
theorem lw_ci (C0 : lw_At p s m meth c b L xs) (hK : va_K D jm_cls (jm_tys aC) s) {pc idx M r : Nat} {rest : List Value} {h h1 : jm_H} (hd : decode code pc = .ok (.invokespecial idx, 3)) (hf : km_lI R_law idx M 0) (has : jm_cS (jm_N h) [.ref r]) (hcl : jm_cl jm_CD km_n 810 M [.ref r] h = some (none, h1)) (hR : lw_R D aC s ρ h H locs) (hl : ls.size = 4) (hrest : (rest.map fun v => v.category).sum ≤ 8) (hN : jm_N h1 ≤ 600000) (hS : jm_S h1 ≤ 7302250) (k : ∀ (ρ' : Nat → Nat) (H1 : Heap) (locs1 : List Loc), (∀ i, i < jm_N h → ρ' i = ρ i) → lw_R D aC s ρ' h1 H1 locs1 → lw_G p l e s m below meth c b H1 locs1 h1 (pc + 3) ls rest) : lw_G p l e s m below meth c b H locs h pc ls (.ref (ρ r) :: rest) := by
  obtain ⟨hx, hb, hret, hml, hown, hts0, hX, hbl, hlk0, hgv⟩ := C0
  have hts := lw_hts hts0
  obtain ⟨hP, hD, hSt, hH⟩ := hR
  obtain ⟨a1, a2, a3, a4⟩ := jm_cl_pu (fun M pc => jm_CDall.1 M pc) 810 M _ h none h1 has hH hcl
  have hM := jm_cl_snd l jm_CDall 810 M _ h none h1 has hH hcl D aC ρ H.size
  have hFr := jm_fr hP hD hSt (fun _ h => h)
  obtain ⟨hok, hlk, hf⟩ := hf
  have hn40 := hok.2.2.2.2
  have hpar : ∀ sig, parseMethodDescriptor (km_y M).desc = some sig → 0 = sig.parameters.length := by
    intro sig hsig
    have h2 := hok.2.2.2.1
    rw [hsig] at h2
    exact (Option.some.inj h2).symm
  have hwarm : ∀ w ∈ km_w M, ∀ (a' : Array Value) (U : State), s.WarmedH U.vm → w.before a' U = true := by
    intro w hw
    rcases List.mem_cons.mp hw with rfl | hw
    · exact jm_warm hts _ hok.1
    · exact jm_warm hts _ hw
  have hrt := hf.2.2
  unfold km_w at hM
  rw [hrt] at hM
  have hok1 := hok.1
  rw [hrt] at hok1
  have hwarm : ∀ w ∈ Cond.code (km_y M) (km_b M) (km_n M) none :: jm_tb, ∀ (a' : Array Value) (U : State), s.WarmedH U.vm → w.before a' U = true := by rw [← hrt]; exact hwarm
  unfold lw_G
  refine jm_callj (va_runI (n := 0) (nL := 4) (As := []) (rest := rest) (b := ρ r) ⟨hx, hb, hml, hown, hts⟩ hM ⟨⟨rfl, rfl, (by show 810 + 1 ≤ 2048; decide), (by show 8 + (km_n M + 11) + 60 * 810 ≤ 84000; omega), hwarm, List.mem_cons_self, hts _ hok1, hts _ hok.2.1, hok.2.2.1, hpar, hts _ hlk⟩, hf.1, hts _ hf.2.1⟩ ⟨jm_blind, jm_pre hP hK hD⟩ rfl rfl hl rfl (lv_room hrest) hd ⟨(by show jm_N h + (jm_N h1 - jm_N h) ≤ 600000; omega), (by show jm_S h + (jm_S h1 - jm_S h) ≤ 7302250; omega)⟩) hSt (fun q _ hq => hFr q hq) hFr (fun ρ' H1 locs1 hρ1 hP1 hD1 hS1 => ?_)
  have kk := k ρ' H1 locs1 hρ1 ⟨hP1, hD1.weaken (fun _ q _ hq => hFr q.1 hq), hS1, a3⟩
  unfold lw_G at kk
  rw [show jm_N h + (jm_N h1 - jm_N h) = jm_N h1 by omega, show jm_S h + (jm_S h1 - jm_S h) = jm_S h1 by omega]
  exact kk
/-- a new object -/
theorem lw_nw (C0 : lw_At p s m meth c b L xs) (hK : va_K D jm_cls (jm_tys aC) s) {pc idx ci n : Nat} {rest : List Value} {h : jm_H} (hd : decode code pc = .ok (.new idx, 3)) (hf : kc_n R_law idx ci n) (hR : lw_R D aC s ρ h H locs) (hN : jm_N h + 1 ≤ 600000) (hS : jm_S h + n ≤ 7302250) (k : ∀ (ρ' : Nat → Nat) (H1 : Heap), (∀ i, i < jm_N h → ρ' i = ρ i) → lw_R D aC s ρ' (jm_al h ci 0 n (fun _ => 0)) H1 locs → lw_G p l e s m below meth c b H1 locs (jm_al h ci 0 n (fun _ => 0)) (pc + 3) ls (.ref (ρ' (jm_N h)) :: rest)) : lw_G p l e s m below meth c b H locs h pc ls rest := by
  obtain ⟨hx, hb, hret, hml, hown, hts0, hX, hbl, hlk0, hgv⟩ := C0
  have hts := lw_hts hts0
  obtain ⟨hP, hD, hSt, hH⟩ := hR
  obtain ⟨C, T, ty, ⟨hc, hin, hty, hnm, hci, hTC, hkl⟩, hcl, hinst, hini2, hdf⟩ := hf
  unfold lw_G
  refine va_new (C := C) (T := T) (N := n) hx hb hts hin ty hty hown (hts _ hcl) (hts _ hinst) (hts _ hini2) hK hP hD hSt (fun _ h => h) hc hdf hN hS hd (fun q H1 hP1 hD1 hS1 => ?_)
  have hx2 : jm_ce aC (jm_ex ρ (jm_N h) q) (jm_al h ci 0 n (fun _ => 0)) (jm_N h) = .inr (ci, (jm_kd ci).map (fun kind => if kind = 1 then .long 0 else if kind = 2 then .null else .int 0)) := by
    rw [jm_ce_ob (ci := ci) jm_T_al hci]
    refine congrArg (fun w => (Sum.inr (ci, w) : va_E)) ?_
    refine List.ext_getElem? fun j => ?_
    rw [List.getElem?_mapIdx, List.getElem?_map]
    cases (jm_kd ci)[j]? with
    | none => rfl
    | some kd =>
      refine congrArg some ?_
      unfold jm_fv
      rw [show jm_J (jm_al h ci 0 n (fun _ => 0)) (jm_N h) j = 0 from congrFun (if_pos rfl : (if jm_N h = jm_N h then (fun _ => (0 : Int64)) else jm_J h (jm_N h)) = _) j, show jm_A (jm_al h ci 0 n (fun _ => 0)) (jm_N h) j = none from congrFun (if_pos rfl : (if jm_N h = jm_N h then (fun _ => (none : Option Nat)) else jm_A h (jm_N h)) = _) j, show jm_I (jm_al h ci 0 n (fun _ => 0)) (jm_N h) j = 0 from congrFun (if_pos rfl : (if jm_N h = jm_N h then (fun _ => (0 : Int32)) else jm_I h (jm_N h)) = _) j]
      rfl
  have hw := jm_wl_al (aC := aC) (ρ := ρ) hH ci 0 n (fun _ => 0) q
  rw [hx2] at hw
  have kk := k (jm_ex ρ (jm_N h) q) H1 (fun i hi => jm_ex_lt hi) ⟨hw ▸ hP1, hw ▸ hD1, hS1, jm_cH_al hH _ _ _ _⟩
  rw [show jm_ex ρ (jm_N h) q (jm_N h) = q from jm_ex_self] at kk
  exact kk
end LAWC
