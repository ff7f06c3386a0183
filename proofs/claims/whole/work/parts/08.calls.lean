/-! Calls, and the whole: what the small machine answers, the real one does. -/
/-- what is known of a method: its code among the tables' words, its class is there, how many it takes -/
def km_ok (M n : Nat) : Prop := Cond.code (km_y M) (km_b M) (km_n M) (km_r M) ∈ jm_tb ∧ Cond.initialized (km_y M).cls ∈ jm_tb ∧ ((km_y M).cls ≠ "java/lang/invoke/MethodHandle" ∧ (km_y M).cls ≠ "java/lang/invoke/VarHandle") ∧ (parseMethodDescriptor (km_y M).desc).map (fun d => d.parameters.length) = some n ∧ km_n M ≤ 40
def km_lS (own : String) (idx M n : Nat) : Prop := km_ok M n ∧ Cond.methodLink own idx (km_y M) ∈ jm_tb ∧ Cond.static (km_y M) ∈ jm_tb
def km_lV (own : String) (idx M n ci : Nat) : Prop := km_ok M n ∧ Cond.methodLink own idx (km_y M) ∈ jm_tb ∧ Cond.instanceMethod (km_y M) ∈ jm_tb ∧ ∃ (C : String) (T : u_T) (N : Nat), jm_cls[ci]? = some (C, T, N) ∧ ci < 12 ∧ Cond.selects C (km_y M) (km_y M) ∈ jm_tb
def km_lI (own : String) (idx M n : Nat) : Prop := km_ok M n ∧ Cond.methodLink own idx (km_y M) ∈ jm_tb ∧ (km_y M).name = "<init>" ∧ Cond.instanceMethod (km_y M) ∈ jm_tb ∧ km_r M = none
def km_lN (own : String) (idx M n : Nat) (host : String) : Prop := km_ok M n ∧ Cond.methodLinkNest own idx (km_y M) host ∈ jm_tb ∧ (km_y M).name = "<init>" ∧ Cond.instanceMethod (km_y M) ∈ jm_tb ∧ km_r M = none
section JCALL
variable {p : Program} {l : Launch} {e : Env} {R : Room} {s : State} {m : MethodId} {args : Array Value} {below : List Frame} {meth : Method} {c : Code} {H : Heap} {locs : List Loc} {cells slots : Nat} {Q : State → Prop}
variable {pc : Nat} {ls : Array Slot} {rest st0 : List Value} {a : Array Value} {A0 A1 : Nat → Prop} {H0 : Heap} {mc ms : Nat} {free : Addr → Prop}
theorem jm_callj {D : va_G} {aC : Nat → ClassId} {ρ : Nat → Nat} {n : Nat} {v : Option Value} {h1 : jm_H} (hr : va_Run p l e R s m args below meth c H locs cells slots mc ms (F0 m pc ls st0) rest (jm_Q D aC ρ n v h1 A1 a) free) (hS : va_S A0 H0 H locs) (hA : ∀ q, q < H.size → A1 q → A0 q) (hf : ∀ q, free q → A0 q)
    (kk : ∀ (ρ' : Nat → Nat) (H1 : Heap) (locs1 : List Loc), (∀ i, i < n → ρ' i = ρ i) → va_P D jm_cls (jm_wl aC ρ' h1) H1 → va_D A1 (jm_wl aC ρ' h1) → va_S A0 H0 H1 locs1 → W p l e R s m args below meth c H1 locs1 (cells + mc) (slots + ms) Q (F0 m (pc + 3) ls ((v.map (jm_cv ρ')).toList ++ rest))) : W p l e R s m args below meth c H locs cells slots Q (F0 m pc ls st0) := by
  intro T hT X
  obtain ⟨w, st₀, t, T', L, h0, X', hL, e1, e2, ⟨⟨ρ', hρ', hv, hP1, hK1, hD1⟩, hz, hk⟩, st⟩ := hr T hT X
  cases hv
  rw [h0] at hz hk
  obtain ⟨t2, a1, b1⟩ := kk ρ' T'.heap (locs ++ L) hρ' (by rw [e1]; exact hP1) hD1
    ⟨Nat.le_trans hS.1 (by rw [e1]; exact hz), fun q h1 h2 => by rw [e1, hk q (Nat.lt_of_lt_of_le h1 hS.1) (fun z => h2 (hA q (Nat.lt_of_lt_of_le h1 hS.1) z))]; exact hS.2.1 q h1 h2, fun q hq => by
      rcases List.mem_append.mp hq with h | h
      · exact hS.2.2 q h
      · exact hf _ (hL q h)⟩ T' rfl X'
  exact ⟨t2, st t2 a1, b1⟩
end JCALL
theorem jm_blind {D : va_G} {aC : Nat → ClassId} {ρ : Nat → Nat} {as : List Value} {h : jm_H} {sz : Nat} : FrameBlind (va_Pc as (fun U => U.heap.size = sz ∧ va_P D jm_cls (jm_wl aC ρ h) U.heap ∧ va_K D jm_cls (jm_tys aC) U ∧ va_D (fun _ => True) (jm_wl aC ρ h))) := fun a U g mk q => by
  obtain ⟨q0, q1, qP, qK, qD⟩ := q
  exact ⟨q0, q1, qP, va_K.moved (u := U) (U := U.calling g mk a) (Vm.Alike.refl U.vm) qK, qD⟩
theorem jm_pre {D : va_G} {aC : Nat → ClassId} {ρ : Nat → Nat} {as : List Value} {h : jm_H} {s : State} {H : Heap} {A : Nat → Prop} (hP : va_P D jm_cls (jm_wl aC ρ h) H) (hK : va_K D jm_cls (jm_tys aC) s) (hD : va_D A (jm_wl aC ρ h)) : ∀ U : State, U.heap = H → s.WarmedH U.vm → va_Pc as (fun U => U.heap.size = H.size ∧ va_P D jm_cls (jm_wl aC ρ h) U.heap ∧ va_K D jm_cls (jm_tys aC) U ∧ va_D (fun _ => True) (jm_wl aC ρ h)) as.toArray U := fun U hU hW => ⟨rfl, by rw [hU], by rw [hU]; exact hP, va_K.moved hW.alike hK, hD.weaken (fun _ _ _ _ => trivial)⟩
theorem jm_fr {D : va_G} {aC : Nat → ClassId} {ρ : Nat → Nat} {h : jm_H} {H H0 : Heap} {A : Nat → Prop} {locs : List Loc} (hP : va_P D jm_cls (jm_wl aC ρ h) H) (hD : va_D A (jm_wl aC ρ h)) (hS : va_S A H0 H locs) (hA : ∀ q, H0.size ≤ q → A q) : ∀ q, va_A (jm_wl aC ρ h) H.size q → A q := by
  intro q hq
  rcases hq with ⟨k, e, hk⟩ | hq
  · exact hD.2 k (q, e) hk
  · exact hA q (Nat.le_trans hS.1 hq)
theorem jm_drop {n : Nat} {ρ : Nat → Nat} {st : List Value} (hn : n ≤ st.length) : st.map (jm_cv ρ) = ((st.take n).reverse.map (jm_cv ρ)).reverse ++ (st.drop n).map (jm_cv ρ) := by
  rw [List.map_reverse, List.reverse_reverse, ← List.map_append, List.take_append_drop]
theorem jm_toList {ρ : Nat → Nat} {v : Option Value} {st : List Value} : (v.toList ++ st).map (jm_cv ρ) = (v.map (jm_cv ρ)).toList ++ st.map (jm_cv ρ) := by
  cases v <;> simp
theorem jm_as_lt {ρ ρ' : Nat → Nat} {n nL : Nat} {ls : Array Slot} {L : jm_Lo} (hρ : ∀ i, i < n → ρ' i = ρ i) (hL : jm_cL n L) (hl : lv_has ls nL (jm_as ρ L)) : lv_has ls nL (jm_as ρ' L) := jm_has_of hl fun i v hv => jm_as_mem.mpr ⟨v, hv, by
  have hv := hL v (List.mem_of_getElem? hv)
  cases v <;> first | rfl | exact congrArg Value.ref (hρ _ hv)⟩
theorem jm_st_lt {ρ ρ' : Nat → Nat} {n : Nat} {st : List Value} (hρ : ∀ i, i < n → ρ' i = ρ i) (hS : jm_cS n st) : st.map (jm_cv ρ') = st.map (jm_cv ρ) := List.map_congr_left fun v hv => by
  have hv := hS v hv
  cases v <;> first | rfl | exact congrArg Value.ref (hρ _ hv)
theorem jm_last {n : Nat} {st : List Value} {r : Nat} (h : (st.take n).getLast? = some (.ref r)) : (st.take n).reverse = .ref r :: (st.take n).dropLast.reverse := by
  obtain ⟨ys, hy⟩ := List.getLast?_eq_some_iff.mp h
  rw [hy, List.reverse_append, List.dropLast_concat]
  rfl

theorem sn_callS {own : String} {cc : ByteArray} {nL : Nat} {ret : Option FieldType} {ini : Bool} {pc : Nat} {idx M np : Nat} (hd : decode cc pc = .ok (.invokestatic idx, 3)) (hf : km_lS own idx M np) : jm_snd own cc nL ret ini pc (op_callS M np) := by
  intro p l e s m args below meth c D aC A ρ0 n0 s0 d call rF hF hcx hcp hcs L st h hL hS hH hn hs
  obtain ⟨hx, hb, hml, hown, hts, hr, hlocks, hini, hK, hA⟩ := hcx
  refine ⟨fun pc' L' st' h1 hg hN hSl k ρ H locs ls hrel => ?_, fun hg ρ H locs ls hrel => ?_⟩
  · obtain ⟨hρ, hP, hD, hSt, hl, hlen⟩ := id hrel
    unfold op_callS jm_ret jm_go at hg
    split at hg
    · rename_i hgd
      split at hg
      · rename_i v h2 hq
        cases hg
        obtain ⟨a1, a2, a3, a4⟩ := hcp M _ h v h1 (fun w hw => hS w (List.mem_of_mem_take (List.mem_reverse.mp hw))) hH hq
        have hM := hcs M _ h v h1 (fun w hw => hS w (List.mem_of_mem_take (List.mem_reverse.mp hw))) hH hq D aC ρ H.size
        have hN1 : jm_N h1 ≤ jm_N hF := hN
        have hS1 : jm_S h1 ≤ jm_S hF := hSl
        have hFr := jm_fr hP hD hSt hA
        obtain ⟨hok, hlk, hf⟩ := hf
        have hok := hok
        have hn40 := hok.2.2.2.2
        have hpar : ∀ sig, parseMethodDescriptor (km_y M).desc = some sig → np = sig.parameters.length := by
          intro sig hsig
          have h2 := hok.2.2.2.1
          rw [hsig] at h2
          exact (Option.some.inj h2).symm
        have hwarm : ∀ w ∈ km_w M, ∀ (a' : Array Value) (U : State), s.WarmedH U.vm → w.before a' U = true := by
          intro w hw
          rcases List.mem_cons.mp hw with rfl | hw
          · exact jm_warm hts _ hok.1
          · exact jm_warm hts _ hw
        refine jm_callj (va_runS (n := np) (nL := nL) (As := (st.take np).reverse.map (jm_cv ρ)) (rest := (st.drop np).map (jm_cv ρ)) ⟨hx, hb, hml, hown, hts⟩ hM ⟨⟨rfl, rfl, Nat.le_refl _, (by show 8 + (km_n M + 11) + 60 * d ≤ 60 * (d + 1); omega), hwarm, List.mem_cons_self, hts _ hok.1, hts _ hok.2.1, hok.2.2.1, hpar, hts _ hlk⟩, hts _ hf⟩ ⟨jm_blind, jm_pre hP hK hD⟩ rfl (by rw [List.length_map, List.length_reverse, List.length_take]; omega) hl.1 (jm_drop hgd.1) (lv_room (by rw [jm_cat_map]; exact hgd.2)) hd ⟨(by show jm_N h - n0 + (jm_N h1 - jm_N h) ≤ jm_N hF - n0; omega), (by show jm_S h - s0 + (jm_S h1 - jm_S h) ≤ jm_S hF - s0; omega)⟩) hSt (fun q _ hq => hFr q hq) hFr (fun ρ' H1 locs1 hρ1 hP1 hD1 hS1 => ?_)
        have kk := k ρ' H1 locs1 ls ⟨fun i hi => (hρ1 i (Nat.lt_of_lt_of_le hi hn)).trans (hρ i hi), hP1, hD1.weaken (fun _ q _ hq => hFr q.1 hq), hS1, jm_as_lt hρ1 hL hl, hlen⟩
        rw [jm_toList, jm_st_lt hρ1 (fun w hw => hS w (List.mem_of_mem_drop hw)), show jm_N h1 - n0 = jm_N h - n0 + (jm_N h1 - jm_N h) by omega, show jm_S h1 - s0 = jm_S h - s0 + (jm_S h1 - jm_S h) by omega] at kk
        exact kk
      · cases hg
    · cases hg
  · unfold op_callS jm_ret jm_go at hg
    (repeat' split at hg) <;> cases hg

theorem sn_callV {own : String} {cc : ByteArray} {nL : Nat} {ret : Option FieldType} {ini : Bool} {pc : Nat} {idx M np ci : Nat} (hd : decode cc pc = .ok (.invokevirtual idx, 3)) (hf : km_lV own idx M np ci) : jm_snd own cc nL ret ini pc (op_callV ci M (np + 1)) := by
  intro p l e s m args below meth c D aC A ρ0 n0 s0 d call rF hF hcx hcp hcs L st h hL hS hH hn hs
  obtain ⟨hx, hb, hml, hown, hts, hr, hlocks, hini, hK, hA⟩ := hcx
  refine ⟨fun pc' L' st' h1 hg hN hSl k ρ H locs ls hrel => ?_, fun hg ρ H locs ls hrel => ?_⟩
  · obtain ⟨hρ, hP, hD, hSt, hl, hlen⟩ := id hrel
    unfold op_callV jm_ret jm_go at hg
    split at hg
    · rename_i hgd
      split at hg
      · rename_i v h2 hq
        cases hg
        have hrc := hgd.2
        unfold jm_rc at hrc
        split at hrc
        · rename_i r hr1
          simp only [Bool.and_eq_true, decide_eq_true_eq] at hrc
          have hrev := jm_last hr1
          rw [hrev] at hq
          obtain ⟨a1, a2, a3, a4⟩ := hcp M _ h v h1 (fun w hw => hS w (List.mem_of_mem_take (List.mem_reverse.mp (by rw [hrev]; exact hw)))) hH hq
          have hM := hcs M _ h v h1 (fun w hw => hS w (List.mem_of_mem_take (List.mem_reverse.mp (by rw [hrev]; exact hw)))) hH hq D aC ρ H.size
          have hN1 : jm_N h1 ≤ jm_N hF := hN
          have hS1 : jm_S h1 ≤ jm_S hF := hSl
          have hFr := jm_fr hP hD hSt hA
          obtain ⟨hok, hlk, hf⟩ := hf
          have hok := hok
          have hn40 := hok.2.2.2.2
          have hpar : ∀ sig, parseMethodDescriptor (km_y M).desc = some sig → np = sig.parameters.length := by
            intro sig hsig
            have h2 := hok.2.2.2.1
            rw [hsig] at h2
            exact (Option.some.inj h2).symm
          have hwarm : ∀ w ∈ km_w M, ∀ (a' : Array Value) (U : State), s.WarmedH U.vm → w.before a' U = true := by
            intro w hw
            rcases List.mem_cons.mp hw with rfl | hw
            · exact jm_warm hts _ hok.1
            · exact jm_warm hts _ hw
          obtain ⟨C, T, N, hc, hci, hsel⟩ := hf.2
          have he := (jm_wl_get (aC := aC) (ρ := ρ) hrc.1).trans (congrArg (fun e => some (ρ r, e)) (jm_ce_ob hrc.2 hci))
          refine jm_callj (va_runV (C := C) (n := np) (nL := nL) (As := (st.take (np + 1)).dropLast.reverse.map (jm_cv ρ)) (rest := (st.drop (np + 1)).map (jm_cv ρ)) (b := ρ r) ⟨hx, hb, hml, hown, hts⟩ hM ⟨⟨rfl, rfl, Nat.le_refl _, (by show 8 + (km_n M + 11) + 60 * d ≤ 60 * (d + 1); omega), hwarm, List.mem_cons_self, hts _ hok.1, hts _ hok.2.1, hok.2.2.1, hpar, hts _ hlk⟩, hts _ hf.1, hts _ hsel⟩ ⟨jm_blind, va_recv hK hP hc he, jm_pre hP hK hD⟩ rfl (by rw [List.length_map, List.length_reverse, List.length_dropLast, List.length_take]; omega) hl.1 (by show st.map (jm_cv ρ) = _; rw [jm_drop hgd.1.1, hrev]; simp; rfl) (lv_room (by rw [jm_cat_map]; exact hgd.1.2)) hd ⟨(by show jm_N h - n0 + (jm_N h1 - jm_N h) ≤ jm_N hF - n0; omega), (by show jm_S h - s0 + (jm_S h1 - jm_S h) ≤ jm_S hF - s0; omega)⟩) hSt (fun q _ hq => hFr q hq) hFr (fun ρ' H1 locs1 hρ1 hP1 hD1 hS1 => ?_)
          have kk := k ρ' H1 locs1 ls ⟨fun i hi => (hρ1 i (Nat.lt_of_lt_of_le hi hn)).trans (hρ i hi), hP1, hD1.weaken (fun _ q _ hq => hFr q.1 hq), hS1, jm_as_lt hρ1 hL hl, hlen⟩
          rw [jm_toList, jm_st_lt hρ1 (fun w hw => hS w (List.mem_of_mem_drop hw)), show jm_N h1 - n0 = jm_N h - n0 + (jm_N h1 - jm_N h) by omega, show jm_S h1 - s0 = jm_S h - s0 + (jm_S h1 - jm_S h) by omega] at kk
          exact kk
        · cases hrc
      · cases hg
    · cases hg
  · unfold op_callV jm_ret jm_go at hg
    (repeat' split at hg) <;> cases hg

theorem sn_callI {own : String} {cc : ByteArray} {nL : Nat} {ret : Option FieldType} {ini : Bool} {pc : Nat} {idx M np ci : Nat} (hd : decode cc pc = .ok (.invokespecial idx, 3)) (hf : km_lI own idx M np) : jm_snd own cc nL ret ini pc (op_callV ci M (np + 1)) := by
  intro p l e s m args below meth c D aC A ρ0 n0 s0 d call rF hF hcx hcp hcs L st h hL hS hH hn hs
  obtain ⟨hx, hb, hml, hown, hts, hr, hlocks, hini, hK, hA⟩ := hcx
  refine ⟨fun pc' L' st' h1 hg hN hSl k ρ H locs ls hrel => ?_, fun hg ρ H locs ls hrel => ?_⟩
  · obtain ⟨hρ, hP, hD, hSt, hl, hlen⟩ := id hrel
    unfold op_callV jm_ret jm_go at hg
    split at hg
    · rename_i hgd
      split at hg
      · rename_i v h2 hq
        cases hg
        have hrc := hgd.2
        unfold jm_rc at hrc
        split at hrc
        · rename_i r hr1
          simp only [Bool.and_eq_true, decide_eq_true_eq] at hrc
          have hrev := jm_last hr1
          rw [hrev] at hq
          obtain ⟨a1, a2, a3, a4⟩ := hcp M _ h v h1 (fun w hw => hS w (List.mem_of_mem_take (List.mem_reverse.mp (by rw [hrev]; exact hw)))) hH hq
          have hM := hcs M _ h v h1 (fun w hw => hS w (List.mem_of_mem_take (List.mem_reverse.mp (by rw [hrev]; exact hw)))) hH hq D aC ρ H.size
          have hN1 : jm_N h1 ≤ jm_N hF := hN
          have hS1 : jm_S h1 ≤ jm_S hF := hSl
          have hFr := jm_fr hP hD hSt hA
          obtain ⟨hok, hlk, hf⟩ := hf
          have hok := hok
          have hn40 := hok.2.2.2.2
          have hpar : ∀ sig, parseMethodDescriptor (km_y M).desc = some sig → np = sig.parameters.length := by
            intro sig hsig
            have h2 := hok.2.2.2.1
            rw [hsig] at h2
            exact (Option.some.inj h2).symm
          have hwarm : ∀ w ∈ km_w M, ∀ (a' : Array Value) (U : State), s.WarmedH U.vm → w.before a' U = true := by
            intro w hw
            rcases List.mem_cons.mp hw with rfl | hw
            · exact jm_warm hts _ hok.1
            · exact jm_warm hts _ hw
          have hrt := hf.2.2
          unfold km_w at hM
          rw [hrt] at hM
          have hok1 := hok.1
          rw [hrt] at hok1
          have hwarm : ∀ w ∈ Cond.code (km_y M) (km_b M) (km_n M) none :: jm_tb, ∀ (a' : Array Value) (U : State), s.WarmedH U.vm → w.before a' U = true := by rw [← hrt]; exact hwarm
          refine jm_callj (va_runI (n := np) (nL := nL) (As := (st.take (np + 1)).dropLast.reverse.map (jm_cv ρ)) (rest := (st.drop (np + 1)).map (jm_cv ρ)) (b := ρ r) ⟨hx, hb, hml, hown, hts⟩ hM ⟨⟨rfl, rfl, Nat.le_refl _, (by show 8 + (km_n M + 11) + 60 * d ≤ 60 * (d + 1); omega), hwarm, List.mem_cons_self, hts _ hok1, hts _ hok.2.1, hok.2.2.1, hpar, hts _ hlk⟩, hf.1, hts _ hf.2.1⟩ ⟨jm_blind, jm_pre hP hK hD⟩ rfl (by rw [List.length_map, List.length_reverse, List.length_dropLast, List.length_take]; omega) hl.1 (by show st.map (jm_cv ρ) = _; rw [jm_drop hgd.1.1, hrev]; simp; rfl) (lv_room (by rw [jm_cat_map]; exact hgd.1.2)) hd ⟨(by show jm_N h - n0 + (jm_N h1 - jm_N h) ≤ jm_N hF - n0; omega), (by show jm_S h - s0 + (jm_S h1 - jm_S h) ≤ jm_S hF - s0; omega)⟩) hSt (fun q _ hq => hFr q hq) hFr (fun ρ' H1 locs1 hρ1 hP1 hD1 hS1 => ?_)
          have kk := k ρ' H1 locs1 ls ⟨fun i hi => (hρ1 i (Nat.lt_of_lt_of_le hi hn)).trans (hρ i hi), hP1, hD1.weaken (fun _ q _ hq => hFr q.1 hq), hS1, jm_as_lt hρ1 hL hl, hlen⟩
          rw [jm_toList, jm_st_lt hρ1 (fun w hw => hS w (List.mem_of_mem_drop hw)), show jm_N h1 - n0 = jm_N h - n0 + (jm_N h1 - jm_N h) by omega, show jm_S h1 - s0 = jm_S h - s0 + (jm_S h1 - jm_S h) by omega] at kk
          exact kk
        · cases hrc
      · cases hg
    · cases hg
  · unfold op_callV jm_ret jm_go at hg
    (repeat' split at hg) <;> cases hg

theorem sn_callN {own : String} {cc : ByteArray} {nL : Nat} {ret : Option FieldType} {ini : Bool} {pc : Nat} {idx M np ci : Nat} {host : String} (hd : decode cc pc = .ok (.invokespecial idx, 3)) (hf : km_lN own idx M np host) : jm_snd own cc nL ret ini pc (op_callV ci M (np + 1)) := by
  intro p l e s m args below meth c D aC A ρ0 n0 s0 d call rF hF hcx hcp hcs L st h hL hS hH hn hs
  obtain ⟨hx, hb, hml, hown, hts, hr, hlocks, hini, hK, hA⟩ := hcx
  refine ⟨fun pc' L' st' h1 hg hN hSl k ρ H locs ls hrel => ?_, fun hg ρ H locs ls hrel => ?_⟩
  · obtain ⟨hρ, hP, hD, hSt, hl, hlen⟩ := id hrel
    unfold op_callV jm_ret jm_go at hg
    split at hg
    · rename_i hgd
      split at hg
      · rename_i v h2 hq
        cases hg
        have hrc := hgd.2
        unfold jm_rc at hrc
        split at hrc
        · rename_i r hr1
          simp only [Bool.and_eq_true, decide_eq_true_eq] at hrc
          have hrev := jm_last hr1
          rw [hrev] at hq
          obtain ⟨a1, a2, a3, a4⟩ := hcp M _ h v h1 (fun w hw => hS w (List.mem_of_mem_take (List.mem_reverse.mp (by rw [hrev]; exact hw)))) hH hq
          have hM := hcs M _ h v h1 (fun w hw => hS w (List.mem_of_mem_take (List.mem_reverse.mp (by rw [hrev]; exact hw)))) hH hq D aC ρ H.size
          have hN1 : jm_N h1 ≤ jm_N hF := hN
          have hS1 : jm_S h1 ≤ jm_S hF := hSl
          have hFr := jm_fr hP hD hSt hA
          obtain ⟨hok, hlk, hf⟩ := hf
          have hok := hok
          have hn40 := hok.2.2.2.2
          have hpar : ∀ sig, parseMethodDescriptor (km_y M).desc = some sig → np = sig.parameters.length := by
            intro sig hsig
            have h2 := hok.2.2.2.1
            rw [hsig] at h2
            exact (Option.some.inj h2).symm
          have hwarm : ∀ w ∈ km_w M, ∀ (a' : Array Value) (U : State), s.WarmedH U.vm → w.before a' U = true := by
            intro w hw
            rcases List.mem_cons.mp hw with rfl | hw
            · exact jm_warm hts _ hok.1
            · exact jm_warm hts _ hw
          have hrt := hf.2.2
          unfold km_w at hM
          rw [hrt] at hM
          have hok1 := hok.1
          rw [hrt] at hok1
          have hwarm : ∀ w ∈ Cond.code (km_y M) (km_b M) (km_n M) none :: jm_tb, ∀ (a' : Array Value) (U : State), s.WarmedH U.vm → w.before a' U = true := by rw [← hrt]; exact hwarm
          refine jm_callj (va_runIN (host := host) (n := np) (nL := nL) (As := (st.take (np + 1)).dropLast.reverse.map (jm_cv ρ)) (rest := (st.drop (np + 1)).map (jm_cv ρ)) (b := ρ r) ⟨hx, hb, hml, hown, hts⟩ hM ⟨⟨⟨rfl, rfl, Nat.le_refl _, (by show 8 + (km_n M + 11) + 60 * d ≤ 60 * (d + 1); omega), hwarm, List.mem_cons_self⟩, hts _ hok1, hts _ hok.2.1, hok.2.2.1, hpar, hts _ hlk⟩, hf.1, hts _ hf.2.1⟩ ⟨jm_blind, jm_pre hP hK hD⟩ rfl (by rw [List.length_map, List.length_reverse, List.length_dropLast, List.length_take]; omega) hl.1 (by show st.map (jm_cv ρ) = _; rw [jm_drop hgd.1.1, hrev]; simp; rfl) (lv_room (by rw [jm_cat_map]; exact hgd.1.2)) hd ⟨(by show jm_N h - n0 + (jm_N h1 - jm_N h) ≤ jm_N hF - n0; omega), (by show jm_S h - s0 + (jm_S h1 - jm_S h) ≤ jm_S hF - s0; omega)⟩) hSt (fun q _ hq => hFr q hq) hFr (fun ρ' H1 locs1 hρ1 hP1 hD1 hS1 => ?_)
          have kk := k ρ' H1 locs1 ls ⟨fun i hi => (hρ1 i (Nat.lt_of_lt_of_le hi hn)).trans (hρ i hi), hP1, hD1.weaken (fun _ q _ hq => hFr q.1 hq), hS1, jm_as_lt hρ1 hL hl, hlen⟩
          rw [jm_toList, jm_st_lt hρ1 (fun w hw => hS w (List.mem_of_mem_drop hw)), show jm_N h1 - n0 = jm_N h - n0 + (jm_N h1 - jm_N h) by omega, show jm_S h1 - s0 = jm_S h - s0 + (jm_S h1 - jm_S h) by omega] at kk
          exact kk
        · cases hrc
      · cases hg
    · cases hg
  · unfold op_callV jm_ret jm_go at hg
    (repeat' split at hg) <;> cases hg

/-- a run of a sound method's code, from a frame on: the real machine comes to the end that it says -/
theorem jm_run_snd {own : String} {cc : ByteArray} {nL : Nat} {ret : Option FieldType} {ini : Bool} {cd : Nat → jm_O} (hcd : ∀ pc, jm_snd own cc nL ret ini pc (cd pc)) (hpu : ∀ pc, jm_pu (cd pc)) {p : Program} {l : Launch} {e : Env} {s : State} {m : MethodId} {args : Array Value} {below : List Frame} {meth : Method} {c : Code} {D : va_G} {aC : Nat → ClassId} {A : Nat → Prop} {ρ0 : Nat → Nat} {n0 s0 d : Nat} {call : jm_C} {rF : Option Value} {hF : jm_H} (hcx : jm_cx own cc nL ret ini p s m args meth c D aC A) (hcp : jm_cp call) (hcs : jm_cs l d call) : ∀ (n pc : Nat) (L : jm_Lo) (st : List Value) (h : jm_H), jm_cL (jm_N h) L → jm_cS (jm_N h) st → jm_cH h → n0 ≤ jm_N h → s0 ≤ jm_S h → jm_run cd call n (pc, L, st, h) = some (rF, hF) → jm_W p l e (jm_rm (d + 1) (jm_N hF - n0) (jm_S hF - s0)) s m args below meth c (MQ below (jm_Q D aC ρ0 n0 rF hF A) args s (jm_N hF - n0) (jm_S hF - s0) A) D aC A ρ0 n0 s0 nL pc L st h := by
  intro n
  induction n with
  | zero => intro pc L st h _ _ _ _ _ hr; cases hr
  | succ n ih =>
    intro pc L st h hL hS hH hn hs hr
    have hp := hpu pc call hcp pc L st h hL hS hH
    obtain ⟨g1, g2⟩ := hcd pc p l e s m args below meth c D aC A ρ0 n0 s0 d call rF hF hcx hcp hcs L st h hL hS hH hn hs
    unfold jm_run at hr
    dsimp only at hr
    cases hq : cd pc call pc L st h with
    | none => rw [hq] at hr; cases hr
    | some x =>
      rw [hq] at hr hp
      cases x with
      | inr r =>
        cases hr
        exact g2 hq
      | inl g =>
        obtain ⟨pc', L', st', h'⟩ := g
        obtain ⟨a1, a2, a3, a4, a5⟩ := hp
        dsimp only at a1 a2 a3 a4 a5
        obtain ⟨b1, b2, -, -⟩ := jm_run_pu hpu hcp n pc' L' st' h' rF hF a3 a4 a5 hr
        exact g1 pc' L' st' h' hq b1 b2 (ih pc' L' st' h' a3 a4 a5 (Nat.le_trans hn a1) (Nat.le_trans hs a2) hr)
/-- the locals at a method's entry -/
theorem jm_ent_has {ρ : Nat → Nat} (vs : List Value) : ∀ (k i : Nat) (v : Value), (vs.flatMap fun v => if v.category = 2 then [some v, (none : Option Value)] else [some v])[i]? = some (some v) → (k + i, jm_cv ρ v) ∈ lv_args k (vs.map (jm_cv ρ)) := by
  induction vs with
  | nil => intro k i v h; simp at h
  | cons w vs ih =>
    intro k i v h
    rw [List.flatMap_cons] at h
    rw [List.map_cons]
    unfold lv_args
    rw [jm_cat_cv]
    by_cases hc : w.category = 2
    · rw [if_pos hc] at h ⊢
      match i, h with
      | 0, h => cases h; exact List.mem_cons_self
      | 1, h => cases h
      | i + 2, h =>
        refine List.mem_cons_of_mem _ ?_
        have := ih (k + 2) i v h
        rw [show k + (i + 2) = k + 2 + i by omega]
        exact this
    · rw [if_neg hc] at h ⊢
      match i, h with
      | 0, h => cases h; exact List.mem_cons_self
      | i + 1, h =>
        refine List.mem_cons_of_mem _ ?_
        have := ih (k + 1) i v h
        rw [show k + (i + 1) = k + 1 + i by omega]
        exact this
theorem jm_ent_len {vs : List Value} {ρ : Nat → Nat} : (lg_sl (vs.map (jm_cv ρ))).length = (vs.flatMap fun v => if v.category = 2 then [some v, (none : Option Value)] else [some v]).length := by
  induction vs with
  | nil => rfl
  | cons w vs ih =>
    unfold lg_sl at ih ⊢
    rw [List.map_cons, List.flatMap_cons, List.flatMap_cons, List.length_append, List.length_append, ih, jm_cat_cv]
    by_cases hc : w.category = 2
    · rw [if_pos hc, if_pos hc]; rfl
    · rw [if_neg hc, if_neg hc]; rfl
theorem jm_ent_lv {n : Nat} {vs : List Value} {ρ : Nat → Nat} (hn : (vs.flatMap fun v => if v.category = 2 then [some v, (none : Option Value)] else [some v]).length ≤ n) : lv_has ((lg_sl (vs.map (jm_cv ρ)) ++ List.replicate (n - (lg_sl (vs.map (jm_cv ρ))).length) Slot.unset).toArray) n (jm_as ρ (jm_ent n vs)) ∧ (jm_ent n vs).length = n := by
  constructor
  · refine jm_has_of (lv_entry (vs.map (jm_cv ρ)) (by rw [jm_ent_len]; exact hn)) fun i v hv => ?_
    unfold jm_ent at hv
    by_cases hi : i < (vs.flatMap fun v => if v.category = 2 then [some v, (none : Option Value)] else [some v]).length
    · rw [List.getElem?_append_left hi] at hv
      have := jm_ent_has (ρ := ρ) vs 0 i v hv
      rw [Nat.zero_add] at this
      exact this
    · rw [List.getElem?_append_right (by omega)] at hv
      have := List.mem_of_getElem? hv
      have := (List.mem_replicate.mp this).2
      cases this
  · unfold jm_ent
    rw [List.length_append, List.length_replicate]
    omega
/-- a code table is sound: each instruction of each method, at its place -/
def jm_all (CD : Nat → Nat → jm_O) : Prop := (∀ M pc, jm_pu (CD M pc)) ∧ (∀ M, 321 ≤ M → ∀ pc, CD M pc = jm_bad) ∧ ∀ M, M < 321 → plainName (km_y M).cls = true ∧ ∀ pc, jm_snd (km_y M).cls (km_b M) (km_n M) (km_r M) (decide ((km_y M).name = "<init>")) pc (CD M pc)
theorem jm_cl_snd (l : Launch) {CD : Nat → Nat → jm_O} (hall : jm_all CD) : ∀ d, jm_cs l d (jm_cl CD km_n d) := by
  intro d
  induction d with
  | zero => intro M as h v h1 _ _ hr; cases hr
  | succ d ih =>
    intro M as h v h1 hS hH hr D aC ρ sz
    have hr : (if (as.flatMap fun v => if v.category = 2 then [some v, (none : Option Value)] else [some v]).length ≤ km_n M then jm_sup (CD M) (jm_cl CD km_n d) (0, jm_ent (km_n M) as, [], h) else none) = some (v, h1) := hr
    split at hr
    · rename_i haf
      obtain ⟨n, hn⟩ := jm_sup_iff.mp hr
      by_cases hM : M < 321
      · obtain ⟨hpl, hsnd⟩ := hall.2.2 M hM
        refine Met.ofW (cc := km_b M) (maxL := km_n M) (ret := km_r M) hpl rfl ?_
        intro p e s m args below meth c s₁ B hml hv
        obtain ⟨rfl, hsz, hP, hK, hD0⟩ := hv
        have hts := atoms_spec (ws := km_w M) B.pre
        have hown : s.vm.findClass (km_y M).cls = some m.cls := findClass_of_methodNamed B.named
        have hnm : meth.name = (km_y M).name := (name_of_methodNamed B.named B.method).1
        subst hsz
        have hD := hD0.self (sz := s.heap.size)
        have hcx : jm_cx (km_y M).cls (km_b M) (km_n M) (km_r M) (decide ((km_y M).name = "<init>")) p s m (as.map (jm_cv ρ)).toArray meth c D aC (va_A (jm_wl aC ρ h) s.heap.size) := ⟨B.exec, B.bytes, hml, hown, fun w hw => hts w (List.mem_cons_of_mem _ hw), B.returns, B.notSynchronized, fun q => hnm.trans (of_decide_eq_true q), hK, fun q hq => Or.inr hq⟩
        have hw := jm_run_snd (below := below) (e := e) (ρ0 := ρ) (n0 := jm_N h) (s0 := jm_S h) hsnd (fun pc => hall.1 M pc) hcx (jm_cl_pu (fun M pc => hall.1 M pc) d) ih n 0 _ [] h (jm_cS_ent hS) (fun v hv => by cases hv) hH (Nat.le_refl _) (Nat.le_refl _) hn
        rw [lg_entry_eq]
        obtain ⟨hl, hlen⟩ := jm_ent_lv (ρ := ρ) haf
        have kk := hw ρ s.heap [] _ ⟨fun _ _ => rfl, hP, hD, va_S.rf, hl, hlen⟩
        rw [Nat.sub_self, Nat.sub_self] at kk
        exact kk
      · have hbad := hall.2.1 M (Nat.le_of_not_lt hM) 0
        exfalso
        cases n with
        | zero => cases hn
        | succ n =>
          unfold jm_run at hn
          dsimp only at hn
          rw [hbad] at hn
          cases hn
    · cases hr

