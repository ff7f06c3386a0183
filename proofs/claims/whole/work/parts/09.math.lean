/-! Math.max, min, abs: instructions of the small machine (the kit has rows for them; their class is no plain one). -/
def op_mmax : jm_O := fun _ pc L st h => match st with
  | .int y :: .int x :: st => if (st.map fun v => v.category).sum ≤ 8 then jm_go (pc + 3) L (.int (if x < y then y else x) :: st) h else none
  | _ => none
theorem pu_mmax : jm_pu op_mmax := by
  intro call hcp pc L st h hL hS hH
  unfold op_mmax
  split
  · split
    · skip
      simp only [jm_cS_cons] at hS
      exact jm_px_go hL (jm_cS_cons.mpr ⟨trivial, hS.2.2⟩) hH
    · trivial
  · trivial
theorem sn_mmax {own : String} {cc : ByteArray} {nL : Nat} {ret : Option FieldType} {ini : Bool} {pc : Nat} {idx : Nat} (hd : decode cc pc = .ok (.invokestatic idx, 3)) (hf : Cond.methodLink own idx Lib.Math.max.name ∈ jm_tb ∧ Cond.static Lib.Math.max.name ∈ jm_tb ∧ Cond.initialized "java/lang/Math" ∈ jm_tb ∧ Cond.code Lib.Math.max.name Lib.Math.max.code 2 (some .int) ∈ jm_tb) : jm_snd own cc nL ret ini pc (op_mmax) := by
  intro p l e s m args below meth c D aC A ρ0 n0 s0 d call rF hF hcx hcp hcs L st h hL hS hH hn hs
  obtain ⟨hx, hb, hml, hown, hts, hr, hlocks, hini, hK, hA⟩ := hcx
  refine ⟨fun pc' L' st' h1 hg hN hSl k ρ H locs ls hrel => ?_, fun hg ρ H locs ls hrel => ?_⟩
  · obtain ⟨hρ, hP, hD, hSt, hl, hlen⟩ := id hrel
    unfold op_mmax jm_go at hg
    split at hg
    · split at hg
      · rename_i hgd
        cases hg
        exact va_mmax hx hb (hml.trans hl.1.symm) hown (hts _ hf.1) (hts _ hf.2.1) (hts _ hf.2.2.1) (hts _ hf.2.2.2) (by show 1 ≤ d + 1; omega) (by show _ + 13 ≤ 60 * (d + 1); rw [jm_cat_map]; omega) (by show jm_N h - n0 ≤ jm_N hF - n0; omega) (by show jm_S h - s0 ≤ jm_S hF - s0; omega) hd (k ρ H locs ls hrel)
      · cases hg
    · cases hg
  · unfold op_mmax jm_go at hg
    (repeat' split at hg) <;> cases hg
def op_mmin : jm_O := fun _ pc L st h => match st with
  | .int y :: .int x :: st => if (st.map fun v => v.category).sum ≤ 8 then jm_go (pc + 3) L (.int (if y < x then y else x) :: st) h else none
  | _ => none
theorem pu_mmin : jm_pu op_mmin := by
  intro call hcp pc L st h hL hS hH
  unfold op_mmin
  split
  · split
    · skip
      simp only [jm_cS_cons] at hS
      exact jm_px_go hL (jm_cS_cons.mpr ⟨trivial, hS.2.2⟩) hH
    · trivial
  · trivial
theorem sn_mmin {own : String} {cc : ByteArray} {nL : Nat} {ret : Option FieldType} {ini : Bool} {pc : Nat} {idx : Nat} (hd : decode cc pc = .ok (.invokestatic idx, 3)) (hf : Cond.methodLink own idx Lib.Math.min.name ∈ jm_tb ∧ Cond.static Lib.Math.min.name ∈ jm_tb ∧ Cond.initialized "java/lang/Math" ∈ jm_tb ∧ Cond.code Lib.Math.min.name Lib.Math.min.code 2 (some .int) ∈ jm_tb) : jm_snd own cc nL ret ini pc (op_mmin) := by
  intro p l e s m args below meth c D aC A ρ0 n0 s0 d call rF hF hcx hcp hcs L st h hL hS hH hn hs
  obtain ⟨hx, hb, hml, hown, hts, hr, hlocks, hini, hK, hA⟩ := hcx
  refine ⟨fun pc' L' st' h1 hg hN hSl k ρ H locs ls hrel => ?_, fun hg ρ H locs ls hrel => ?_⟩
  · obtain ⟨hρ, hP, hD, hSt, hl, hlen⟩ := id hrel
    unfold op_mmin jm_go at hg
    split at hg
    · split at hg
      · rename_i hgd
        cases hg
        exact va_mmin hx hb (hml.trans hl.1.symm) hown (hts _ hf.1) (hts _ hf.2.1) (hts _ hf.2.2.1) (hts _ hf.2.2.2) (by show 1 ≤ d + 1; omega) (by show _ + 13 ≤ 60 * (d + 1); rw [jm_cat_map]; omega) (by show jm_N h - n0 ≤ jm_N hF - n0; omega) (by show jm_S h - s0 ≤ jm_S hF - s0; omega) hd (k ρ H locs ls hrel)
      · cases hg
    · cases hg
  · unfold op_mmin jm_go at hg
    (repeat' split at hg) <;> cases hg
def op_mabs : jm_O := fun _ pc L st h => match st with
  | .int x :: st => if (st.map fun v => v.category).sum ≤ 8 then jm_go (pc + 3) L (.int (if 0 ≤ x then x else 0 - x) :: st) h else none
  | _ => none
theorem pu_mabs : jm_pu op_mabs := by
  intro call hcp pc L st h hL hS hH
  unfold op_mabs
  split
  · split
    · skip
      simp only [jm_cS_cons] at hS
      exact jm_px_go hL (jm_cS_cons.mpr ⟨trivial, hS.2⟩) hH
    · trivial
  · trivial
theorem sn_mabs {own : String} {cc : ByteArray} {nL : Nat} {ret : Option FieldType} {ini : Bool} {pc : Nat} {idx : Nat} (hd : decode cc pc = .ok (.invokestatic idx, 3)) (hf : Cond.methodLink own idx Lib.Math.abs.name ∈ jm_tb ∧ Cond.static Lib.Math.abs.name ∈ jm_tb ∧ Cond.initialized "java/lang/Math" ∈ jm_tb ∧ Cond.code Lib.Math.abs.name Lib.Math.abs.code 1 (some .int) ∈ jm_tb) : jm_snd own cc nL ret ini pc (op_mabs) := by
  intro p l e s m args below meth c D aC A ρ0 n0 s0 d call rF hF hcx hcp hcs L st h hL hS hH hn hs
  obtain ⟨hx, hb, hml, hown, hts, hr, hlocks, hini, hK, hA⟩ := hcx
  refine ⟨fun pc' L' st' h1 hg hN hSl k ρ H locs ls hrel => ?_, fun hg ρ H locs ls hrel => ?_⟩
  · obtain ⟨hρ, hP, hD, hSt, hl, hlen⟩ := id hrel
    unfold op_mabs jm_go at hg
    split at hg
    · split at hg
      · rename_i hgd
        cases hg
        exact va_mabs hx hb (hml.trans hl.1.symm) hown (hts _ hf.1) (hts _ hf.2.1) (hts _ hf.2.2.1) (hts _ hf.2.2.2) (by show 1 ≤ d + 1; omega) (by show _ + 13 ≤ 60 * (d + 1); rw [jm_cat_map]; omega) (by show jm_N h - n0 ≤ jm_N hF - n0; omega) (by show jm_S h - s0 ≤ jm_S hF - s0; omega) hd (k ρ H locs ls hrel)
      · cases hg
    · cases hg
  · unfold op_mabs jm_go at hg
    (repeat' split at hg) <;> cases hg
/-! A static call with up to 16 words of stack below it (one place in the class has nine). -/
def op_callT (M n : Nat) : jm_O := fun call pc L st h => if n ≤ st.length ∧ ((st.drop n).map fun v => v.category).sum ≤ 16 then jm_ret pc L (st.drop n) (call M (st.take n).reverse h) else none
section
variable {p : Program} {l : Launch} {e : Env} {R : Room} {s : State} {m : MethodId} {args : Array Value} {below : List Frame} {meth : Method} {c : Code} {H : Heap} {locs : List Loc} {cells slots : Nat}
variable {y : MethodName} {bytes cc : ByteArray} {maxL nL mc ms n index : Nat} {ret : Option FieldType} {ws : List Cond} {rm : Room} {Pc : Array Value → State → Prop} {Qc : Array Value → State → Outcome → State → Prop} {free : Addr → Prop} {Ts : List Cond} {own : String} {As rest : List Value} {g : JFrame}
theorem jm_runT (S : CallFix p m c cc nL s args Ts own) (hM : Met l y ws rm Pc Qc mc ms free) (cw : CallB R s args own index y bytes maxL ret ws rm mc ms n) (h16 : 16 + (maxL + 11) + rm.locals ≤ R.locals) (hstt : (Cond.static y).before args s = true) (hp : PreS s H Pc As) (hg : g.method = m) (hn : As.length = n) (hsize : g.locals.size = nL) (hstack : g.stack = As.reverse ++ rest) (hW : 2 * g.monitorRoom + (rest.map fun v => v.category).sum ≤ 16) (hdg : decode cc g.pc = .ok (.invokestatic index, 3)) (hf : cells + mc ≤ R.cells ∧ slots + ms ≤ R.slots) : va_Run p l e R s m args below meth c H locs cells slots mc ms g rest (Qc As.toArray) (free) := by
  obtain ⟨hrc, hrs, hfr, -, hws, hcw, hcode, hini, hy, hlen, hl⟩ := cw
  have hK : Back l R p e below s args y 3 16 (PreOf R mc ms Pc) (PostOf Qc mc ms free) := back_of (bytes := bytes) (maxL := maxL) (ret := ret) hM hp.1 hrc hrs hfr h16 hws hcw (fun a' U hW => word_at hW (Or.inl (by first | rfl | simp [Cond.onTables, Cond.keeps, Cond.steady])) hini)
  obtain ⟨hx, hb, hml, ho, -⟩ := S
  intro T hT X
  obtain ⟨v, vm₁, ⟨U', l2, c2, s2⟩, hW₁, X', ⟨g', mk, t, L, e1, e2, hq, h1, hL, h2, h3⟩, st⟩ := callS X hx (bytes := bytes) (maxL := maxL) (ret := ret) ho hl hstt hini hcode hy hK hg (hsize.trans hml.symm) (argsL := As) (rest := rest) (fun sig h => hn.trans (hlen sig h)) hstack hW (by rw [hb]; exact hdg) (fun vm₁ hW₁ => ⟨hf.1, hf.2, hp.2 (T.setVm vm₁) hT hW₁⟩)
  dsimp only [Pt.U, Pt.locs, Pt.cells, Pt.slots] at X' e1 e2 h1 h2 h3 st
  subst h1; subst h2; subst h3
  exact ⟨v, (T.setVm vm₁).calling g' mk As.toArray, t, U', L, hT, X', hL, e1, e2, hq, st⟩
end
theorem sn_callT {own : String} {cc : ByteArray} {nL : Nat} {ret : Option FieldType} {ini : Bool} {pc : Nat} {idx M np : Nat} (hd : decode cc pc = .ok (.invokestatic idx, 3)) (hf : km_lS own idx M np) (h30 : km_n M ≤ 30) : jm_snd own cc nL ret ini pc (op_callT M np) := by
  intro p l e s m args below meth c D aC A ρ0 n0 s0 d call rF hF hcx hcp hcs L st h hL hS hH hn hs
  obtain ⟨hx, hb, hml, hown, hts, hr, hlocks, hini, hK, hA⟩ := hcx
  refine ⟨fun pc' L' st' h1 hg hN hSl k ρ H locs ls hrel => ?_, fun hg ρ H locs ls hrel => ?_⟩
  · obtain ⟨hρ, hP, hD, hSt, hl, hlen⟩ := id hrel
    unfold op_callT jm_ret jm_go at hg
    split at hg
    · rename_i hgd
      split at hg
      · rename_i v h2 hq
        cases hg
        obtain ⟨a1, a2, a3, a4⟩ := hcp M _ h v h1 (fun w hw => hS w (List.mem_of_mem_take (List.mem_reverse.mp hw))) hH hq
        have hM := hcs M _ h v h1 (fun w hw => hS w (List.mem_of_mem_take (List.mem_reverse.mp hw))) hH hq D aC ρ H.size
        have hN1 : jm_N h1 ≤ jm_N hF := hN
        have hS1 : jm_S h1 ≤ jm_S hF := hSl
        have hFr := jm_fr hP hD hSt hA
        obtain ⟨hok, hlk, hf⟩ := hf
        have hok := hok
        have hn40 := hok.2.2.2.2
        have hpar : ∀ sig, parseMethodDescriptor (km_y M).desc = some sig → np = sig.parameters.length := by
          intro sig hsig
          have h2 := hok.2.2.2.1
          rw [hsig] at h2
          exact (Option.some.inj h2).symm
        have hwarm : ∀ w ∈ km_w M, ∀ (a' : Array Value) (U : State), s.WarmedH U.vm → w.before a' U = true := by
          intro w hw
          rcases List.mem_cons.mp hw with rfl | hw
          · exact jm_warm hts _ hok.1
          · exact jm_warm hts _ hw
        refine jm_callj (jm_runT (n := np) (nL := nL) (As := (st.take np).reverse.map (jm_cv ρ)) (rest := (st.drop np).map (jm_cv ρ)) ⟨hx, hb, hml, hown, hts⟩ hM ⟨rfl, rfl, Nat.le_refl _, (by show 8 + (km_n M + 11) + 60 * d ≤ 60 * (d + 1); omega), hwarm, List.mem_cons_self, hts _ hok.1, hts _ hok.2.1, hok.2.2.1, hpar, hts _ hlk⟩ (by show 16 + (km_n M + 11) + 60 * d ≤ 60 * (d + 1); omega) (hts _ hf) ⟨jm_blind, jm_pre hP hK hD⟩ rfl (by rw [List.length_map, List.length_reverse, List.length_take]; omega) hl.1 (jm_drop hgd.1) (by show 2 * 0 + _ ≤ 16; rw [jm_cat_map]; have := hgd.2; omega) hd ⟨(by show jm_N h - n0 + (jm_N h1 - jm_N h) ≤ jm_N hF - n0; omega), (by show jm_S h - s0 + (jm_S h1 - jm_S h) ≤ jm_S hF - s0; omega)⟩) hSt (fun q _ hq => hFr q hq) hFr (fun ρ' H1 locs1 hρ1 hP1 hD1 hS1 => ?_)
        have kk := k ρ' H1 locs1 ls ⟨fun i hi => (hρ1 i (Nat.lt_of_lt_of_le hi hn)).trans (hρ i hi), hP1, hD1.weaken (fun _ q _ hq => hFr q.1 hq), hS1, jm_as_lt hρ1 hL hl, hlen⟩
        rw [jm_toList, jm_st_lt hρ1 (fun w hw => hS w (List.mem_of_mem_drop hw)), show jm_N h1 - n0 = jm_N h - n0 + (jm_N h1 - jm_N h) by omega, show jm_S h1 - s0 = jm_S h - s0 + (jm_S h1 - jm_S h) by omega] at kk
        exact kk
      · cases hg
    · cases hg
  · unfold op_callT jm_ret jm_go at hg
    (repeat' split at hg) <;> cases hg


theorem pu_callT (M n : Nat) : jm_pu (op_callT M n) := by
  intro call hc pc L st h hL hS hH
  unfold op_callT
  split
  · exact jm_px_ret hc hL hS hH
  · exact trivial

