/-! Math.max, min, abs: instructions of the small machine (the kit has rows for them; their class is no plain one). -/
def op_mmax : jm_O := fun _ pc L st h => match st with
  | .int y :: .int x :: st => if (st.map fun v => v.category).sum ≤ 8 then jm_go (pc + 3) L (.int (if x < y then y else x) :: st) h else none
  | _ => none
theorem pu_mmax : jm_pu op_mmax := by
  intro call hcp pc L st h hL hS hH
  unfold op_mmax
  split
  · split
    · skip
      simp only [jm_cS_cons] at hS
      exact jm_px_go hL (jm_cS_cons.mpr ⟨trivial, hS.2.2⟩) hH
    · trivial
  · trivial
theorem sn_mmax {own : String} {cc : ByteArray} {nL : Nat} {ret : Option FieldType} {ini : Bool} {pc : Nat} {idx : Nat} (hd : decode cc pc = .ok (.invokestatic idx, 3)) (hf : Cond.methodLink own idx Lib.Math.max.name ∈ jm_tb ∧ Cond.static Lib.Math.max.name ∈ jm_tb ∧ Cond.initialized "java/lang/Math" ∈ jm_tb ∧ Cond.code Lib.Math.max.name Lib.Math.max.code 2 (some .int) ∈ jm_tb) : jm_snd own cc nL ret ini pc (op_mmax) := by
  intro p l e s m args below meth c D aC A ρ0 n0 s0 d call rF hF hcx hcp hcs L st h hL hS hH hn hs
  obtain ⟨hx, hb, hml, hown, hts, hr, hlocks, hini, hK, hA⟩ := hcx
  refine ⟨fun pc' L' st' h1 hg hN hSl k ρ H locs ls hrel => ?_, fun hg ρ H locs ls hrel => ?_⟩
  · obtain ⟨hρ, hP, hD, hSt, hl, hlen⟩ := id hrel
    unfold op_mmax jm_go at hg
    split at hg
    · split at hg
      · rename_i hgd
        cases hg
        exact va_mmax hx hb (hml.trans hl.1.symm) hown (hts _ hf.1) (hts _ hf.2.1) (hts _ hf.2.2.1) (hts _ hf.2.2.2) (by show 1 ≤ d + 1; omega) (by show _ + 13 ≤ 60 * (d + 1); rw [jm_cat_map]; omega) (by show jm_N h - n0 ≤ jm_N hF - n0; omega) (by show jm_S h - s0 ≤ jm_S hF - s0; omega) hd (k ρ H locs ls hrel)
      · cases hg
    · cases hg
  · unfold op_mmax jm_go at hg
    (repeat' split at hg) <;> cases hg
def op_mmin : jm_O := fun _ pc L st h => match st with
  | .int y :: .int x :: st => if (st.map fun v => v.category).sum ≤ 8 then jm_go (pc + 3) L (.int (if y < x then y else x) :: st) h else none
  | _ => none
theorem pu_mmin : jm_pu op_mmin := by
  intro call hcp pc L st h hL hS hH
  unfold op_mmin
  split
  · split
    · skip
      simp only [jm_cS_cons] at hS
      exact jm_px_go hL (jm_cS_cons.mpr ⟨trivial, hS.2.2⟩) hH
    · trivial
  · trivial
theorem sn_mmin {own : String} {cc : ByteArray} {nL : Nat} {ret : Option FieldType} {ini : Bool} {pc : Nat} {idx : Nat} (hd : decode cc pc = .ok (.invokestatic idx, 3)) (hf : Cond.methodLink own idx Lib.Math.min.name ∈ jm_tb ∧ Cond.static Lib.Math.min.name ∈ jm_tb ∧ Cond.initialized "java/lang/Math" ∈ jm_tb ∧ Cond.code Lib.Math.min.name Lib.Math.min.code 2 (some .int) ∈ jm_tb) : jm_snd own cc nL ret ini pc (op_mmin) := by
  intro p l e s m args below meth c D aC A ρ0 n0 s0 d call rF hF hcx hcp hcs L st h hL hS hH hn hs
  obtain ⟨hx, hb, hml, hown, hts, hr, hlocks, hini, hK, hA⟩ := hcx
  refine ⟨fun pc' L' st' h1 hg hN hSl k ρ H locs ls hrel => ?_, fun hg ρ H locs ls hrel => ?_⟩
  · obtain ⟨hρ, hP, hD, hSt, hl, hlen⟩ := id hrel
    unfold op_mmin jm_go at hg
    split at hg
    · split at hg
      · rename_i hgd
        cases hg
        exact va_mmin hx hb (hml.trans hl.1.symm) hown (hts _ hf.1) (hts _ hf.2.1) (hts _ hf.2.2.1) (hts _ hf.2.2.2) (by show 1 ≤ d + 1; omega) (by show _ + 13 ≤ 60 * (d + 1); rw [jm_cat_map]; omega) (by show jm_N h - n0 ≤ jm_N hF - n0; omega) (by show jm_S h - s0 ≤ jm_S hF - s0; omega) hd (k ρ H locs ls hrel)
      · cases hg
    · cases hg
  · unfold op_mmin jm_go at hg
    (repeat' split at hg) <;> cases hg
def op_mabs : jm_O := fun _ pc L st h => match st with
  | .int x :: st => if (st.map fun v => v.category).sum ≤ 8 then jm_go (pc + 3) L (.int (if 0 ≤ x then x else 0 - x) :: st) h else none
  | _ => none
theorem pu_mabs : jm_pu op_mabs := by
  intro call hcp pc L st h hL hS hH
  unfold op_mabs
  split
  · split
    · skip
      simp only [jm_cS_cons] at hS
      exact jm_px_go hL (jm_cS_cons.mpr ⟨trivial, hS.2⟩) hH
    · trivial
  · trivial
theorem sn_mabs {own : String} {cc : ByteArray} {nL : Nat} {ret : Option FieldType} {ini : Bool} {pc : Nat} {idx : Nat} (hd : decode cc pc = .ok (.invokestatic idx, 3)) (hf : Cond.methodLink own idx Lib.Math.abs.name ∈ jm_tb ∧ Cond.static Lib.Math.abs.name ∈ jm_tb ∧ Cond.initialized "java/lang/Math" ∈ jm_tb ∧ Cond.code Lib.Math.abs.name Lib.Math.abs.code 1 (some .int) ∈ jm_tb) : jm_snd own cc nL ret ini pc (op_mabs) := by
  intro p l e s m args below meth c D aC A ρ0 n0 s0 d call rF hF hcx hcp hcs L st h hL hS hH hn hs
  obtain ⟨hx, hb, hml, hown, hts, hr, hlocks, hini, hK, hA⟩ := hcx
  refine ⟨fun pc' L' st' h1 hg hN hSl k ρ H locs ls hrel => ?_, fun hg ρ H locs ls hrel => ?_⟩
  · obtain ⟨hρ, hP, hD, hSt, hl, hlen⟩ := id hrel
    unfold op_mabs jm_go at hg
    split at hg
    · split at hg
      · rename_i hgd
        cases hg
        exact va_mabs hx hb (hml.trans hl.1.symm) hown (hts _ hf.1) (hts _ hf.2.1) (hts _ hf.2.2.1) (hts _ hf.2.2.2) (by show 1 ≤ d + 1; omega) (by show _ + 13 ≤ 60 * (d + 1); rw [jm_cat_map]; omega) (by show jm_N h - n0 ≤ jm_N hF - n0; omega) (by show jm_S h - s0 ≤ jm_S hF - s0; omega) hd (k ρ H locs ls hrel)
      · cases hg
    · cases hg
  · unfold op_mabs jm_go at hg
    (repeat' split at hg) <;> cases hg
