/-! The instructions that use the heap, calls and ends: they are sound; and from it: what the small machine answers is what the real one does. -/
def kc_f (own : String) (idx ci k kind : Nat) (fin wr : Bool) : Prop := ∃ (C : String) (T : u_T) (N : Nat) (ty : Nat → FieldType), kc_ok ci C T N ty ∧ k < N ∧ Cond.fieldLink own idx C (T k).2.1 (T k).2.2.1 ∈ jm_tb ∧ (jm_kd ci)[k]? = some kind ∧ (T k).2.2.2 = fin ∧ (kind = 0 → ty k = .int) ∧ (kind = 1 → ty k = .long) ∧ (kind = 3 → ty k = .boolean) ∧ (kind = 2 → ∀ a, narrow (ty k) (.ref a) = .ref a ∧ fits (ty k) (.ref a) = true) ∧ (wr = true → fin = true → C = own)
theorem jm_cv_rf {ρ : Nat → Nat} {o : Option Nat} : jm_cv ρ (va_rf o) = va_rf (o.map ρ) := by cases o <;> rfl
theorem jm_ce_ob {aC : Nat → ClassId} {ρ : Nat → Nat} {h : jm_H} {r ci : Nat} (hT : jm_T h r = ci) (hci : ci < 12) : jm_ce aC ρ h r = .inr (ci, (jm_kd ci).mapIdx (fun k kind => jm_fv ρ h r k kind)) := by
  unfold jm_ce
  rw [hT, if_pos hci]
theorem jm_ce_iz {aC : Nat → ClassId} {ρ : Nat → Nat} {h : jm_H} {r tag : Nat} (hT : jm_T h r = tag) (hc : tag = 12 ∨ tag = 13 ∨ tag = 15) : jm_ce aC ρ h r = .inl (aC tag, jm_L h r, .inl (jm_I h r)) := by
  unfold jm_ce
  rw [hT]
  rcases hc with rfl | rfl | rfl <;> rfl
theorem jm_ce_j {aC : Nat → ClassId} {ρ : Nat → Nat} {h : jm_H} {r : Nat} (hT : jm_T h r = 14) : jm_ce aC ρ h r = .inl (aC 14, jm_L h r, .inr (.inl (jm_J h r))) := by
  unfold jm_ce
  rw [hT]
  rfl
theorem jm_ce_a {aC : Nat → ClassId} {ρ : Nat → Nat} {h : jm_H} {r : Nat} (hT : jm_T h r = 16) : jm_ce aC ρ h r = .inl (aC 16, jm_L h r, .inr (.inr (.inr (.inr (fun j => (jm_A h r j).map ρ))))) := by
  unfold jm_ce
  rw [hT]
  rfl
theorem jm_gf {ρ : Nat → Nat} {h : jm_H} {r ci k kind : Nat} (hk : (jm_kd ci)[k]? = some kind) : ((jm_kd ci).mapIdx (fun k kind => jm_fv ρ h r k kind))[k]? = some (jm_fv ρ h r k kind) := by
  rw [List.getElem?_mapIdx, hk]
  rfl
theorem jm_in {i : Int32} {n : Nat} (h : 0 ≤ i ∧ i.toNatClampNeg < n) : vp_in i n := by
  rintro (q | q)
  · exact absurd h.1 (Int32.not_le.mpr q)
  · exact absurd h.2 (Nat.not_lt.mpr q)
theorem jm_u_same {α : Type} {f : Nat → Nat → α} {a k : Nat} {v : α} : jm_u f a k v a = fun j => if j = k then v else f a j := by
  funext j
  exact if_pos rfl
theorem jm_u_ne {α : Type} {f : Nat → Nat → α} {a b k : Nat} {v : α} (h : b ≠ a) : jm_u f a k v b = f b := by
  funext j
  exact if_neg h
theorem jm_ne_wI {aC : Nat → ClassId} {ρ : Nat → Nat} {h : jm_H} {r k : Nat} {v : Int32} (i : Nat) (hi : i ≠ r) : jm_ce aC ρ (jm_wI h r k v) i = jm_ce aC ρ h i := jm_ce_ext rfl rfl (jm_u_ne hi) rfl (fun _ => rfl)
theorem jm_ne_wJ {aC : Nat → ClassId} {ρ : Nat → Nat} {h : jm_H} {r k : Nat} {v : Int64} (i : Nat) (hi : i ≠ r) : jm_ce aC ρ (jm_wJ h r k v) i = jm_ce aC ρ h i := jm_ce_ext rfl rfl rfl (jm_u_ne hi) (fun _ => rfl)
theorem jm_ne_wA {aC : Nat → ClassId} {ρ : Nat → Nat} {h : jm_H} {r k : Nat} {v : Option Nat} (i : Nat) (hi : i ≠ r) : jm_ce aC ρ (jm_wA h r k v) i = jm_ce aC ρ h i := jm_ce_ext rfl rfl rfl rfl (fun j => congrArg (fun o : Option Nat => o.map ρ) (congrFun (jm_u_ne (f := jm_A h) hi) j))
/-- a field's new value, in the list of the object's fields -/
theorem jm_fset {ρ : Nat → Nat} {h h' : jm_H} {r ci k kind : Nat} {v : Value} (hk : (jm_kd ci)[k]? = some kind) (hv : jm_fv ρ h' r k kind = v) (hne : ∀ j kd, j ≠ k → jm_fv ρ h' r j kd = jm_fv ρ h r j kd) : ((jm_kd ci).mapIdx (fun k kind => jm_fv ρ h r k kind)).set k v = (jm_kd ci).mapIdx (fun k kind => jm_fv ρ h' r k kind) := by
  have hlt : k < (jm_kd ci).length := (List.getElem?_eq_some_iff.mp hk).1
  refine List.ext_getElem? fun j => ?_
  by_cases hj : j = k
  · subst hj
    rw [List.getElem?_set_self (by rw [List.length_mapIdx]; exact hlt), jm_gf hk, hv]
  · rw [List.getElem?_set_ne (fun q => hj q.symm), List.getElem?_mapIdx, List.getElem?_mapIdx]
    cases (jm_kd ci)[j]? with
    | none => rfl
    | some kd => exact congrArg some (hne j kd hj).symm

theorem jm_fitsZ {v : Int32} (h : v &&& 1 = v) : fits .boolean (.int v) = true := by
  rw [← h]
  have : v &&& 1 = 0 ∨ v &&& 1 = 1 := by
    have hz : ∀ b : BitVec 32, b &&& 1#32 = 0#32 ∨ b &&& 1#32 = 1#32 := by
      intro b
      have e : (b &&& 1#32).toNat = b.toNat % 2 := by
        rw [BitVec.toNat_and]
        exact Nat.and_one_is_mod _
      rcases Nat.mod_two_eq_zero_or_one b.toNat with q | q
      · exact Or.inl (BitVec.eq_of_toNat_eq (by rw [e, q]; rfl))
      · exact Or.inr (BitVec.eq_of_toNat_eq (by rw [e, q]; rfl))
    rcases hz v.toBitVec with q | q
    · exact Or.inl (Int32.toBitVec_inj.mp q)
    · exact Or.inr (Int32.toBitVec_inj.mp q)
  rcases this with q | q <;> rw [q] <;> rfl

theorem sn_getI {own : String} {cc : ByteArray} {nL : Nat} {ret : Option FieldType} {ini : Bool} {pc : Nat} {idx ci fk kind : Nat} {fin wr : Bool} (hd : decode cc pc = .ok (.getfield idx, 3)) (hf : kc_f own idx ci fk kind fin wr) (hki : kind = 0 ∨ kind = 3) : jm_snd own cc nL ret ini pc (op_getI ci fk) := by
  intro p l e s m args below meth c D aC A ρ0 n0 s0 d call rF hF hcx hcp hcs L st h hL hS hH hn hs
  obtain ⟨hx, hb, hml, hown, hts, hr, hlocks, hini, hK, hA⟩ := hcx
  refine ⟨fun pc' L' st' h1 hg hN hSl k ρ H locs ls hrel => ?_, fun hg ρ H locs ls hrel => ?_⟩
  · obtain ⟨hρ, hP, hD, hSt, hl, hlen⟩ := id hrel
    unfold op_getI jm_go at hg
    obtain ⟨C, T, N, ty, ⟨hc, hin, hty, hnm, hci, hTC, hkl⟩, hkN, hlk, hkd, -⟩ := hf
    split at hg
    · split at hg
      · rename_i r st2 hgd
        cases hg
        have he : (jm_wl aC ρ h)[r]? = some (ρ r, .inr (ci, (jm_kd ci).mapIdx (fun k kind => jm_fv ρ h r k kind))) := by rw [jm_wl_get hgd.1, jm_ce_ob hgd.2 hci]
        refine va_get (ref := C) hx hb hts hin hown hK hP r he hc fk hkN (hts _ hlk) (fun x hx' => by rw [hTC fk hkN] at hx'; exact hx') ((jm_gf hkd).trans (congrArg some ?_)) hd (k ρ H locs ls hrel)
        rcases hki with rfl | rfl <;> rfl
      · cases hg
    · cases hg
  · unfold op_getI jm_go at hg
    (repeat' split at hg) <;> cases hg

theorem sn_getJ {own : String} {cc : ByteArray} {nL : Nat} {ret : Option FieldType} {ini : Bool} {pc : Nat} {idx ci fk kind : Nat} {fin wr : Bool} (hd : decode cc pc = .ok (.getfield idx, 3)) (hf : kc_f own idx ci fk kind fin wr) (hki : kind = 1) : jm_snd own cc nL ret ini pc (op_getJ ci fk) := by
  intro p l e s m args below meth c D aC A ρ0 n0 s0 d call rF hF hcx hcp hcs L st h hL hS hH hn hs
  obtain ⟨hx, hb, hml, hown, hts, hr, hlocks, hini, hK, hA⟩ := hcx
  refine ⟨fun pc' L' st' h1 hg hN hSl k ρ H locs ls hrel => ?_, fun hg ρ H locs ls hrel => ?_⟩
  · obtain ⟨hρ, hP, hD, hSt, hl, hlen⟩ := id hrel
    unfold op_getJ jm_go at hg
    obtain ⟨C, T, N, ty, ⟨hc, hin, hty, hnm, hci, hTC, hkl⟩, hkN, hlk, hkd, -⟩ := hf
    split at hg
    · split at hg
      · rename_i r st2 hgd
        cases hg
        have he : (jm_wl aC ρ h)[r]? = some (ρ r, .inr (ci, (jm_kd ci).mapIdx (fun k kind => jm_fv ρ h r k kind))) := by rw [jm_wl_get hgd.1, jm_ce_ob hgd.2 hci]
        refine va_get (ref := C) hx hb hts hin hown hK hP r he hc fk hkN (hts _ hlk) (fun x hx' => by rw [hTC fk hkN] at hx'; exact hx') ((jm_gf hkd).trans (congrArg some ?_)) hd (k ρ H locs ls hrel)
        subst hki; rfl
      · cases hg
    · cases hg
  · unfold op_getJ jm_go at hg
    (repeat' split at hg) <;> cases hg

theorem sn_getA {own : String} {cc : ByteArray} {nL : Nat} {ret : Option FieldType} {ini : Bool} {pc : Nat} {idx ci fk kind : Nat} {fin wr : Bool} (hd : decode cc pc = .ok (.getfield idx, 3)) (hf : kc_f own idx ci fk kind fin wr) (hki : kind = 2) : jm_snd own cc nL ret ini pc (op_getA ci fk) := by
  intro p l e s m args below meth c D aC A ρ0 n0 s0 d call rF hF hcx hcp hcs L st h hL hS hH hn hs
  obtain ⟨hx, hb, hml, hown, hts, hr, hlocks, hini, hK, hA⟩ := hcx
  refine ⟨fun pc' L' st' h1 hg hN hSl k ρ H locs ls hrel => ?_, fun hg ρ H locs ls hrel => ?_⟩
  · obtain ⟨hρ, hP, hD, hSt, hl, hlen⟩ := id hrel
    unfold op_getA jm_go at hg
    obtain ⟨C, T, N, ty, ⟨hc, hin, hty, hnm, hci, hTC, hkl⟩, hkN, hlk, hkd, -⟩ := hf
    split at hg
    · split at hg
      · rename_i r st2 hgd
        cases hg
        have he : (jm_wl aC ρ h)[r]? = some (ρ r, .inr (ci, (jm_kd ci).mapIdx (fun k kind => jm_fv ρ h r k kind))) := by rw [jm_wl_get hgd.1, jm_ce_ob hgd.2 hci]
        refine va_get (ref := C) hx hb hts hin hown hK hP r he hc fk hkN (hts _ hlk) (fun x hx' => by rw [hTC fk hkN] at hx'; exact hx') ((jm_gf hkd).trans (congrArg some ?_)) hd (k ρ H locs ls hrel)
        subst hki; exact jm_cv_rf.symm
      · cases hg
    · cases hg
  · unfold op_getA jm_go at hg
    (repeat' split at hg) <;> cases hg

theorem sn_putI {own : String} {cc : ByteArray} {nL : Nat} {ret : Option FieldType} {ini : Bool} {pc : Nat} {idx ci fk kind : Nat} (hd : decode cc pc = .ok (.putfield idx, 3)) (hf : kc_f own idx ci fk kind false true) (hki : kind = 0) : jm_snd own cc nL ret ini pc (op_putI ci fk) := by
  intro p l e s m args below meth c D aC A ρ0 n0 s0 d call rF hF hcx hcp hcs L st h hL hS hH hn hs
  obtain ⟨hx, hb, hml, hown, hts, hr, hlocks, hini, hK, hA⟩ := hcx
  refine ⟨fun pc' L' st' h1 hg hN hSl k ρ H locs ls hrel => ?_, fun hg ρ H locs ls hrel => ?_⟩
  · obtain ⟨hρ, hP, hD, hSt, hl, hlen⟩ := id hrel
    unfold op_putI jm_go at hg
    obtain ⟨C, T, N, ty, ⟨hc, hin, hty, hnm, hci, hTC, hkl⟩, hkN, hlk, hkd, hfin, ht0, ht1, ht3, ht2, hCo⟩ := hf
    split at hg
    · split at hg
      · rename_i v r st2 hgd
        cases hg
        have he : (jm_wl aC ρ h)[r]? = some (ρ r, .inr (ci, (jm_kd ci).mapIdx (fun k kind => jm_fv ρ h r k kind))) := by rw [jm_wl_get hgd.1, jm_ce_ob hgd.2 hci]
        refine va_put (ref := C) (ty := ty fk) hx hb hts hin ty hty hnm hown hK hP hD hSt r he hc fk hkN (hts _ hlk) (fun x hx' => by rw [hTC fk hkN] at hx'; exact hx') hfin (hty fk hkN) (by rw [ht0 hki]; rfl) (by rw [ht0 hki]; rfl) (by rw [List.length_mapIdx, hkl]; exact hkN) hd (fun H1 locs1 hP1 hD1 hS1 => ?_)
        have hq : (jm_wl aC ρ h).set r (ρ r, .inr (ci, ((jm_kd ci).mapIdx (fun k kind => jm_fv ρ h r k kind)).set fk (.int v))) = jm_wl aC ρ (jm_wI h r fk v) := by
          rw [jm_fset (h' := jm_wI h r fk v) hkd ?_ ?_, ← jm_ce_ob (aC := aC) (h := jm_wI h r fk v) hgd.2 hci]
          · exact jm_wl_set rfl hgd.1 (fun i hi => jm_ne_wI i hi)
          · subst hki; unfold jm_fv; rw [if_neg (by decide), if_neg (by decide)]; exact congrArg Value.int ((congrFun (jm_u_same (f := jm_I h)) fk).trans (if_pos rfl))
          · intro j kd hj
            unfold jm_fv; rw [show jm_I (jm_wI h r fk v) r j = jm_I h r j from (congrFun (jm_u_same (f := jm_I h)) j).trans (if_neg hj)]; rfl
        exact k ρ H1 locs1 ls ⟨hρ, hq ▸ hP1, hq ▸ hD1, hS1, hl, hlen⟩
      · cases hg
    · cases hg
  · unfold op_putI jm_go at hg
    (repeat' split at hg) <;> cases hg

theorem sn_putJ {own : String} {cc : ByteArray} {nL : Nat} {ret : Option FieldType} {ini : Bool} {pc : Nat} {idx ci fk kind : Nat} (hd : decode cc pc = .ok (.putfield idx, 3)) (hf : kc_f own idx ci fk kind false true) (hki : kind = 1) : jm_snd own cc nL ret ini pc (op_putJ ci fk) := by
  intro p l e s m args below meth c D aC A ρ0 n0 s0 d call rF hF hcx hcp hcs L st h hL hS hH hn hs
  obtain ⟨hx, hb, hml, hown, hts, hr, hlocks, hini, hK, hA⟩ := hcx
  refine ⟨fun pc' L' st' h1 hg hN hSl k ρ H locs ls hrel => ?_, fun hg ρ H locs ls hrel => ?_⟩
  · obtain ⟨hρ, hP, hD, hSt, hl, hlen⟩ := id hrel
    unfold op_putJ jm_go at hg
    obtain ⟨C, T, N, ty, ⟨hc, hin, hty, hnm, hci, hTC, hkl⟩, hkN, hlk, hkd, hfin, ht0, ht1, ht3, ht2, hCo⟩ := hf
    split at hg
    · split at hg
      · rename_i v r st2 hgd
        cases hg
        have he : (jm_wl aC ρ h)[r]? = some (ρ r, .inr (ci, (jm_kd ci).mapIdx (fun k kind => jm_fv ρ h r k kind))) := by rw [jm_wl_get hgd.1, jm_ce_ob hgd.2 hci]
        refine va_put (ref := C) (ty := ty fk) hx hb hts hin ty hty hnm hown hK hP hD hSt r he hc fk hkN (hts _ hlk) (fun x hx' => by rw [hTC fk hkN] at hx'; exact hx') hfin (hty fk hkN) (by rw [ht1 hki]; rfl) (by rw [ht1 hki]; rfl) (by rw [List.length_mapIdx, hkl]; exact hkN) hd (fun H1 locs1 hP1 hD1 hS1 => ?_)
        have hq : (jm_wl aC ρ h).set r (ρ r, .inr (ci, ((jm_kd ci).mapIdx (fun k kind => jm_fv ρ h r k kind)).set fk (.long v))) = jm_wl aC ρ (jm_wJ h r fk v) := by
          rw [jm_fset (h' := jm_wJ h r fk v) hkd ?_ ?_, ← jm_ce_ob (aC := aC) (h := jm_wJ h r fk v) hgd.2 hci]
          · exact jm_wl_set rfl hgd.1 (fun i hi => jm_ne_wJ i hi)
          · subst hki; unfold jm_fv; rw [if_pos rfl]; exact congrArg Value.long ((congrFun (jm_u_same (f := jm_J h)) fk).trans (if_pos rfl))
          · intro j kd hj
            unfold jm_fv; rw [show jm_J (jm_wJ h r fk v) r j = jm_J h r j from (congrFun (jm_u_same (f := jm_J h)) j).trans (if_neg hj)]; rfl
        exact k ρ H1 locs1 ls ⟨hρ, hq ▸ hP1, hq ▸ hD1, hS1, hl, hlen⟩
      · cases hg
    · cases hg
  · unfold op_putJ jm_go at hg
    (repeat' split at hg) <;> cases hg

theorem sn_putA {own : String} {cc : ByteArray} {nL : Nat} {ret : Option FieldType} {ini : Bool} {pc : Nat} {idx ci fk kind : Nat} (hd : decode cc pc = .ok (.putfield idx, 3)) (hf : kc_f own idx ci fk kind false true) (hki : kind = 2) : jm_snd own cc nL ret ini pc (op_putA ci fk) := by
  intro p l e s m args below meth c D aC A ρ0 n0 s0 d call rF hF hcx hcp hcs L st h hL hS hH hn hs
  obtain ⟨hx, hb, hml, hown, hts, hr, hlocks, hini, hK, hA⟩ := hcx
  refine ⟨fun pc' L' st' h1 hg hN hSl k ρ H locs ls hrel => ?_, fun hg ρ H locs ls hrel => ?_⟩
  · obtain ⟨hρ, hP, hD, hSt, hl, hlen⟩ := id hrel
    unfold op_putA jm_go at hg
    obtain ⟨C, T, N, ty, ⟨hc, hin, hty, hnm, hci, hTC, hkl⟩, hkN, hlk, hkd, hfin, ht0, ht1, ht3, ht2, hCo⟩ := hf
    split at hg
    · split at hg
      · rename_i v r st2 hgd
        cases hg
        have he : (jm_wl aC ρ h)[r]? = some (ρ r, .inr (ci, (jm_kd ci).mapIdx (fun k kind => jm_fv ρ h r k kind))) := by rw [jm_wl_get hgd.1, jm_ce_ob hgd.2 hci]
        refine va_put (ref := C) (ty := ty fk) hx hb hts hin ty hty hnm hown hK hP hD hSt r he hc fk hkN (hts _ hlk) (fun x hx' => by rw [hTC fk hkN] at hx'; exact hx') hfin (hty fk hkN) ((ht2 hki _).1) ((ht2 hki _).2) (by rw [List.length_mapIdx, hkl]; exact hkN) hd (fun H1 locs1 hP1 hD1 hS1 => ?_)
        have hq : (jm_wl aC ρ h).set r (ρ r, .inr (ci, ((jm_kd ci).mapIdx (fun k kind => jm_fv ρ h r k kind)).set fk (.ref (ρ v)))) = jm_wl aC ρ (jm_wA h r fk (some v)) := by
          rw [jm_fset (h' := jm_wA h r fk (some v)) hkd ?_ ?_, ← jm_ce_ob (aC := aC) (h := jm_wA h r fk (some v)) hgd.2 hci]
          · exact jm_wl_set rfl hgd.1 (fun i hi => jm_ne_wA i hi)
          · subst hki; unfold jm_fv; rw [if_neg (by decide), if_pos rfl]; exact congrArg (fun o : Option Nat => va_rf (o.map ρ)) ((congrFun (jm_u_same (f := jm_A h)) fk).trans (if_pos rfl))
          · intro j kd hj
            unfold jm_fv; rw [show jm_A (jm_wA h r fk (some v)) r j = jm_A h r j from (congrFun (jm_u_same (f := jm_A h)) j).trans (if_neg hj)]; rfl
        exact k ρ H1 locs1 ls ⟨hρ, hq ▸ hP1, hq ▸ hD1, hS1, hl, hlen⟩
      · cases hg
    · cases hg
  · unfold op_putA jm_go at hg
    (repeat' split at hg) <;> cases hg

theorem sn_putIF {own : String} {cc : ByteArray} {nL : Nat} {ret : Option FieldType} {ini : Bool} {pc : Nat} {idx ci fk kind : Nat} (hd : decode cc pc = .ok (.putfield idx, 3)) (hf : kc_f own idx ci fk kind true true) (hinit : ini = true) (hki : kind = 0) : jm_snd own cc nL ret ini pc (op_putI ci fk) := by
  intro p l e s m args below meth c D aC A ρ0 n0 s0 d call rF hF hcx hcp hcs L st h hL hS hH hn hs
  obtain ⟨hx, hb, hml, hown, hts, hr, hlocks, hini, hK, hA⟩ := hcx
  refine ⟨fun pc' L' st' h1 hg hN hSl k ρ H locs ls hrel => ?_, fun hg ρ H locs ls hrel => ?_⟩
  · obtain ⟨hρ, hP, hD, hSt, hl, hlen⟩ := id hrel
    unfold op_putI jm_go at hg
    obtain ⟨C, T, N, ty, ⟨hc, hin, hty, hnm, hci, hTC, hkl⟩, hkN, hlk, hkd, hfin, ht0, ht1, ht3, ht2, hCo⟩ := hf
    split at hg
    · split at hg
      · rename_i v r st2 hgd
        cases hg
        have he : (jm_wl aC ρ h)[r]? = some (ρ r, .inr (ci, (jm_kd ci).mapIdx (fun k kind => jm_fv ρ h r k kind))) := by rw [jm_wl_get hgd.1, jm_ce_ob hgd.2 hci]
        refine va_putF (ref := C) (ty := ty fk) hx hb hts hin ty hty hnm hown hK hP hD hSt r he hc fk hkN (hts _ hlk) (fun x hx' => by rw [hTC fk hkN] at hx'; exact hx') hfin (hini hinit) ((hTC fk hkN).trans (hCo rfl rfl)) (hty fk hkN) (by rw [ht0 hki]; rfl) (by rw [ht0 hki]; rfl) (by rw [List.length_mapIdx, hkl]; exact hkN) hd (fun H1 locs1 hP1 hD1 hS1 => ?_)
        have hq : (jm_wl aC ρ h).set r (ρ r, .inr (ci, ((jm_kd ci).mapIdx (fun k kind => jm_fv ρ h r k kind)).set fk (.int v))) = jm_wl aC ρ (jm_wI h r fk v) := by
          rw [jm_fset (h' := jm_wI h r fk v) hkd ?_ ?_, ← jm_ce_ob (aC := aC) (h := jm_wI h r fk v) hgd.2 hci]
          · exact jm_wl_set rfl hgd.1 (fun i hi => jm_ne_wI i hi)
          · subst hki; unfold jm_fv; rw [if_neg (by decide), if_neg (by decide)]; exact congrArg Value.int ((congrFun (jm_u_same (f := jm_I h)) fk).trans (if_pos rfl))
          · intro j kd hj
            unfold jm_fv; rw [show jm_I (jm_wI h r fk v) r j = jm_I h r j from (congrFun (jm_u_same (f := jm_I h)) j).trans (if_neg hj)]; rfl
        exact k ρ H1 locs1 ls ⟨hρ, hq ▸ hP1, hq ▸ hD1, hS1, hl, hlen⟩
      · cases hg
    · cases hg
  · unfold op_putI jm_go at hg
    (repeat' split at hg) <;> cases hg

theorem sn_putJF {own : String} {cc : ByteArray} {nL : Nat} {ret : Option FieldType} {ini : Bool} {pc : Nat} {idx ci fk kind : Nat} (hd : decode cc pc = .ok (.putfield idx, 3)) (hf : kc_f own idx ci fk kind true true) (hinit : ini = true) (hki : kind = 1) : jm_snd own cc nL ret ini pc (op_putJ ci fk) := by
  intro p l e s m args below meth c D aC A ρ0 n0 s0 d call rF hF hcx hcp hcs L st h hL hS hH hn hs
  obtain ⟨hx, hb, hml, hown, hts, hr, hlocks, hini, hK, hA⟩ := hcx
  refine ⟨fun pc' L' st' h1 hg hN hSl k ρ H locs ls hrel => ?_, fun hg ρ H locs ls hrel => ?_⟩
  · obtain ⟨hρ, hP, hD, hSt, hl, hlen⟩ := id hrel
    unfold op_putJ jm_go at hg
    obtain ⟨C, T, N, ty, ⟨hc, hin, hty, hnm, hci, hTC, hkl⟩, hkN, hlk, hkd, hfin, ht0, ht1, ht3, ht2, hCo⟩ := hf
    split at hg
    · split at hg
      · rename_i v r st2 hgd
        cases hg
        have he : (jm_wl aC ρ h)[r]? = some (ρ r, .inr (ci, (jm_kd ci).mapIdx (fun k kind => jm_fv ρ h r k kind))) := by rw [jm_wl_get hgd.1, jm_ce_ob hgd.2 hci]
        refine va_putF (ref := C) (ty := ty fk) hx hb hts hin ty hty hnm hown hK hP hD hSt r he hc fk hkN (hts _ hlk) (fun x hx' => by rw [hTC fk hkN] at hx'; exact hx') hfin (hini hinit) ((hTC fk hkN).trans (hCo rfl rfl)) (hty fk hkN) (by rw [ht1 hki]; rfl) (by rw [ht1 hki]; rfl) (by rw [List.length_mapIdx, hkl]; exact hkN) hd (fun H1 locs1 hP1 hD1 hS1 => ?_)
        have hq : (jm_wl aC ρ h).set r (ρ r, .inr (ci, ((jm_kd ci).mapIdx (fun k kind => jm_fv ρ h r k kind)).set fk (.long v))) = jm_wl aC ρ (jm_wJ h r fk v) := by
          rw [jm_fset (h' := jm_wJ h r fk v) hkd ?_ ?_, ← jm_ce_ob (aC := aC) (h := jm_wJ h r fk v) hgd.2 hci]
          · exact jm_wl_set rfl hgd.1 (fun i hi => jm_ne_wJ i hi)
          · subst hki; unfold jm_fv; rw [if_pos rfl]; exact congrArg Value.long ((congrFun (jm_u_same (f := jm_J h)) fk).trans (if_pos rfl))
          · intro j kd hj
            unfold jm_fv; rw [show jm_J (jm_wJ h r fk v) r j = jm_J h r j from (congrFun (jm_u_same (f := jm_J h)) j).trans (if_neg hj)]; rfl
        exact k ρ H1 locs1 ls ⟨hρ, hq ▸ hP1, hq ▸ hD1, hS1, hl, hlen⟩
      · cases hg
    · cases hg
  · unfold op_putJ jm_go at hg
    (repeat' split at hg) <;> cases hg

theorem sn_putAF {own : String} {cc : ByteArray} {nL : Nat} {ret : Option FieldType} {ini : Bool} {pc : Nat} {idx ci fk kind : Nat} (hd : decode cc pc = .ok (.putfield idx, 3)) (hf : kc_f own idx ci fk kind true true) (hinit : ini = true) (hki : kind = 2) : jm_snd own cc nL ret ini pc (op_putA ci fk) := by
  intro p l e s m args below meth c D aC A ρ0 n0 s0 d call rF hF hcx hcp hcs L st h hL hS hH hn hs
  obtain ⟨hx, hb, hml, hown, hts, hr, hlocks, hini, hK, hA⟩ := hcx
  refine ⟨fun pc' L' st' h1 hg hN hSl k ρ H locs ls hrel => ?_, fun hg ρ H locs ls hrel => ?_⟩
  · obtain ⟨hρ, hP, hD, hSt, hl, hlen⟩ := id hrel
    unfold op_putA jm_go at hg
    obtain ⟨C, T, N, ty, ⟨hc, hin, hty, hnm, hci, hTC, hkl⟩, hkN, hlk, hkd, hfin, ht0, ht1, ht3, ht2, hCo⟩ := hf
    split at hg
    · split at hg
      · rename_i v r st2 hgd
        cases hg
        have he : (jm_wl aC ρ h)[r]? = some (ρ r, .inr (ci, (jm_kd ci).mapIdx (fun k kind => jm_fv ρ h r k kind))) := by rw [jm_wl_get hgd.1, jm_ce_ob hgd.2 hci]
        refine va_putF (ref := C) (ty := ty fk) hx hb hts hin ty hty hnm hown hK hP hD hSt r he hc fk hkN (hts _ hlk) (fun x hx' => by rw [hTC fk hkN] at hx'; exact hx') hfin (hini hinit) ((hTC fk hkN).trans (hCo rfl rfl)) (hty fk hkN) ((ht2 hki _).1) ((ht2 hki _).2) (by rw [List.length_mapIdx, hkl]; exact hkN) hd (fun H1 locs1 hP1 hD1 hS1 => ?_)
        have hq : (jm_wl aC ρ h).set r (ρ r, .inr (ci, ((jm_kd ci).mapIdx (fun k kind => jm_fv ρ h r k kind)).set fk (.ref (ρ v)))) = jm_wl aC ρ (jm_wA h r fk (some v)) := by
          rw [jm_fset (h' := jm_wA h r fk (some v)) hkd ?_ ?_, ← jm_ce_ob (aC := aC) (h := jm_wA h r fk (some v)) hgd.2 hci]
          · exact jm_wl_set rfl hgd.1 (fun i hi => jm_ne_wA i hi)
          · subst hki; unfold jm_fv; rw [if_neg (by decide), if_pos rfl]; exact congrArg (fun o : Option Nat => va_rf (o.map ρ)) ((congrFun (jm_u_same (f := jm_A h)) fk).trans (if_pos rfl))
          · intro j kd hj
            unfold jm_fv; rw [show jm_A (jm_wA h r fk (some v)) r j = jm_A h r j from (congrFun (jm_u_same (f := jm_A h)) j).trans (if_neg hj)]; rfl
        exact k ρ H1 locs1 ls ⟨hρ, hq ▸ hP1, hq ▸ hD1, hS1, hl, hlen⟩
      · cases hg
    · cases hg
  · unfold op_putA jm_go at hg
    (repeat' split at hg) <;> cases hg

theorem sn_putZ {own : String} {cc : ByteArray} {nL : Nat} {ret : Option FieldType} {ini : Bool} {pc : Nat} {idx ci fk kind : Nat} (hd : decode cc pc = .ok (.putfield idx, 3)) (hf : kc_f own idx ci fk kind false true) (hki : kind = 3) : jm_snd own cc nL ret ini pc (op_putZ ci fk) := by
  intro p l e s m args below meth c D aC A ρ0 n0 s0 d call rF hF hcx hcp hcs L st h hL hS hH hn hs
  obtain ⟨hx, hb, hml, hown, hts, hr, hlocks, hini, hK, hA⟩ := hcx
  refine ⟨fun pc' L' st' h1 hg hN hSl k ρ H locs ls hrel => ?_, fun hg ρ H locs ls hrel => ?_⟩
  · obtain ⟨hρ, hP, hD, hSt, hl, hlen⟩ := id hrel
    unfold op_putZ jm_go at hg
    obtain ⟨C, T, N, ty, ⟨hc, hin, hty, hnm, hci, hTC, hkl⟩, hkN, hlk, hkd, hfin, ht0, ht1, ht3, ht2, hCo⟩ := hf
    split at hg
    · split at hg
      · rename_i v r st2 hgd
        split at hg
        · rename_i hv1
          cases hg
          have he : (jm_wl aC ρ h)[r]? = some (ρ r, .inr (ci, (jm_kd ci).mapIdx (fun k kind => jm_fv ρ h r k kind))) := by rw [jm_wl_get hgd.1, jm_ce_ob hgd.2 hci]
          refine va_put (ref := C) (ty := ty fk) hx hb hts hin ty hty hnm hown hK hP hD hSt r he hc fk hkN (hts _ hlk) (fun x hx' => by rw [hTC fk hkN] at hx'; exact hx') hfin (hty fk hkN) (by rw [ht3 hki]; exact congrArg Value.int hv1) (by rw [ht3 hki]; exact jm_fitsZ hv1) (by rw [List.length_mapIdx, hkl]; exact hkN) hd (fun H1 locs1 hP1 hD1 hS1 => ?_)
          have hq : (jm_wl aC ρ h).set r (ρ r, .inr (ci, ((jm_kd ci).mapIdx (fun k kind => jm_fv ρ h r k kind)).set fk (.int v))) = jm_wl aC ρ (jm_wI h r fk v) := by
            rw [jm_fset (h' := jm_wI h r fk v) hkd ?_ ?_, ← jm_ce_ob (aC := aC) (h := jm_wI h r fk v) hgd.2 hci]
            · exact jm_wl_set rfl hgd.1 (fun i hi => jm_ne_wI i hi)
            · subst hki; unfold jm_fv; rw [if_neg (by decide), if_neg (by decide)]; exact congrArg Value.int ((congrFun (jm_u_same (f := jm_I h)) fk).trans (if_pos rfl))
            · intro j kd hj
              unfold jm_fv; rw [show jm_I (jm_wI h r fk v) r j = jm_I h r j from (congrFun (jm_u_same (f := jm_I h)) j).trans (if_neg hj)]; rfl
          exact k ρ H1 locs1 ls ⟨hρ, hq ▸ hP1, hq ▸ hD1, hS1, hl, hlen⟩
        · cases hg
      · cases hg
    · cases hg
  · unfold op_putZ jm_go at hg
    (repeat' split at hg) <;> cases hg

theorem sn_iald {own : String} {cc : ByteArray} {nL : Nat} {ret : Option FieldType} {ini : Bool} {pc : Nat} (hd : decode cc pc = .ok (.iaload, 1)) : jm_snd own cc nL ret ini pc (op_iald 13) := by
  intro p l e s m args below meth c D aC A ρ0 n0 s0 d call rF hF hcx hcp hcs L st h hL hS hH hn hs
  obtain ⟨hx, hb, hml, hown, hts, hr, hlocks, hini, hK, hA⟩ := hcx
  refine ⟨fun pc' L' st' h1 hg hN hSl k ρ H locs ls hrel => ?_, fun hg ρ H locs ls hrel => ?_⟩
  · obtain ⟨hρ, hP, hD, hSt, hl, hlen⟩ := id hrel
    unfold op_iald jm_go at hg
    split at hg
    · split at hg
      · rename_i i r st2 hgd
        cases hg
        have he := (jm_wl_get (aC := aC) (ρ := ρ) hgd.1.1).trans (congrArg (fun e => some (ρ r, e)) (jm_ce_iz hgd.1.2 (by decide)))
        exact va_iald hx hb hK hP r 1 he rfl (jm_in hgd.2) hd (k ρ H locs ls hrel)
      · cases hg
    · cases hg
  · unfold op_iald jm_go at hg
    (repeat' split at hg) <;> cases hg

theorem sn_bald {own : String} {cc : ByteArray} {nL : Nat} {ret : Option FieldType} {ini : Bool} {pc : Nat} (hd : decode cc pc = .ok (.baload, 1)) : jm_snd own cc nL ret ini pc (op_iald 12) := by
  intro p l e s m args below meth c D aC A ρ0 n0 s0 d call rF hF hcx hcp hcs L st h hL hS hH hn hs
  obtain ⟨hx, hb, hml, hown, hts, hr, hlocks, hini, hK, hA⟩ := hcx
  refine ⟨fun pc' L' st' h1 hg hN hSl k ρ H locs ls hrel => ?_, fun hg ρ H locs ls hrel => ?_⟩
  · obtain ⟨hρ, hP, hD, hSt, hl, hlen⟩ := id hrel
    unfold op_iald jm_go at hg
    split at hg
    · split at hg
      · rename_i i r st2 hgd
        cases hg
        have he := (jm_wl_get (aC := aC) (ρ := ρ) hgd.1.1).trans (congrArg (fun e => some (ρ r, e)) (jm_ce_iz hgd.1.2 (by decide)))
        exact va_bald hx hb hK hP r 0 he rfl (jm_in hgd.2) hd (k ρ H locs ls hrel)
      · cases hg
    · cases hg
  · unfold op_iald jm_go at hg
    (repeat' split at hg) <;> cases hg

theorem sn_zald {own : String} {cc : ByteArray} {nL : Nat} {ret : Option FieldType} {ini : Bool} {pc : Nat} (hd : decode cc pc = .ok (.baload, 1)) : jm_snd own cc nL ret ini pc (op_iald 15) := by
  intro p l e s m args below meth c D aC A ρ0 n0 s0 d call rF hF hcx hcp hcs L st h hL hS hH hn hs
  obtain ⟨hx, hb, hml, hown, hts, hr, hlocks, hini, hK, hA⟩ := hcx
  refine ⟨fun pc' L' st' h1 hg hN hSl k ρ H locs ls hrel => ?_, fun hg ρ H locs ls hrel => ?_⟩
  · obtain ⟨hρ, hP, hD, hSt, hl, hlen⟩ := id hrel
    unfold op_iald jm_go at hg
    split at hg
    · split at hg
      · rename_i i r st2 hgd
        cases hg
        have he := (jm_wl_get (aC := aC) (ρ := ρ) hgd.1.1).trans (congrArg (fun e => some (ρ r, e)) (jm_ce_iz hgd.1.2 (by decide)))
        exact va_zald hx hb hK hP r 3 he rfl (jm_in hgd.2) hd (k ρ H locs ls hrel)
      · cases hg
    · cases hg
  · unfold op_iald jm_go at hg
    (repeat' split at hg) <;> cases hg

theorem sn_lald {own : String} {cc : ByteArray} {nL : Nat} {ret : Option FieldType} {ini : Bool} {pc : Nat} (hd : decode cc pc = .ok (.laload, 1)) : jm_snd own cc nL ret ini pc (op_lald) := by
  intro p l e s m args below meth c D aC A ρ0 n0 s0 d call rF hF hcx hcp hcs L st h hL hS hH hn hs
  obtain ⟨hx, hb, hml, hown, hts, hr, hlocks, hini, hK, hA⟩ := hcx
  refine ⟨fun pc' L' st' h1 hg hN hSl k ρ H locs ls hrel => ?_, fun hg ρ H locs ls hrel => ?_⟩
  · obtain ⟨hρ, hP, hD, hSt, hl, hlen⟩ := id hrel
    unfold op_lald jm_go at hg
    split at hg
    · split at hg
      · rename_i i r st2 hgd
        cases hg
        have he := (jm_wl_get (aC := aC) (ρ := ρ) hgd.1.1).trans (congrArg (fun e => some (ρ r, e)) (jm_ce_j hgd.1.2))
        exact va_lald hx hb hK hP r 2 he rfl (jm_in hgd.2) hd (k ρ H locs ls hrel)
      · cases hg
    · cases hg
  · unfold op_lald jm_go at hg
    (repeat' split at hg) <;> cases hg

theorem sn_aald {own : String} {cc : ByteArray} {nL : Nat} {ret : Option FieldType} {ini : Bool} {pc : Nat} (hd : decode cc pc = .ok (.aaload, 1)) : jm_snd own cc nL ret ini pc (op_aald) := by
  intro p l e s m args below meth c D aC A ρ0 n0 s0 d call rF hF hcx hcp hcs L st h hL hS hH hn hs
  obtain ⟨hx, hb, hml, hown, hts, hr, hlocks, hini, hK, hA⟩ := hcx
  refine ⟨fun pc' L' st' h1 hg hN hSl k ρ H locs ls hrel => ?_, fun hg ρ H locs ls hrel => ?_⟩
  · obtain ⟨hρ, hP, hD, hSt, hl, hlen⟩ := id hrel
    unfold op_aald jm_go at hg
    split at hg
    · split at hg
      · rename_i i r st2 hgd
        cases hg
        have he := (jm_wl_get (aC := aC) (ρ := ρ) hgd.1.1).trans (congrArg (fun e => some (ρ r, e)) (jm_ce_a hgd.1.2))
        refine va_aldq hx hb hK hP r 4 he rfl (jm_in hgd.2) hd ?_
        have := k ρ H locs ls hrel
        rw [List.map_cons, jm_cv_rf] at this
        exact this
      · cases hg
    · cases hg
  · unfold op_aald jm_go at hg
    (repeat' split at hg) <;> cases hg

theorem sn_iast {own : String} {cc : ByteArray} {nL : Nat} {ret : Option FieldType} {ini : Bool} {pc : Nat} (hd : decode cc pc = .ok (.iastore, 1)) : jm_snd own cc nL ret ini pc (op_iast) := by
  intro p l e s m args below meth c D aC A ρ0 n0 s0 d call rF hF hcx hcp hcs L st h hL hS hH hn hs
  obtain ⟨hx, hb, hml, hown, hts, hr, hlocks, hini, hK, hA⟩ := hcx
  refine ⟨fun pc' L' st' h1 hg hN hSl k ρ H locs ls hrel => ?_, fun hg ρ H locs ls hrel => ?_⟩
  · obtain ⟨hρ, hP, hD, hSt, hl, hlen⟩ := id hrel
    unfold op_iast jm_go at hg
    split at hg
    · split at hg
      · rename_i v i r st2 hgd
        cases hg
        have he := (jm_wl_get (aC := aC) (ρ := ρ) hgd.1.1).trans (congrArg (fun e => some (ρ r, e)) (jm_ce_iz hgd.1.2 (by decide)))
        refine va_iast hx hb hK hP hD hSt r 1 he rfl (jm_in hgd.2) hd (fun H1 locs1 hP1 hD1 hS1 => ?_)
        have hq : (jm_wl aC ρ h).set r (ρ r, .inl (aC 13, jm_L h r, .inl (upd (jm_I h r) i.toNatClampNeg v))) = jm_wl aC ρ (jm_wI h r i.toNatClampNeg v) := by
          rw [← jm_wl_set (aC := aC) (ρ := ρ) (h := h) (h' := jm_wI h r i.toNatClampNeg v) rfl hgd.1.1 (fun i hi => jm_ne_wI i hi), jm_ce_iz (h := jm_wI h r i.toNatClampNeg v) hgd.1.2 (by decide)]
          rw [show jm_I (jm_wI h r i.toNatClampNeg v) r = _ from jm_u_same]
          rfl
        exact k ρ H1 locs1 ls ⟨hρ, hq ▸ hP1, hq ▸ hD1, hS1, hl, hlen⟩
      · cases hg
    · cases hg
  · unfold op_iast jm_go at hg
    (repeat' split at hg) <;> cases hg

theorem sn_bast {own : String} {cc : ByteArray} {nL : Nat} {ret : Option FieldType} {ini : Bool} {pc : Nat} (hd : decode cc pc = .ok (.bastore, 1)) : jm_snd own cc nL ret ini pc (op_bast) := by
  intro p l e s m args below meth c D aC A ρ0 n0 s0 d call rF hF hcx hcp hcs L st h hL hS hH hn hs
  obtain ⟨hx, hb, hml, hown, hts, hr, hlocks, hini, hK, hA⟩ := hcx
  refine ⟨fun pc' L' st' h1 hg hN hSl k ρ H locs ls hrel => ?_, fun hg ρ H locs ls hrel => ?_⟩
  · obtain ⟨hρ, hP, hD, hSt, hl, hlen⟩ := id hrel
    unfold op_bast jm_go at hg
    split at hg
    · split at hg
      · rename_i v i r st2 hgd
        cases hg
        have he := (jm_wl_get (aC := aC) (ρ := ρ) hgd.1.1).trans (congrArg (fun e => some (ρ r, e)) (jm_ce_iz hgd.1.2 (by decide)))
        refine va_bast hx hb hK hP hD hSt r 0 he rfl (jm_in hgd.2) hd (fun H1 locs1 hP1 hD1 hS1 => ?_)
        have hq : (jm_wl aC ρ h).set r (ρ r, .inl (aC 12, jm_L h r, .inl (upd (jm_I h r) i.toNatClampNeg (vp_nar .byte v)))) = jm_wl aC ρ (jm_wI h r i.toNatClampNeg v.toInt8.toInt32) := by
          rw [← jm_wl_set (aC := aC) (ρ := ρ) (h := h) (h' := jm_wI h r i.toNatClampNeg v.toInt8.toInt32) rfl hgd.1.1 (fun i hi => jm_ne_wI i hi), jm_ce_iz (h := jm_wI h r i.toNatClampNeg v.toInt8.toInt32) hgd.1.2 (by decide)]
          rw [show jm_I (jm_wI h r i.toNatClampNeg v.toInt8.toInt32) r = _ from jm_u_same]
          rfl
        exact k ρ H1 locs1 ls ⟨hρ, hq ▸ hP1, hq ▸ hD1, hS1, hl, hlen⟩
      · cases hg
    · cases hg
  · unfold op_bast jm_go at hg
    (repeat' split at hg) <;> cases hg

theorem sn_zast {own : String} {cc : ByteArray} {nL : Nat} {ret : Option FieldType} {ini : Bool} {pc : Nat} (hd : decode cc pc = .ok (.bastore, 1)) : jm_snd own cc nL ret ini pc (op_zast) := by
  intro p l e s m args below meth c D aC A ρ0 n0 s0 d call rF hF hcx hcp hcs L st h hL hS hH hn hs
  obtain ⟨hx, hb, hml, hown, hts, hr, hlocks, hini, hK, hA⟩ := hcx
  refine ⟨fun pc' L' st' h1 hg hN hSl k ρ H locs ls hrel => ?_, fun hg ρ H locs ls hrel => ?_⟩
  · obtain ⟨hρ, hP, hD, hSt, hl, hlen⟩ := id hrel
    unfold op_zast jm_go at hg
    split at hg
    · split at hg
      · rename_i v i r st2 hgd
        cases hg
        have he := (jm_wl_get (aC := aC) (ρ := ρ) hgd.1.1).trans (congrArg (fun e => some (ρ r, e)) (jm_ce_iz hgd.1.2 (by decide)))
        refine va_zast hx hb hK hP hD hSt r 3 he rfl (jm_in hgd.2) hd (fun H1 locs1 hP1 hD1 hS1 => ?_)
        have hq : (jm_wl aC ρ h).set r (ρ r, .inl (aC 15, jm_L h r, .inl (upd (jm_I h r) i.toNatClampNeg (vp_nar .boolean v)))) = jm_wl aC ρ (jm_wI h r i.toNatClampNeg (v &&& 1)) := by
          rw [← jm_wl_set (aC := aC) (ρ := ρ) (h := h) (h' := jm_wI h r i.toNatClampNeg (v &&& 1)) rfl hgd.1.1 (fun i hi => jm_ne_wI i hi), jm_ce_iz (h := jm_wI h r i.toNatClampNeg (v &&& 1)) hgd.1.2 (by decide)]
          rw [show jm_I (jm_wI h r i.toNatClampNeg (v &&& 1)) r = _ from jm_u_same]
          rfl
        exact k ρ H1 locs1 ls ⟨hρ, hq ▸ hP1, hq ▸ hD1, hS1, hl, hlen⟩
      · cases hg
    · cases hg
  · unfold op_zast jm_go at hg
    (repeat' split at hg) <;> cases hg

theorem sn_last {own : String} {cc : ByteArray} {nL : Nat} {ret : Option FieldType} {ini : Bool} {pc : Nat} (hd : decode cc pc = .ok (.lastore, 1)) : jm_snd own cc nL ret ini pc (op_last) := by
  intro p l e s m args below meth c D aC A ρ0 n0 s0 d call rF hF hcx hcp hcs L st h hL hS hH hn hs
  obtain ⟨hx, hb, hml, hown, hts, hr, hlocks, hini, hK, hA⟩ := hcx
  refine ⟨fun pc' L' st' h1 hg hN hSl k ρ H locs ls hrel => ?_, fun hg ρ H locs ls hrel => ?_⟩
  · obtain ⟨hρ, hP, hD, hSt, hl, hlen⟩ := id hrel
    unfold op_last jm_go at hg
    split at hg
    · split at hg
      · rename_i v i r st2 hgd
        cases hg
        have he := (jm_wl_get (aC := aC) (ρ := ρ) hgd.1.1).trans (congrArg (fun e => some (ρ r, e)) (jm_ce_j hgd.1.2))
        refine va_last hx hb hK hP hD hSt r 2 he rfl (jm_in hgd.2) hd (fun H1 locs1 hP1 hD1 hS1 => ?_)
        have hq : (jm_wl aC ρ h).set r (ρ r, .inl (aC 14, jm_L h r, .inr (.inl (vp_updL (jm_J h r) i.toNatClampNeg v)))) = jm_wl aC ρ (jm_wJ h r i.toNatClampNeg v) := by
          rw [← jm_wl_set (aC := aC) (ρ := ρ) (h := h) (h' := jm_wJ h r i.toNatClampNeg v) rfl hgd.1.1 (fun i hi => jm_ne_wJ i hi), jm_ce_j (h := jm_wJ h r i.toNatClampNeg v) hgd.1.2]
          rw [show jm_J (jm_wJ h r i.toNatClampNeg v) r = _ from jm_u_same]
          rfl
        exact k ρ H1 locs1 ls ⟨hρ, hq ▸ hP1, hq ▸ hD1, hS1, hl, hlen⟩
      · cases hg
    · cases hg
  · unfold op_last jm_go at hg
    (repeat' split at hg) <;> cases hg

theorem sn_aast {own : String} {cc : ByteArray} {nL : Nat} {ret : Option FieldType} {ini : Bool} {pc : Nat} (hd : decode cc pc = .ok (.aastore, 1)) : jm_snd own cc nL ret ini pc (op_aast) := by
  intro p l e s m args below meth c D aC A ρ0 n0 s0 d call rF hF hcx hcp hcs L st h hL hS hH hn hs
  obtain ⟨hx, hb, hml, hown, hts, hr, hlocks, hini, hK, hA⟩ := hcx
  refine ⟨fun pc' L' st' h1 hg hN hSl k ρ H locs ls hrel => ?_, fun hg ρ H locs ls hrel => ?_⟩
  · obtain ⟨hρ, hP, hD, hSt, hl, hlen⟩ := id hrel
    unfold op_aast jm_go at hg
    split at hg
    · split at hg
      · rename_i v i r st2 hgd
        cases hg
        have he := (jm_wl_get (aC := aC) (ρ := ρ) hgd.1.1.1).trans (congrArg (fun e => some (ρ r, e)) (jm_ce_a hgd.1.1.2))
        have he2 := (jm_wl_get (aC := aC) (ρ := ρ) hgd.2.1).trans (congrArg (fun e => some (ρ v, e)) (jm_ce_ob hgd.2.2 (by decide)))
        refine va_astq (r := (kc_R1, kc_T1, 14)) hx hb hK hP hD hSt r 4 v 1 he rfl he2 rfl (jm_in hgd.1.2) hd (fun H1 locs1 hP1 hD1 hS1 => ?_)
        have hq : (jm_wl aC ρ h).set r (ρ r, .inl (aC 16, jm_L h r, .inr (.inr (.inr (.inr (va_up (fun j => (jm_A h r j).map ρ) i.toNatClampNeg (some (ρ v)))))))) = jm_wl aC ρ (jm_wA h r i.toNatClampNeg (some v)) := by
          rw [← jm_wl_set (aC := aC) (ρ := ρ) (h := h) (h' := jm_wA h r i.toNatClampNeg (some v)) rfl hgd.1.1.1 (fun i hi => jm_ne_wA i hi), jm_ce_a (h := jm_wA h r i.toNatClampNeg (some v)) hgd.1.1.2]
          have : (fun j => (jm_A (jm_wA h r i.toNatClampNeg (some v)) r j).map ρ) = va_up (fun j => (jm_A h r j).map ρ) i.toNatClampNeg (some (ρ v)) := by
            funext j
            rw [show jm_A (jm_wA h r i.toNatClampNeg (some v)) r j = _ from congrFun (jm_u_same (f := jm_A h)) j]
            unfold va_up
            by_cases hj : j = i.toNatClampNeg
            · rw [if_pos hj, if_pos hj]; rfl
            · rw [if_neg hj, if_neg hj]
          rw [this]
          rfl
        exact k ρ H1 locs1 ls ⟨hρ, hq ▸ hP1, hq ▸ hD1, hS1, hl, hlen⟩
      · cases hg
    · cases hg
  · unfold op_aast jm_go at hg
    (repeat' split at hg) <;> cases hg

