/-! The law from its entry. -/
def kc_h0 : jm_H := (0, 0, fun _ => 0, fun _ => 0, fun _ _ => 0, fun _ _ => 0, fun _ _ => none)
theorem kc_c0 : jm_cH kc_h0 := fun _ _ _ h => by cases h
theorem kc_c1 : jm_cH kc_h1 := jm_cH_al kc_c0 10 0 9 (fun _ => 0)
theorem kc_w0 (D : va_G) (aC : Nat → ClassId) (s : State) : lw_R D aC s (fun _ => 0) kc_h0 s.heap [] := by
  have e : jm_wl aC (fun _ => 0) kc_h0 = [] := rfl
  unfold lw_R
  rw [e]
  exact ⟨(fun k q hq => by cases hq), ⟨(fun i j p q hp => by cases hp), (fun k q hq => by cases hq)⟩, va_S.rf, kc_c0⟩
/-- from the entry, for every script of at most 3072 ints, the law comes to its end with true -/
theorem whole_start {p : Program} {e : Env} {s : State} {m : MethodId} {below : List Frame} {meth : Method} {c : Code} (l : Launch) (hflags : l.flags = flags0) {b L : Nat} {xs : Nat → Int32} (hL : L ≤ 3072) (C0 : lw_At p s m meth c b L xs) : W p l e room_1 s m #[Value.ref b] below meth c s.heap [] 0 0 (lw_Z below #[Value.ref b] s) (entryFrame m ([Value.ref b] : List Value).toArray 4) := by
  obtain ⟨D, aC, hK⟩ := lw_Kn (lw_hts C0.2.2.2.2.2.1)
  obtain ⟨h1, Z, sm, g, c1, n1, c2, F, hZ, V⟩ := kc_start
  have hx := C0.1
  have hb := C0.2.1
  rw [lg_entry_eq]
  have hl0 := lv_entry [Value.ref b] (n := 4) (show 1 ≤ 4 by decide)
  generalize ((lg_sl [Value.ref b] ++ List.replicate (4 - (lg_sl [Value.ref b]).length) Slot.unset).toArray) = ls0 at hl0 ⊢
  have hl0 : lv_has ls0 4 [(0, .ref b)] := hl0
  have a1 : jm_cS (jm_N kc_h1) [.ref 0] := jm_cS_cons.mpr ⟨(show 0 < 1 by decide), fun _ h => by cases h⟩
  obtain ⟨p1, p2, p3, -⟩ := jm_cl_pu (fun M pc => jm_CDall.1 M pc) 810 122 _ kc_h1 none h1 a1 kc_c1 c1
  have n3 : jm_N (kc_h3 h1) = 45 := by
    show jm_N h1 + 1 = 45
    rw [n1]
  have a2 : jm_cS (jm_N (kc_h3 h1)) [.ref 44] := jm_cS_cons.mpr ⟨(by rw [n3]; show 44 < 45; decide), fun _ h => by cases h⟩
  obtain ⟨q1, q2, q3, -⟩ := jm_cl_pu (fun M pc => jm_CDall.1 M pc) 810 170 _ (kc_h3 h1) none (gm_h sm g) a2 (jm_cH_al p3 11 0 95 (fun _ => 0)) c2
  have s3 : jm_S (kc_h3 h1) = jm_S h1 + 95 := rfl
  have r2 := lw_room F hZ g
  have e0 : decode code 0 = .ok (.new 7, 3) := by decide +kernel
  have e3 : decode code (0 + 3) = .ok (.dup, 1) := by decide +kernel
  have e4 : decode code (0 + 3 + 1) = .ok (.invokespecial 9, 3) := by decide +kernel
  have e7 : decode code (0 + 3 + 1 + 3) = .ok (.astore_n 1, 1) := by decide +kernel
  have e8 : decode code (0 + 3 + 1 + 3 + 1) = .ok (.new 10, 3) := by decide +kernel
  have e11 : decode code (0 + 3 + 1 + 3 + 1 + 3) = .ok (.dup, 1) := by decide +kernel
  have e12 : decode code (0 + 3 + 1 + 3 + 1 + 3 + 1) = .ok (.invokespecial 12, 3) := by decide +kernel
  have e15 : decode code (0 + 3 + 1 + 3 + 1 + 3 + 1 + 3) = .ok (.astore_n 2, 1) := by decide +kernel
  have e16 : decode code (0 + 3 + 1 + 3 + 1 + 3 + 1 + 3 + 1) = .ok (.iconst 0, 1) := by decide +kernel
  have e17 : decode code (0 + 3 + 1 + 3 + 1 + 3 + 1 + 3 + 1 + 1) = .ok (.istore_n 3, 1) := by decide +kernel
  show lw_G p l e s m below meth c b s.heap [] kc_h0 0 ls0 []
  refine lw_nw C0 hK (h := kc_h0) e0 nw_law_7 (kc_w0 D aC s) (show 0 + 1 ≤ 600000 by decide) (show 0 + 9 ≤ 7302250 by decide) (fun ρ1 H1 _ R1 => ?_)
  show lw_G p l e s m below meth c b H1 [] kc_h1 (0 + 3) ls0 [.ref (ρ1 0)]
  have g4 : lw_G p l e s m below meth c b H1 [] kc_h1 (0 + 3 + 1) ls0 [.ref (ρ1 0), .ref (ρ1 0)] := by
    refine lw_ci C0 hK (h := kc_h1) (r := 0) e4 lk_law_9 a1 c1 R1 hl0.1 (show 1 ≤ 8 by decide) (by rw [n1]; decide) (by omega) (fun ρ2 H2 locs2 hρ2 R2 => ?_)
    have z2 : ρ2 0 = ρ1 0 := hρ2 0 (show 0 < 1 by decide)
    unfold lw_G
    refine lv_astore_n hx hb e7 rfl hl0 (by decide) rfl (fun ls1 hl1 => ?_)
    show lw_G p l e s m below meth c b H2 locs2 h1 (0 + 3 + 1 + 3 + 1) ls1 []
    refine lw_nw C0 hK (h := h1) e8 nw_law_10 R2 (by rw [n1]; decide) (by omega) (fun ρ3 H3 hρ3 R3 => ?_)
    rw [n1]
    have z3 : ρ3 0 = ρ2 0 := hρ3 0 (by rw [n1]; decide)
    have g12 : lw_G p l e s m below meth c b H3 locs2 (kc_h3 h1) (0 + 3 + 1 + 3 + 1 + 3 + 1) ls1 [.ref (ρ3 44), .ref (ρ3 44)] := by
      refine lw_ci C0 hK (h := kc_h3 h1) (r := 44) e12 lk_law_12 a2 c2 R3 hl1.1 (show 1 ≤ 8 by decide) r2.1 r2.2 (fun ρ4 H4 locs4 hρ4 R4 => ?_)
      have z4 : ρ4 0 = ρ3 0 := hρ4 0 (by rw [n3]; decide)
      have z5 : ρ4 44 = ρ3 44 := hρ4 44 (by rw [n3]; decide)
      unfold lw_G
      refine lv_astore_n hx hb e15 rfl hl1 (by decide) rfl (fun ls2 hl2 => ?_)
      refine lv_iconst hx hb (v := Int32.ofInt ((6 * 0 : Nat) : Int)) e16 rfl ?_
      refine lv_istore_n hx hb e17 rfl hl2 (by decide) rfl (fun ls3 hl3 => ?_)
      have hl4 : lv_has ls3 4 [(0, .ref b), (1, .ref (ρ4 0)), (2, .ref (ρ4 44)), (3, .int (Int32.ofInt ((6 * 0 : Nat) : Int)))] := by
        rw [z4, z3, z2, z5]
        exact lv_sub hl3 [3, 2, 1, 0] rfl
      exact lw_loop C0 hK hL hZ L 0 (by omega) (by omega) ρ4 sm 0 g H4 locs4 ls3 ⟨R4, hl4, F, V⟩
    unfold lw_G at g12 ⊢
    exact lv_dup hx hb e11 rfl g12
  unfold lw_G at g4 ⊢
  exact lv_dup hx hb e3 rfl g4
