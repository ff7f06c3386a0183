/-! The law's loop, and the walk of its body. -/
theorem lw_in {L a : Nat} (h : a < L) (hL : L ≤ 3072) : vp_in (Int32.ofInt (a : Int)) L := by
  obtain ⟨h1, h2, h3⟩ := rg_nat (i := (a : Int)) (n := L) (by omega) (by omega) (Nat.ble_eq_true_of_le (by omega))
  intro q
  rcases q with q | q
  · exact absurd h1 (Int32.not_le.mpr q)
  · rw [h2] at q
    omega
theorem lw_in6 {L r : Nat} (h : 6 * r + 6 ≤ L) (hL : L ≤ 3072) : ∀ t : Nat, t < 6 → vp_in (Int32.ofInt ((6 * r : Nat) : Int) + Int32.ofInt (t : Int)) L := by
  intro t ht
  rw [← Int32.ofInt_add, show ((6 * r : Nat) : Int) + (t : Int) = ((6 * r + t : Nat) : Int) by omega]
  exact lw_in (by omega) hL
theorem lw_gtL {L r : Nat} (hL : L ≤ 3072) (hr : 6 * r ≤ 3078) : Int32.ofNat L - 6 < Int32.ofInt ((6 * r : Nat) : Int) ↔ L < 6 * r + 6 := by
  have e : Int32.ofNat L - 6 = Int32.ofInt ((L : Int) - 6) := by
    rw [Int32.ofInt_sub, im_ofN]
    rfl
  rw [e, rg_lt (by unfold rg; omega) (by unfold rg; omega)]
  omega
def lw_of : Array Int := #[163, 226, 269, 302, 345, 408, 431, 474, 527, 590, 623, 666, 719, 772, 795, 828, 861, 884, 937, 960, 1013, 1036, 1069, 1102, 1125, 1158, 1201, 1254, 1287, 1310, 1343, 1356, 1379, 1422, 1465, 1508, 1531]
section LAWL
variable {p : Program} {l : Launch} {e : Env} {s : State} {m : MethodId} {below : List Frame} {meth : Method} {c : Code} {b L : Nat} {xs : Nat → Int32} {D : va_G} {aC : Nat → ClassId}
theorem lw_e33 : decode code 33 = .ok (.tableswitch 1554 0 36 lw_of, 163) := by decide +kernel
theorem lw_swi (C0 : lw_At p s m meth c b L xs) (hK : va_K D jm_cls (jm_tys aC) s) {Z : Nat} (hZ : Z ≤ 1000000) {i : Int32} (hin : ∀ t : Nat, t < 6 → vp_in (i + Int32.ofInt (t : Int)) L) {ls : Array Slot} (K : ∀ (ρ : Nat → Nat) (sm : gm_S) (n : Nat) (g : gm_T) (H : Heap) (locs : List Loc), lw_I D aC s b Z i ρ sm n g H locs ls → lw_G p l e s m below meth c b H locs (gm_h sm g) 1587 ls []) (t : Int32) {ρ : Nat → Nat} {sm : gm_S} {n : Nat} {g : gm_T} {H : Heap} {locs : List Loc} (I : lw_I D aC s b Z i ρ sm n g H locs ls) : lw_G p l e s m below meth c b H locs (gm_h sm g) 33 ls [.int t] := by
  have hx := C0.1
  have hb := C0.2.1
  by_cases hq : t.toInt < 0 ∨ 36 < t.toInt
  · exact lv_tableOut hx hb lw_e33 (tgt := 1587) hq rfl (K ρ sm n g H locs I)
  · have q1 : ¬ t.toInt < 0 := fun z => hq (Or.inl z)
    have q2 : ¬ 36 < t.toInt := fun z => hq (Or.inr z)
    have w : t.toInt = 0 ∨ t.toInt = 1 ∨ t.toInt = 2 ∨ t.toInt = 3 ∨ t.toInt = 4 ∨ t.toInt = 5 ∨ t.toInt = 6 ∨ t.toInt = 7 ∨ t.toInt = 8 ∨ t.toInt = 9 ∨ t.toInt = 10 ∨ t.toInt = 11 ∨ t.toInt = 12 ∨ t.toInt = 13 ∨ t.toInt = 14 ∨ t.toInt = 15 ∨ t.toInt = 16 ∨ t.toInt = 17 ∨ t.toInt = 18 ∨ t.toInt = 19 ∨ t.toInt = 20 ∨ t.toInt = 21 ∨ t.toInt = 22 ∨ t.toInt = 23 ∨ t.toInt = 24 ∨ t.toInt = 25 ∨ t.toInt = 26 ∨ t.toInt = 27 ∨ t.toInt = 28 ∨ t.toInt = 29 ∨ t.toInt = 30 ∨ t.toInt = 31 ∨ t.toInt = 32 ∨ t.toInt = 33 ∨ t.toInt = 34 ∨ t.toInt = 35 ∨ t.toInt = 36 := by omega
    rcases w with w | w | w | w | w | w | w | w | w | w | w | w | w | w | w | w | w | w | w | w | w | w | w | w | w | w | w | w | w | w | w | w | w | w | w | w | w
    · exact lv_tableIn hx hb lw_e33 (off := 163) (tgt := 196) q1 q2 (by rw [w]; rfl) rfl (lw_t0 C0 hK hZ hin ls K ρ sm n g H locs I)
    · exact lv_tableIn hx hb lw_e33 (off := 226) (tgt := 259) q1 q2 (by rw [w]; rfl) rfl (lw_t1 C0 hK hZ hin ls K ρ sm n g H locs I)
    · exact lv_tableIn hx hb lw_e33 (off := 269) (tgt := 302) q1 q2 (by rw [w]; rfl) rfl (lw_t2 C0 hK hZ hin ls K ρ sm n g H locs I)
    · exact lv_tableIn hx hb lw_e33 (off := 302) (tgt := 335) q1 q2 (by rw [w]; rfl) rfl (lw_t3 C0 hK hZ hin ls K ρ sm n g H locs I)
    · exact lv_tableIn hx hb lw_e33 (off := 345) (tgt := 378) q1 q2 (by rw [w]; rfl) rfl (lw_t4 C0 hK hZ hin ls K ρ sm n g H locs I)
    · exact lv_tableIn hx hb lw_e33 (off := 408) (tgt := 441) q1 q2 (by rw [w]; rfl) rfl (lw_t5 C0 hK hZ hin ls K ρ sm n g H locs I)
    · exact lv_tableIn hx hb lw_e33 (off := 431) (tgt := 464) q1 q2 (by rw [w]; rfl) rfl (lw_t6 C0 hK hZ hin ls K ρ sm n g H locs I)
    · exact lv_tableIn hx hb lw_e33 (off := 474) (tgt := 507) q1 q2 (by rw [w]; rfl) rfl (lw_t7 C0 hK hZ hin ls K ρ sm n g H locs I)
    · exact lv_tableIn hx hb lw_e33 (off := 527) (tgt := 560) q1 q2 (by rw [w]; rfl) rfl (lw_t8 C0 hK hZ hin ls K ρ sm n g H locs I)
    · exact lv_tableIn hx hb lw_e33 (off := 590) (tgt := 623) q1 q2 (by rw [w]; rfl) rfl (lw_t9 C0 hK hZ hin ls K ρ sm n g H locs I)
    · exact lv_tableIn hx hb lw_e33 (off := 623) (tgt := 656) q1 q2 (by rw [w]; rfl) rfl (lw_t10 C0 hK hZ hin ls K ρ sm n g H locs I)
    · exact lv_tableIn hx hb lw_e33 (off := 666) (tgt := 699) q1 q2 (by rw [w]; rfl) rfl (lw_t11 C0 hK hZ hin ls K ρ sm n g H locs I)
    · exact lv_tableIn hx hb lw_e33 (off := 719) (tgt := 752) q1 q2 (by rw [w]; rfl) rfl (lw_t12 C0 hK hZ hin ls K ρ sm n g H locs I)
    · exact lv_tableIn hx hb lw_e33 (off := 772) (tgt := 805) q1 q2 (by rw [w]; rfl) rfl (lw_t13 C0 hK hZ hin ls K ρ sm n g H locs I)
    · exact lv_tableIn hx hb lw_e33 (off := 795) (tgt := 828) q1 q2 (by rw [w]; rfl) rfl (lw_t14 C0 hK hZ hin ls K ρ sm n g H locs I)
    · exact lv_tableIn hx hb lw_e33 (off := 828) (tgt := 861) q1 q2 (by rw [w]; rfl) rfl (lw_t15 C0 hK hZ hin ls K ρ sm n g H locs I)
    · exact lv_tableIn hx hb lw_e33 (off := 861) (tgt := 894) q1 q2 (by rw [w]; rfl) rfl (lw_t16 C0 hK hZ hin ls K ρ sm n g H locs I)
    · exact lv_tableIn hx hb lw_e33 (off := 884) (tgt := 917) q1 q2 (by rw [w]; rfl) rfl (lw_t17 C0 hK hZ hin ls K ρ sm n g H locs I)
    · exact lv_tableIn hx hb lw_e33 (off := 937) (tgt := 970) q1 q2 (by rw [w]; rfl) rfl (lw_t18 C0 hK hZ hin ls K ρ sm n g H locs I)
    · exact lv_tableIn hx hb lw_e33 (off := 960) (tgt := 993) q1 q2 (by rw [w]; rfl) rfl (lw_t19 C0 hK hZ hin ls K ρ sm n g H locs I)
    · exact lv_tableIn hx hb lw_e33 (off := 1013) (tgt := 1046) q1 q2 (by rw [w]; rfl) rfl (lw_t20 C0 hK hZ hin ls K ρ sm n g H locs I)
    · exact lv_tableIn hx hb lw_e33 (off := 1036) (tgt := 1069) q1 q2 (by rw [w]; rfl) rfl (lw_t21 C0 hK hZ hin ls K ρ sm n g H locs I)
    · exact lv_tableIn hx hb lw_e33 (off := 1069) (tgt := 1102) q1 q2 (by rw [w]; rfl) rfl (lw_t22 C0 hK hZ hin ls K ρ sm n g H locs I)
    · exact lv_tableIn hx hb lw_e33 (off := 1102) (tgt := 1135) q1 q2 (by rw [w]; rfl) rfl (lw_t23 C0 hK hZ hin ls K ρ sm n g H locs I)
    · exact lv_tableIn hx hb lw_e33 (off := 1125) (tgt := 1158) q1 q2 (by rw [w]; rfl) rfl (lw_t24 C0 hK hZ hin ls K ρ sm n g H locs I)
    · exact lv_tableIn hx hb lw_e33 (off := 1158) (tgt := 1191) q1 q2 (by rw [w]; rfl) rfl (lw_t25 C0 hK hZ hin ls K ρ sm n g H locs I)
    · exact lv_tableIn hx hb lw_e33 (off := 1201) (tgt := 1234) q1 q2 (by rw [w]; rfl) rfl (lw_t26 C0 hK hZ hin ls K ρ sm n g H locs I)
    · exact lv_tableIn hx hb lw_e33 (off := 1254) (tgt := 1287) q1 q2 (by rw [w]; rfl) rfl (lw_t27 C0 hK hZ hin ls K ρ sm n g H locs I)
    · exact lv_tableIn hx hb lw_e33 (off := 1287) (tgt := 1320) q1 q2 (by rw [w]; rfl) rfl (lw_t28 C0 hK hZ hin ls K ρ sm n g H locs I)
    · exact lv_tableIn hx hb lw_e33 (off := 1310) (tgt := 1343) q1 q2 (by rw [w]; rfl) rfl (lw_t29 C0 hK hZ hin ls K ρ sm n g H locs I)
    · exact lv_tableIn hx hb lw_e33 (off := 1343) (tgt := 1376) q1 q2 (by rw [w]; rfl) rfl (lw_t30 C0 hK hZ hin ls K ρ sm n g H locs I)
    · exact lv_tableIn hx hb lw_e33 (off := 1356) (tgt := 1389) q1 q2 (by rw [w]; rfl) rfl (lw_t31 C0 hK hZ hin ls K ρ sm n g H locs I)
    · exact lv_tableIn hx hb lw_e33 (off := 1379) (tgt := 1412) q1 q2 (by rw [w]; rfl) rfl (lw_t32 C0 hK hZ hin ls K ρ sm n g H locs I)
    · exact lv_tableIn hx hb lw_e33 (off := 1422) (tgt := 1455) q1 q2 (by rw [w]; rfl) rfl (lw_t33 C0 hK hZ hin ls K ρ sm n g H locs I)
    · exact lv_tableIn hx hb lw_e33 (off := 1465) (tgt := 1498) q1 q2 (by rw [w]; rfl) rfl (lw_t34 C0 hK hZ hin ls K ρ sm n g H locs I)
    · exact lv_tableIn hx hb lw_e33 (off := 1508) (tgt := 1541) q1 q2 (by rw [w]; rfl) rfl (lw_t35 C0 hK hZ hin ls K ρ sm n g H locs I)
    · exact lv_tableIn hx hb lw_e33 (off := 1531) (tgt := 1564) q1 q2 (by rw [w]; rfl) rfl (lw_t36 C0 hK hZ hin ls K ρ sm n g H locs I)
theorem lw_head (C0 : lw_At p s m meth c b L xs) (hK : va_K D jm_cls (jm_tys aC) s) (hL : L ≤ 3072) {Z : Nat} (hZ : Z ≤ 1000000) {r : Nat} (h2 : 6 * r ≤ 3078) {ρ : Nat → Nat} {sm : gm_S} {n : Nat} {g : gm_T} {H : Heap} {locs : List Loc} {ls : Array Slot} (I : lw_I D aC s b Z (Int32.ofInt ((6 * r : Nat) : Int)) ρ sm n g H locs ls) (K : 6 * r + 6 ≤ L → ∀ (ρ : Nat → Nat) (sm : gm_S) (n : Nat) (g : gm_T) (H : Heap) (locs : List Loc), lw_I D aC s b Z (Int32.ofInt ((6 * r : Nat) : Int)) ρ sm n g H locs ls → lw_G p l e s m below meth c b H locs (gm_h sm g) 1587 ls []) : lw_G p l e s m below meth c b H locs (gm_h sm g) 18 ls [] := by
  have I' := I
  obtain ⟨R, hl, F, V⟩ := I
  obtain ⟨hx, hb, hret, hml, hown, hts0, hX, hbl, hlk0, hgv⟩ := id C0
  have l0 := lv_at hl 0 rfl
  have l3 := lv_at hl 3 rfl
  have hS := R.2.2.1
  have hbA : ¬ s.heap.size ≤ b := Nat.not_le.mpr hbl
  have e18 : decode code 18 = .ok (.iload_n 3, 1) := by decide +kernel
  have e19 : decode code (18 + 1) = .ok (.aload_n 0, 1) := by decide +kernel
  have e20 : decode code (18 + 1 + 1) = .ok (.arraylength, 1) := by decide +kernel
  have e21 : decode code (18 + 1 + 1 + 1) = .ok (.bipush 6, 2) := by decide +kernel
  have e23 : decode code (18 + 1 + 1 + 1 + 2) = .ok (.isub, 1) := by decide +kernel
  have e24 : decode code (18 + 1 + 1 + 1 + 2 + 1) = .ok (.if_icmp .gt 1569, 3) := by decide +kernel
  have e27 : decode code 27 = .ok (.aload_n 0, 1) := by decide +kernel
  have e28 : decode code (27 + 1) = .ok (.iload_n 3, 1) := by decide +kernel
  have e29 : decode code (27 + 1 + 1) = .ok (.iaload, 1) := by decide +kernel
  have e30 : decode code (27 + 1 + 1 + 1) = .ok (.bipush 63, 2) := by decide +kernel
  have e32 : decode code (27 + 1 + 1 + 1 + 2) = .ok (.iand, 1) := by decide +kernel
  have x93 : decode code 1593 = .ok (.iconst 1, 1) := by decide +kernel
  have x94 : decode code (1593 + 1) = .ok (.ireturn, 1) := by decide +kernel
  have hroom := lw_room F hZ g
  unfold lw_G
  refine lv_iload_n hx hb e18 rfl l3 (lv_aload_n hx hb e19 rfl l0 (va_slen hx hb hX hbl hbA hS e20 (lv_bipush hx hb (v := 6) e21 (by decide) (lv_isub hx hb e23 (lv_icmp_gt hx hb (tgt := 1593) e24 rfl (fun q => ?_) (fun q => ?_))))))
  · refine lv_iconst hx hb (v := 1) x93 (by decide) ?_
    exact W.widen hroom.1 hroom.2 (va_forget (fun q hq => hS.2.2 q hq) (lw_ret hx hb hret hlk0 x94))
  · have hq : 6 * r + 6 ≤ L := by
      have w := (not_congr (lw_gtL hL h2)).mp q
      omega
    have hin := lw_in6 hq hL
    have h0 : vp_in (Int32.ofInt ((6 * r : Nat) : Int)) L := lw_in (by omega) hL
    have k33 := lw_swi (l := l) (e := e) (below := below) C0 hK hZ hin (K hq) (xs (Int32.ofInt ((6 * r : Nat) : Int)).toNatClampNeg &&& 63) I'
    unfold lw_G at k33
    show W _ _ _ _ _ _ _ _ _ _ _ _ _ _ _ (F0 m 27 ls [])
    exact lv_aload_n hx hb e27 rfl l0 (lv_iload_n hx hb e28 rfl l3 (va_sld hx hb hX hbl hbA hS h0 e29 (lv_bipush hx hb (v := 63) e30 (by decide) (lv_iand hx hb e32 k33))))
theorem lw_loop (C0 : lw_At p s m meth c b L xs) (hK : va_K D jm_cls (jm_tys aC) s) (hL : L ≤ 3072) {Z : Nat} (hZ : Z ≤ 1000000) : ∀ (d r : Nat), L ≤ 6 * r + 6 * d → 6 * r ≤ 3078 → ∀ (ρ : Nat → Nat) (sm : gm_S) (n : Nat) (g : gm_T) (H : Heap) (locs : List Loc) (ls : Array Slot), lw_I D aC s b Z (Int32.ofInt ((6 * r : Nat) : Int)) ρ sm n g H locs ls → lw_G p l e s m below meth c b H locs (gm_h sm g) 18 ls [] := by
  intro d
  induction d with
  | zero =>
    intro r h1 h2 ρ sm n g H locs ls I
    exact lw_head C0 hK hL hZ h2 I (fun w => by omega)
  | succ d ih =>
    intro r h1 h2 ρ sm n g H locs ls I
    refine lw_head C0 hK hL hZ h2 I (fun w => ?_)
    intro ρ sm n g H locs I
    obtain ⟨R, hl, F, V⟩ := I
    have e1 : decode code 1587 = .ok (.iinc 3 6, 3) := by decide +kernel
    have e2 : decode code 1590 = .ok (.goto (-1572), 3) := by decide +kernel
    unfold lw_G
    refine lv_iinc C0.1 C0.2.1 (k := 3) (v := Int32.ofInt ((6 * (r + 1) : Nat) : Int)) e1 hl rfl (by rw [← Int32.ofInt_add]; exact congrArg Int32.ofInt (by omega)) (by decide) rfl (fun ls' hl' => lv_goto C0.1 C0.2.1 (tgt := 18) e2 rfl ?_)
    exact ih (r + 1) (by omega) (by omega) ρ sm n g H locs ls' ⟨R, lv_sub hl' [1, 2, 3, 0] rfl, F, V⟩
end LAWL
