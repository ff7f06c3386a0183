/-! The law's body: pushing arguments, a case of the switch. -/
def lw_pl : Nat → Nat → Nat → List (Nat × Instr × Nat)
  | 0, _, _ => []
  | k + 1, j, pc => (pc, .aload_n 0, 1) :: (pc + 1, .iload_n 3, 1) :: (pc + 2, .iconst (j : Int), 1) :: (pc + 3, .iadd, 1) :: (pc + 4, .iaload, 1) :: lw_pl k (j + 1) (pc + 5)
def lw_sh (pc k idx1 idx2 : Nat) (off : Int) : List (Nat × Instr × Nat) := (pc, .aload_n 1, 1) :: (pc + 1 + 5 * k, .invokevirtual idx1, 3) :: (pc + 4 + 5 * k, .aload_n 2, 1) :: (pc + 5 + 2 * (5 * k), .invokevirtual idx2, 3) :: (pc + 8 + 2 * (5 * k), .if_icmp .eq off, 3) :: (lw_pl k 1 (pc + 1) ++ lw_pl k 1 (pc + 5 + 5 * k))
def lw_as (xs : Nat → Int32) (i : Int32) : Nat → Nat → List Value
  | 0, _ => []
  | k + 1, j => .int (xs (i + Int32.ofInt (j : Int)).toNatClampNeg) :: lw_as xs i k (j + 1)
theorem lw_as_len (xs : Nat → Int32) (i : Int32) : ∀ k j, (lw_as xs i k j).length = k
  | 0, _ => rfl
  | k + 1, j => by
    show (lw_as xs i k (j + 1)).length + 1 = k + 1
    rw [lw_as_len xs i k (j + 1)]
theorem lw_as_cv (xs : Nat → Int32) (i : Int32) (ρ : Nat → Nat) : ∀ k j, (lw_as xs i k j).map (jm_cv ρ) = lw_as xs i k j
  | 0, _ => rfl
  | k + 1, j => by
    show Value.int _ :: (lw_as xs i k (j + 1)).map (jm_cv ρ) = _
    rw [lw_as_cv xs i ρ k (j + 1)]
    rfl
theorem lw_as_cS (xs : Nat → Int32) (i : Int32) (n : Nat) : ∀ k j, jm_cS n (lw_as xs i k j)
  | 0, _ => fun _ h => by cases h
  | k + 1, j => jm_cS_cons.mpr ⟨trivial, lw_as_cS xs i n k (j + 1)⟩
def lw_Pu (p : Program) (l : Launch) (e : Env) (s : State) (m : MethodId) (below : List Frame) (meth : Method) (c : Code) (b : Nat) (i : Int32) (pc w : Nat) (as : List Value) : Prop := ∀ (H : Heap) (locs : List Loc) (h : jm_H) (ls : Array Slot) (st : List Value), va_S (fun q => s.heap.size ≤ q) s.heap H locs → ls[0]? = some (.val (.ref b)) → ls[3]? = some (.val (.int i)) → lw_G p l e s m below meth c b H locs h (pc + w) ls (as.reverse ++ st) → lw_G p l e s m below meth c b H locs h pc ls st
def lw_I (D : va_G) (aC : Nat → ClassId) (s : State) (b Z : Nat) (i : Int32) (ρ : Nat → Nat) (sm : gm_S) (n : Nat) (g : gm_T) (H : Heap) (locs : List Loc) (ls : Array Slot) : Prop := lw_R D aC s ρ (gm_h sm g) H locs ∧ lv_has ls 4 [(0, .ref b), (1, .ref (ρ 0)), (2, .ref (ρ 44)), (3, .int i)] ∧ bw_F Z sm n ∧ Ivt n g
theorem lw_room {Z n : Nat} {sm : gm_S} (F : bw_F Z sm n) (hZ : Z ≤ 1000000) (g : gm_T) : jm_N (gm_h sm g) ≤ 600000 ∧ jm_S (gm_h sm g) ≤ 7302250 := by
  have n30 : n ≤ 30 := F.1.1.2.1
  have h1 : jm_N (gm_h sm g) = bA n := F.2.1
  have h2 : jm_S (gm_h sm g) = Z + 213 * n := F.2.2
  unfold bA at h1
  omega
section LAWD
variable {p : Program} {l : Launch} {e : Env} {s : State} {m : MethodId} {below : List Frame} {meth : Method} {c : Code} {b L : Nat} {xs : Nat → Int32} {D : va_G} {aC : Nat → ClassId}
theorem lw_ld (C0 : lw_At p s m meth c b L xs) {i v : Int32} {pc : Nat} {n : Int} {H : Heap} {locs : List Loc} {h : jm_H} {ls : Array Slot} {st : List Value} (hS : va_S (fun q => s.heap.size ≤ q) s.heap H locs) (h0 : ls[0]? = some (.val (.ref b))) (h3 : ls[3]? = some (.val (.int i))) (d0 : decode code pc = .ok (.aload_n 0, 1)) (d1 : decode code (pc + 1) = .ok (.iload_n 3, 1)) (d2 : decode code (pc + 2) = .ok (.iconst n, 1)) (hv : Int32.ofInt n = v) (d3 : decode code (pc + 3) = .ok (.iadd, 1)) (d4 : decode code (pc + 4) = .ok (.iaload, 1)) (hin : vp_in (i + v) L) (k : lw_G p l e s m below meth c b H locs h (pc + 5) ls (.int (xs (i + v).toNatClampNeg) :: st)) : lw_G p l e s m below meth c b H locs h pc ls st := by
  obtain ⟨hx, hb, hret, hml, hown, hts0, hX, hbl, hlk0, hgv⟩ := C0
  unfold lw_G at k ⊢
  exact lv_aload_n hx hb d0 rfl h0 (lv_iload_n hx hb d1 rfl h3 (lv_iconst hx hb d2 hv (lv_iadd hx hb d3 (va_sld hx hb hX hbl (Nat.not_le.mpr hbl) hS hin d4 k))))
theorem lw_pu (C0 : lw_At p s m meth c b L xs) {i : Int32} : ∀ (k j pc : Nat), (∀ e ∈ lw_pl k j pc, decode code e.1 = .ok e.2) → (∀ t, j ≤ t → t < j + k → vp_in (i + Int32.ofInt (t : Int)) L) → lw_Pu p l e s m below meth c b i pc (5 * k) (lw_as xs i k j) := by
  intro k
  induction k with
  | zero => intro j pc _ _ H locs h ls st _ _ _ kk; exact kk
  | succ k ih =>
    intro j pc hd hin H locs h ls st hS h0 h3 kk
    have d0 := hd (pc, .aload_n 0, 1) List.mem_cons_self
    have d1 := hd (pc + 1, .iload_n 3, 1) (List.mem_cons_of_mem _ List.mem_cons_self)
    have d2 := hd (pc + 2, .iconst (j : Int), 1) (List.mem_cons_of_mem _ (List.mem_cons_of_mem _ List.mem_cons_self))
    have d3 := hd (pc + 3, .iadd, 1) (List.mem_cons_of_mem _ (List.mem_cons_of_mem _ (List.mem_cons_of_mem _ List.mem_cons_self)))
    have d4 := hd (pc + 4, .iaload, 1) (List.mem_cons_of_mem _ (List.mem_cons_of_mem _ (List.mem_cons_of_mem _ (List.mem_cons_of_mem _ List.mem_cons_self))))
    have hr : ∀ e ∈ lw_pl k (j + 1) (pc + 5), decode code e.1 = .ok e.2 := fun e he => hd e (List.mem_cons_of_mem _ (List.mem_cons_of_mem _ (List.mem_cons_of_mem _ (List.mem_cons_of_mem _ (List.mem_cons_of_mem _ he)))))
    refine lw_ld C0 hS h0 h3 d0 d1 d2 rfl d3 d4 (hin j (Nat.le_refl _) (by omega)) ?_
    refine ih (j + 1) (pc + 5) hr (fun t h1 h2 => hin t (by omega) (by omega)) H locs h ls _ hS h0 h3 ?_
    rw [show pc + 5 + 5 * k = pc + 5 * (k + 1) by omega]
    have e2 : (lw_as xs i (k + 1) j).reverse ++ st = (lw_as xs i k (j + 1)).reverse ++ (.int (xs (i + Int32.ofInt (j : Int)).toNatClampNeg) :: st) := by
      show (Value.int (xs (i + Int32.ofInt (j : Int)).toNatClampNeg) :: lw_as xs i k (j + 1)).reverse ++ st = _
      rw [List.reverse_cons, List.append_assoc]
      rfl
    rw [e2] at kk
    exact kk
/-- both calls of a case, and the comparing of their answers -/
theorem lw_two (C0 : lw_At p s m meth c b L xs) (hK : va_K D jm_cls (jm_tys aC) s) {Z : Nat} (hZ : Z ≤ 1000000) {i : Int32} {pc w idx1 idx2 M1 M2 k : Nat} {off : Int} {as : List Value} (d1 : decode code pc = .ok (.aload_n 1, 1)) (p1 : lw_Pu p l e s m below meth c b i (pc + 1) w as) (d2 : decode code (pc + 1 + w) = .ok (.invokevirtual idx1, 3)) (d3 : decode code (pc + 4 + w) = .ok (.aload_n 2, 1)) (p2 : lw_Pu p l e s m below meth c b i (pc + 5 + w) w as) (d4 : decode code (pc + 5 + 2 * w) = .ok (.invokevirtual idx2, 3)) (d5 : decode code (pc + 8 + 2 * w) = .ok (.if_icmp .eq off, 3)) (ht : ((pc + 8 + 2 * w : Nat) : Int) + off = ((1587 : Nat) : Int)) (f1 : km_lV R_law idx1 M1 k 10) (f2 : km_lV R_law idx2 M2 k 11) (hlen : as.length = k) (hcv : ∀ ρ : Nat → Nat, as.map (jm_cv ρ) = as) (hcs : ∀ n, jm_cS n as) (hc : call2 M1 M2 as) {ρ : Nat → Nat} {sm : gm_S} {n : Nat} {g : gm_T} {H : Heap} {locs : List Loc} {ls : Array Slot} (I : lw_I D aC s b Z i ρ sm n g H locs ls) (K : ∀ (ρ : Nat → Nat) (sm : gm_S) (n : Nat) (g : gm_T) (H : Heap) (locs : List Loc), lw_I D aC s b Z i ρ sm n g H locs ls → lw_G p l e s m below meth c b H locs (gm_h sm g) 1587 ls []) : lw_G p l e s m below meth c b H locs (gm_h sm g) pc ls [] := by
  obtain ⟨R, hl, F, V⟩ := I
  obtain ⟨r, s2, n2, g1, g2, c1, c2, F2, V2⟩ := hc Z sm n g F V
  have hx := C0.1
  have hb := C0.2.1
  have l0 := lv_at hl 0 rfl
  have l1 := lv_at hl 1 rfl
  have l2 := lv_at hl 2 rfl
  have l3 := lv_at hl 3 rfl
  have b0 : (0 : Nat) < jm_N (gm_h sm g) := (sh_T F.1 (a := 0) rfl rfl).1
  have b44 : (44 : Nat) < jm_N (gm_h sm g) := (sh_T F.1 (a := 44) rfl rfl).1
  have c44 : (44 : Nat) < jm_N (gm_h s2 g1) := (sh_T F2.1 (a := 44) rfl rfl).1
  have c0 : (0 : Nat) < jm_N (gm_h s2 g1) := (sh_T F2.1 (a := 0) rfl rfl).1
  have T0 : (0 : Nat) < jm_N (gm_h sm g) ∧ jm_T (gm_h sm g) 0 = 10 := sh_T F.1 (a := 0) (tag := 10) rfl rfl
  have T44 : (44 : Nat) < jm_N (gm_h s2 g1) ∧ jm_T (gm_h s2 g1) 44 = 11 := sh_T F2.1 (a := 44) (tag := 11) rfl rfl
  have st1 : lw_G p l e s m below meth c b H locs (gm_h sm g) (pc + 1) ls [.ref (ρ 0)] := by
    refine p1 H locs _ ls _ R.2.2.1 l0 l3 ?_
    have key := lw_cv (l := l) (e := e) (below := below) C0 hK (as := as) (r := 0) (rest := []) d2 f1 hlen T0 (jm_cS_cons.mpr ⟨b0, hcs _⟩) c1 R hl.1 (by decide) (lw_room F2 hZ g1).1 (lw_room F2 hZ g1).2 (ls := ls) (fun ρ1 H1 locs1 hρ1 R1 => by
      have l2' : ls[2]? = some (.val (.ref (ρ1 44))) := by rw [hρ1 44 b44]; exact l2
      have st2 : lw_G p l e s m below meth c b H1 locs1 (gm_h s2 g1) (pc + 5 + w) ls [.ref (ρ1 44), gv r] := by
        refine p2 H1 locs1 _ ls _ R1.2.2.1 l0 l3 ?_
        have key2 := lw_cv (l := l) (e := e) (below := below) C0 hK (pc := pc + 5 + 2 * w) (as := as) (r := 44) (rest := [gv r]) d4 f2 hlen T44 (jm_cS_cons.mpr ⟨c44, hcs _⟩) c2 R1 hl.1 (show 1 ≤ 8 by decide) (lw_room F2 hZ g2).1 (lw_room F2 hZ g2).2 (ls := ls) (fun ρ2 H2 locs2 hρ2 R2 => by
          have hl2 : lv_has ls 4 [(0, .ref b), (1, .ref (ρ2 0)), (2, .ref (ρ2 44)), (3, .int i)] := by
            rw [hρ2 0 c0, hρ1 0 b0, hρ2 44 c44, hρ1 44 b44]
            exact hl
          unfold lw_G
          rw [show pc + 5 + 2 * w + 3 = pc + 8 + 2 * w by omega]
          show W _ _ _ _ _ _ _ _ _ _ _ _ _ _ _ (F0 m (pc + 8 + 2 * w) ls (.int (Int32.ofInt r) :: .int (Int32.ofInt r) :: []))
          exact lv_icmp_eq hx hb d5 ht (fun _ => K ρ2 s2 n2 g2 H2 locs2 ⟨R2, hl2, F2, V2⟩) (fun q => absurd rfl q))
        rw [hcv] at key2
        rw [show pc + 5 + w + w = pc + 5 + 2 * w by omega]
        exact key2
      unfold lw_G at st2 ⊢
      rw [show pc + 1 + w + 3 = pc + 4 + w by omega]
      refine lv_aload_n hx hb d3 rfl l2' ?_
      rw [show pc + 4 + w + 1 = pc + 5 + w by omega]
      exact st2)
    rw [hcv] at key
    exact key
  unfold lw_G at st1 ⊢
  exact lv_aload_n hx hb d1 rfl l1 st1
theorem lw_case (C0 : lw_At p s m meth c b L xs) (hK : va_K D jm_cls (jm_tys aC) s) {Z : Nat} (hZ : Z ≤ 1000000) {i : Int32} (hin : ∀ t : Nat, t < 6 → vp_in (i + Int32.ofInt (t : Int)) L) {pc k idx1 idx2 M1 M2 : Nat} {off : Int} (hd : ((lw_sh pc k idx1 idx2 off).all fun e => decide (decode code e.1 = .ok e.2)) = true) (ht : ((pc + 8 + 2 * (5 * k) : Nat) : Int) + off = ((1587 : Nat) : Int)) (hk : k ≤ 5) (f1 : km_lV R_law idx1 M1 k 10) (f2 : km_lV R_law idx2 M2 k 11) (hc : call2 M1 M2 (lw_as xs i k 1)) {ρ : Nat → Nat} {sm : gm_S} {n : Nat} {g : gm_T} {H : Heap} {locs : List Loc} {ls : Array Slot} (I : lw_I D aC s b Z i ρ sm n g H locs ls) (K : ∀ (ρ : Nat → Nat) (sm : gm_S) (n : Nat) (g : gm_T) (H : Heap) (locs : List Loc), lw_I D aC s b Z i ρ sm n g H locs ls → lw_G p l e s m below meth c b H locs (gm_h sm g) 1587 ls []) : lw_G p l e s m below meth c b H locs (gm_h sm g) pc ls [] := by
  have hdl : ∀ q ∈ lw_sh pc k idx1 idx2 off, decode code q.1 = .ok q.2 := fun q hq => of_decide_eq_true (List.all_eq_true.mp hd q hq)
  have hr : ∀ q ∈ lw_pl k 1 (pc + 1) ++ lw_pl k 1 (pc + 5 + 5 * k), decode code q.1 = .ok q.2 := fun q hq => hdl q (List.mem_cons_of_mem _ (List.mem_cons_of_mem _ (List.mem_cons_of_mem _ (List.mem_cons_of_mem _ (List.mem_cons_of_mem _ hq)))))
  have hi : ∀ t, 1 ≤ t → t < 1 + k → vp_in (i + Int32.ofInt (t : Int)) L := fun t _ h2 => hin t (by omega)
  exact lw_two C0 hK hZ (w := 5 * k) (hdl (pc, .aload_n 1, 1) List.mem_cons_self) (lw_pu C0 k 1 (pc + 1) (fun q hq => hr q (List.mem_append_left _ hq)) hi) (hdl (pc + 1 + 5 * k, .invokevirtual idx1, 3) (List.mem_cons_of_mem _ List.mem_cons_self)) (hdl (pc + 4 + 5 * k, .aload_n 2, 1) (List.mem_cons_of_mem _ (List.mem_cons_of_mem _ List.mem_cons_self))) (lw_pu C0 k 1 (pc + 5 + 5 * k) (fun q hq => hr q (List.mem_append_right _ hq)) hi) (hdl (pc + 5 + 2 * (5 * k), .invokevirtual idx2, 3) (List.mem_cons_of_mem _ (List.mem_cons_of_mem _ (List.mem_cons_of_mem _ List.mem_cons_self)))) (hdl (pc + 8 + 2 * (5 * k), .if_icmp .eq off, 3) (List.mem_cons_of_mem _ (List.mem_cons_of_mem _ (List.mem_cons_of_mem _ (List.mem_cons_of_mem _ List.mem_cons_self))))) ht f1 f2 (lw_as_len xs i k 1) (fun ρ => lw_as_cv xs i ρ k 1) (fun n => lw_as_cS xs i n k 1) hc I K
end LAWD
