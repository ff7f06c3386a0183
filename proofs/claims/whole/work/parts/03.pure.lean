/-! What every instruction of the small machine keeps: the heap only grows, references lead to cells that are there. -/
def jm_vo (n : Nat) (v : Value) : Prop := match v with
  | .ref a => a < n
  | _ => True
def jm_cS (n : Nat) (st : List Value) : Prop := ∀ v ∈ st, jm_vo n v
def jm_cL (n : Nat) (L : jm_Lo) : Prop := ∀ v, some v ∈ L → jm_vo n v
def jm_cH (h : jm_H) : Prop := ∀ i k a, jm_A h i k = some a → a < jm_N h
theorem jm_cS_cons {n : Nat} {v : Value} {st : List Value} : jm_cS n (v :: st) ↔ jm_vo n v ∧ jm_cS n st := by
  simp [jm_cS]
theorem jm_cS_nil {n : Nat} : jm_cS n [] ↔ True := by simp [jm_cS]
theorem jm_vo_int {n : Nat} {x : Int32} : jm_vo n (.int x) ↔ True := Iff.rfl
theorem jm_vo_long {n : Nat} {x : Int64} : jm_vo n (.long x) ↔ True := Iff.rfl
theorem jm_vo_ref {n a : Nat} : jm_vo n (.ref a) ↔ a < n := Iff.rfl
theorem jm_vo_mono {n m : Nat} (h : n ≤ m) {v : Value} (hv : jm_vo n v) : jm_vo m v := by
  cases v <;> first | exact trivial | exact Nat.lt_of_lt_of_le hv h
theorem jm_cS_mono {n m : Nat} (h : n ≤ m) {st : List Value} (hs : jm_cS n st) : jm_cS m st := fun v hv => jm_vo_mono h (hs v hv)
theorem jm_cL_mono {n m : Nat} (h : n ≤ m) {L : jm_Lo} (hs : jm_cL n L) : jm_cL m L := fun v hv => jm_vo_mono h (hs v hv)
theorem jm_cL_get {n : Nat} {L : jm_Lo} (hL : jm_cL n L) {i : Nat} {v : Value} (h : L.getD i none = some v) : jm_vo n v := by
  refine hL v ?_
  rw [List.getD_eq_getElem?_getD] at h
  cases hq : L[i]? with
  | none => rw [hq] at h; cases h
  | some o => rw [hq] at h; rw [← (show o = some v from h)]; exact List.mem_of_getElem? hq
theorem jm_cL_set {n : Nat} {L : jm_Lo} (hL : jm_cL n L) {i : Nat} {o : Option Value} (ho : ∀ v, o = some v → jm_vo n v) : jm_cL n (L.set i o) := by
  intro v hv
  rcases List.mem_or_eq_of_mem_set hv with h | h
  · exact hL v h
  · exact ho v h.symm
theorem jm_cL_st1 {n : Nat} {L L' : jm_Lo} (hL : jm_cL n L) {i : Nat} {v : Value} (hv : jm_vo n v) (h : jm_st1 L i v = some L') : jm_cL n L' := by
  unfold jm_st1 at h
  split at h
  · cases h
    exact jm_cL_set hL (fun w hw => by cases hw; exact hv)
  · cases h
theorem jm_cL_st2 {n : Nat} {L L' : jm_Lo} (hL : jm_cL n L) {i : Nat} {v : Value} (hv : jm_vo n v) (h : jm_st2 L i v = some L') : jm_cL n L' := by
  unfold jm_st2 at h
  split at h
  · cases h
    exact jm_cL_set (jm_cL_set hL (fun w hw => by cases hw; exact hv)) (fun w hw => by cases hw)
  · cases h
theorem jm_vo_rf {h : jm_H} (hH : jm_cH h) (r k : Nat) : jm_vo (jm_N h) (va_rf (jm_A h r k)) := by
  cases hq : jm_A h r k with
  | none => exact trivial
  | some a => exact hH r k a hq
theorem jm_cH_wI {h : jm_H} (hH : jm_cH h) (r k : Nat) (v : Int32) : jm_cH (jm_wI h r k v) := hH
theorem jm_cH_wJ {h : jm_H} (hH : jm_cH h) (r k : Nat) (v : Int64) : jm_cH (jm_wJ h r k v) := hH
theorem jm_cH_wA {h : jm_H} (hH : jm_cH h) (r k v : Nat) (hv : v < jm_N h) : jm_cH (jm_wA h r k (some v)) := by
  intro i j a ha
  show a < jm_N h
  have ha : jm_u (jm_A h) r k (some v) i j = some a := ha
  unfold jm_u at ha
  split at ha
  · split at ha
    · cases ha; exact hv
    · exact hH _ _ _ ha
  · exact hH _ _ _ ha
theorem jm_cH_al {h : jm_H} (hH : jm_cH h) (tag len sl : Nat) (fi : Nat → Int32) : jm_cH (jm_al h tag len sl fi) := by
  intro i j a ha
  show a < jm_N h + 1
  have ha : (if i = jm_N h then (fun _ => none) else jm_A h i) j = some a := ha
  split at ha
  · cases ha
  · exact Nat.lt_succ_of_lt (hH _ _ _ ha)
def jm_rv (n : Nat) (o : Option Value) : Prop := ∀ v, o = some v → jm_vo n v
def jm_cp (call : jm_C) : Prop := ∀ M as h v h1, jm_cS (jm_N h) as → jm_cH h → call M as h = some (v, h1) → jm_N h ≤ jm_N h1 ∧ jm_S h ≤ jm_S h1 ∧ jm_cH h1 ∧ jm_rv (jm_N h1) v
def jm_pn (h : jm_H) (g : jm_F) : Prop := jm_N h ≤ jm_N g.2.2.2 ∧ jm_S h ≤ jm_S g.2.2.2 ∧ jm_cL (jm_N g.2.2.2) g.2.1 ∧ jm_cS (jm_N g.2.2.2) g.2.2.1 ∧ jm_cH g.2.2.2
def jm_pe (h : jm_H) (r : jm_R) : Prop := r.2 = h ∧ jm_rv (jm_N h) r.1
def jm_px (h : jm_H) (x : jm_X) : Prop := match x with
  | none => True
  | some (.inl g) => jm_pn h g
  | some (.inr r) => jm_pe h r
def jm_pu (op : jm_O) : Prop := ∀ call, jm_cp call → ∀ pc L st h, jm_cL (jm_N h) L → jm_cS (jm_N h) st → jm_cH h → jm_px h (op call pc L st h)
theorem jm_px_go {h : jm_H} {pc : Nat} {L : jm_Lo} {st : List Value} (hL : jm_cL (jm_N h) L) (hS : jm_cS (jm_N h) st) (hH : jm_cH h) : jm_px h (jm_go pc L st h) := ⟨Nat.le_refl _, Nat.le_refl _, hL, hS, hH⟩
theorem jm_px_gw {h : jm_H} {pc : Nat} {L : jm_Lo} {st : List Value} {h1 : jm_H} (hN : jm_N h1 = jm_N h) (hs : jm_S h1 = jm_S h) (hL : jm_cL (jm_N h) L) (hS : jm_cS (jm_N h) st) (hH : jm_cH h1) : jm_px h (jm_go pc L st h1) := ⟨by rw [show jm_N (pc, L, st, h1).2.2.2 = jm_N h1 from rfl, hN]; exact Nat.le_refl _, by rw [show jm_S (pc, L, st, h1).2.2.2 = jm_S h1 from rfl, hs]; exact Nat.le_refl _, by rw [show jm_N (pc, L, st, h1).2.2.2 = jm_N h1 from rfl, hN]; exact hL, by rw [show jm_N (pc, L, st, h1).2.2.2 = jm_N h1 from rfl, hN]; exact hS, hH⟩
theorem jm_px_al {h : jm_H} {pc : Nat} {L : jm_Lo} {st : List Value} (tag len sl : Nat) (fi : Nat → Int32) (hL : jm_cL (jm_N h) L) (hS : jm_cS (jm_N h) st) (hH : jm_cH h) : jm_px h (jm_go pc L (.ref (jm_N h) :: st) (jm_al h tag len sl fi)) := ⟨Nat.le_succ _, Nat.le_add_right _ _, jm_cL_mono (Nat.le_succ _) hL, jm_cS_cons.mpr ⟨Nat.lt_succ_self _, jm_cS_mono (Nat.le_succ _) hS⟩, jm_cH_al hH tag len sl fi⟩
theorem pu_bad : jm_pu jm_bad := fun _ _ _ _ _ _ _ _ _ => trivial
theorem pu_iload (i n : Nat) : jm_pu (op_iload i n) := by
  intro call hc pc L st h hL hS hH
  unfold op_iload
  split
  · exact jm_px_go hL (jm_cS_cons.mpr ⟨trivial, hS⟩) hH
  · exact trivial
theorem pu_lload (i n : Nat) : jm_pu (op_lload i n) := by
  intro call hc pc L st h hL hS hH
  unfold op_lload
  split
  · exact jm_px_go hL (jm_cS_cons.mpr ⟨trivial, hS⟩) hH
  · exact trivial
theorem pu_aload (i n : Nat) : jm_pu (op_aload i n) := by
  intro call hc pc L st h hL hS hH
  unfold op_aload
  split
  · rename_i x hx
    exact jm_px_go hL (jm_cS_cons.mpr ⟨jm_cL_get hL hx, hS⟩) hH
  · exact trivial
theorem pu_istore (i n : Nat) : jm_pu (op_istore i n) := by
  intro call hc pc L st h hL hS hH
  unfold op_istore
  split
  · split
    · rename_i L' hq
      exact jm_px_go (jm_cL_st1 hL (v := .int _) trivial hq) (jm_cS_cons.mp hS).2 hH
    · exact trivial
  · exact trivial
theorem pu_astore (i n : Nat) : jm_pu (op_astore i n) := by
  intro call hc pc L st h hL hS hH
  unfold op_astore
  split
  · split
    · rename_i L' hq
      exact jm_px_go (jm_cL_st1 hL (jm_cS_cons.mp hS).1 hq) (jm_cS_cons.mp hS).2 hH
    · exact trivial
  · exact trivial
theorem pu_lstore (i n : Nat) : jm_pu (op_lstore i n) := by
  intro call hc pc L st h hL hS hH
  unfold op_lstore
  split
  · split
    · rename_i L' hq
      exact jm_px_go (jm_cL_st2 hL (v := .long _) trivial hq) (jm_cS_cons.mp hS).2 hH
    · exact trivial
  · exact trivial
theorem pu_iinc (i : Nat) (k : Int32) : jm_pu (op_iinc i k) := by
  intro call hc pc L st h hL hS hH
  unfold op_iinc
  split
  · split
    · rename_i L' hq
      exact jm_px_go (jm_cL_st1 hL (v := .int _) trivial hq) hS hH
    · exact trivial
  · exact trivial
theorem pu_ic (v : Int32) (n : Nat) : jm_pu (op_ic v n) := fun _ _ _ _ _ _ hL hS hH => jm_px_go hL (jm_cS_cons.mpr ⟨trivial, hS⟩) hH
theorem pu_lc (v : Int64) (n : Nat) : jm_pu (op_lc v n) := fun _ _ _ _ _ _ hL hS hH => jm_px_go hL (jm_cS_cons.mpr ⟨trivial, hS⟩) hH
theorem pu_dup : jm_pu op_dup := by
  intro call hc pc L st h hL hS hH
  unfold op_dup
  split
  · split
    · exact jm_px_go hL (jm_cS_cons.mpr ⟨(jm_cS_cons.mp hS).1, hS⟩) hH
    · exact trivial
  · exact trivial
theorem pu_dup2 : jm_pu op_dup2 := by
  intro call hc pc L st h hL hS hH
  unfold op_dup2
  split
  · split
    · exact jm_px_go hL (jm_cS_cons.mpr ⟨(jm_cS_cons.mp hS).1, jm_cS_cons.mpr ⟨(jm_cS_cons.mp (jm_cS_cons.mp hS).2).1, hS⟩⟩) hH
    · exact trivial
  · exact trivial
theorem pu_pop : jm_pu op_pop := by
  intro call hc pc L st h hL hS hH
  unfold op_pop
  split
  · split
    · exact jm_px_go hL (jm_cS_cons.mp hS).2 hH
    · exact trivial
  · exact trivial
theorem pu_ibin (f : Int32 → Int32 → Int32) : jm_pu (op_ibin f) := by
  intro call hc pc L st h hL hS hH
  unfold op_ibin
  split
  · exact jm_px_go hL (jm_cS_cons.mpr ⟨trivial, (jm_cS_cons.mp (jm_cS_cons.mp hS).2).2⟩) hH
  · exact trivial
theorem pu_lbin (f : Int64 → Int64 → Int64) : jm_pu (op_lbin f) := by
  intro call hc pc L st h hL hS hH
  unfold op_lbin
  split
  · exact jm_px_go hL (jm_cS_cons.mpr ⟨trivial, (jm_cS_cons.mp (jm_cS_cons.mp hS).2).2⟩) hH
  · exact trivial
theorem pu_lsh (f : Int64 → Int32 → Int64) : jm_pu (op_lsh f) := by
  intro call hc pc L st h hL hS hH
  unfold op_lsh
  split
  · exact jm_px_go hL (jm_cS_cons.mpr ⟨trivial, (jm_cS_cons.mp (jm_cS_cons.mp hS).2).2⟩) hH
  · exact trivial
theorem pu_lcmp : jm_pu (op_lcmp) := by
  intro call hc pc L st h hL hS hH
  unfold op_lcmp
  split
  · exact jm_px_go hL (jm_cS_cons.mpr ⟨trivial, (jm_cS_cons.mp (jm_cS_cons.mp hS).2).2⟩) hH
  · exact trivial
theorem pu_idz (f : Int32 → Int32 → Int32) : jm_pu (op_idz f) := by
  intro call hc pc L st h hL hS hH
  unfold op_idz
  split
  · split
    · exact trivial
    · exact jm_px_go hL (jm_cS_cons.mpr ⟨trivial, (jm_cS_cons.mp (jm_cS_cons.mp hS).2).2⟩) hH
  · exact trivial
theorem pu_iun (f : Int32 → Int32) : jm_pu (op_iun f) := by
  intro call hc pc L st h hL hS hH
  unfold op_iun
  split
  · exact jm_px_go hL (jm_cS_cons.mpr ⟨trivial, (jm_cS_cons.mp hS).2⟩) hH
  · exact trivial
theorem pu_i2l : jm_pu (op_i2l) := by
  intro call hc pc L st h hL hS hH
  unfold op_i2l
  split
  · exact jm_px_go hL (jm_cS_cons.mpr ⟨trivial, (jm_cS_cons.mp hS).2⟩) hH
  · exact trivial
theorem pu_l2i : jm_pu (op_l2i) := by
  intro call hc pc L st h hL hS hH
  unfold op_l2i
  split
  · exact jm_px_go hL (jm_cS_cons.mpr ⟨trivial, (jm_cS_cons.mp hS).2⟩) hH
  · exact trivial
theorem pu_goto (t : Nat) : jm_pu (op_goto t) := fun _ _ _ _ _ _ hL hS hH => jm_px_go hL hS hH
theorem pu_ifeq (t : Nat) : jm_pu (op_ifeq t) := by
  intro call hc pc L st h hL hS hH
  unfold op_ifeq
  split
  · split <;> exact jm_px_go hL (jm_cS_cons.mp hS).2 hH
  · exact trivial
theorem pu_ifne (t : Nat) : jm_pu (op_ifne t) := by
  intro call hc pc L st h hL hS hH
  unfold op_ifne
  split
  · split <;> exact jm_px_go hL (jm_cS_cons.mp hS).2 hH
  · exact trivial
theorem pu_iflt (t : Nat) : jm_pu (op_iflt t) := by
  intro call hc pc L st h hL hS hH
  unfold op_iflt
  split
  · split <;> exact jm_px_go hL (jm_cS_cons.mp hS).2 hH
  · exact trivial
theorem pu_ifge (t : Nat) : jm_pu (op_ifge t) := by
  intro call hc pc L st h hL hS hH
  unfold op_ifge
  split
  · split <;> exact jm_px_go hL (jm_cS_cons.mp hS).2 hH
  · exact trivial
theorem pu_ifgt (t : Nat) : jm_pu (op_ifgt t) := by
  intro call hc pc L st h hL hS hH
  unfold op_ifgt
  split
  · split <;> exact jm_px_go hL (jm_cS_cons.mp hS).2 hH
  · exact trivial
theorem pu_ifle (t : Nat) : jm_pu (op_ifle t) := by
  intro call hc pc L st h hL hS hH
  unfold op_ifle
  split
  · split <;> exact jm_px_go hL (jm_cS_cons.mp hS).2 hH
  · exact trivial
theorem pu_ceq (t : Nat) : jm_pu (op_ceq t) := by
  intro call hc pc L st h hL hS hH
  unfold op_ceq
  split
  · split <;> exact jm_px_go hL (jm_cS_cons.mp (jm_cS_cons.mp hS).2).2 hH
  · exact trivial
theorem pu_cne (t : Nat) : jm_pu (op_cne t) := by
  intro call hc pc L st h hL hS hH
  unfold op_cne
  split
  · split <;> exact jm_px_go hL (jm_cS_cons.mp (jm_cS_cons.mp hS).2).2 hH
  · exact trivial
theorem pu_clt (t : Nat) : jm_pu (op_clt t) := by
  intro call hc pc L st h hL hS hH
  unfold op_clt
  split
  · split <;> exact jm_px_go hL (jm_cS_cons.mp (jm_cS_cons.mp hS).2).2 hH
  · exact trivial
theorem pu_cge (t : Nat) : jm_pu (op_cge t) := by
  intro call hc pc L st h hL hS hH
  unfold op_cge
  split
  · split <;> exact jm_px_go hL (jm_cS_cons.mp (jm_cS_cons.mp hS).2).2 hH
  · exact trivial
theorem pu_cgt (t : Nat) : jm_pu (op_cgt t) := by
  intro call hc pc L st h hL hS hH
  unfold op_cgt
  split
  · split <;> exact jm_px_go hL (jm_cS_cons.mp (jm_cS_cons.mp hS).2).2 hH
  · exact trivial
theorem pu_cle (t : Nat) : jm_pu (op_cle t) := by
  intro call hc pc L st h hL hS hH
  unfold op_cle
  split
  · split <;> exact jm_px_go hL (jm_cS_cons.mp (jm_cS_cons.mp hS).2).2 hH
  · exact trivial
theorem pu_sw (d : Nat) (ps : List (Int32 × Nat)) : jm_pu (op_sw d ps) := by
  intro call hc pc L st h hL hS hH
  unfold op_sw
  split
  · exact jm_px_go hL (jm_cS_cons.mp hS).2 hH
  · exact trivial
theorem pu_getI (ci k : Nat) : jm_pu (op_getI ci k) := by
  intro call hc pc L st h hL hS hH
  unfold op_getI
  split
  · split
    · exact jm_px_go hL (jm_cS_cons.mpr ⟨trivial, (jm_cS_cons.mp hS).2⟩) hH
    · exact trivial
  · exact trivial
theorem pu_getJ (ci k : Nat) : jm_pu (op_getJ ci k) := by
  intro call hc pc L st h hL hS hH
  unfold op_getJ
  split
  · split
    · exact jm_px_go hL (jm_cS_cons.mpr ⟨trivial, (jm_cS_cons.mp hS).2⟩) hH
    · exact trivial
  · exact trivial
theorem pu_getA (ci k : Nat) : jm_pu (op_getA ci k) := by
  intro call hc pc L st h hL hS hH
  unfold op_getA
  split
  · split
    · exact jm_px_go hL (jm_cS_cons.mpr ⟨jm_vo_rf hH _ _, (jm_cS_cons.mp hS).2⟩) hH
    · exact trivial
  · exact trivial
theorem pu_putI (ci k : Nat) : jm_pu (op_putI ci k) := by
  intro call hc pc L st h hL hS hH
  unfold op_putI
  split
  · split
    · exact jm_px_gw rfl rfl hL (jm_cS_cons.mp (jm_cS_cons.mp hS).2).2 (jm_cH_wI hH _ _ _)
    · exact trivial
  · exact trivial
theorem pu_putJ (ci k : Nat) : jm_pu (op_putJ ci k) := by
  intro call hc pc L st h hL hS hH
  unfold op_putJ
  split
  · split
    · exact jm_px_gw rfl rfl hL (jm_cS_cons.mp (jm_cS_cons.mp hS).2).2 (jm_cH_wJ hH _ _ _)
    · exact trivial
  · exact trivial
theorem pu_putZ (ci k : Nat) : jm_pu (op_putZ ci k) := by
  intro call hc pc L st h hL hS hH
  unfold op_putZ
  split
  · split
    · split
      · exact jm_px_gw rfl rfl hL (jm_cS_cons.mp (jm_cS_cons.mp hS).2).2 (jm_cH_wI hH _ _ _)
      · exact trivial
    · exact trivial
  · exact trivial
theorem pu_putA (ci k : Nat) : jm_pu (op_putA ci k) := by
  intro call hc pc L st h hL hS hH
  unfold op_putA
  split
  · split
    · exact jm_px_gw rfl rfl hL (jm_cS_cons.mp (jm_cS_cons.mp hS).2).2 (jm_cH_wA hH _ _ _ (jm_cS_cons.mp hS).1)
    · exact trivial
  · exact trivial
theorem pu_iald (tag : Nat) : jm_pu (op_iald tag) := by
  intro call hc pc L st h hL hS hH
  unfold op_iald
  split
  · split
    · exact jm_px_go hL (jm_cS_cons.mpr ⟨trivial, (jm_cS_cons.mp (jm_cS_cons.mp hS).2).2⟩) hH
    · exact trivial
  · exact trivial
theorem pu_lald : jm_pu (op_lald) := by
  intro call hc pc L st h hL hS hH
  unfold op_lald
  split
  · split
    · exact jm_px_go hL (jm_cS_cons.mpr ⟨trivial, (jm_cS_cons.mp (jm_cS_cons.mp hS).2).2⟩) hH
    · exact trivial
  · exact trivial
theorem pu_aald : jm_pu (op_aald) := by
  intro call hc pc L st h hL hS hH
  unfold op_aald
  split
  · split
    · exact jm_px_go hL (jm_cS_cons.mpr ⟨jm_vo_rf hH _ _, (jm_cS_cons.mp (jm_cS_cons.mp hS).2).2⟩) hH
    · exact trivial
  · exact trivial
theorem pu_iast : jm_pu (op_iast) := by
  intro call hc pc L st h hL hS hH
  unfold op_iast
  split
  · split
    · exact jm_px_gw rfl rfl hL (jm_cS_cons.mp (jm_cS_cons.mp (jm_cS_cons.mp hS).2).2).2 (jm_cH_wI hH _ _ _)
    · exact trivial
  · exact trivial
theorem pu_bast : jm_pu (op_bast) := by
  intro call hc pc L st h hL hS hH
  unfold op_bast
  split
  · split
    · exact jm_px_gw rfl rfl hL (jm_cS_cons.mp (jm_cS_cons.mp (jm_cS_cons.mp hS).2).2).2 (jm_cH_wI hH _ _ _)
    · exact trivial
  · exact trivial
theorem pu_zast : jm_pu (op_zast) := by
  intro call hc pc L st h hL hS hH
  unfold op_zast
  split
  · split
    · exact jm_px_gw rfl rfl hL (jm_cS_cons.mp (jm_cS_cons.mp (jm_cS_cons.mp hS).2).2).2 (jm_cH_wI hH _ _ _)
    · exact trivial
  · exact trivial
theorem pu_last : jm_pu (op_last) := by
  intro call hc pc L st h hL hS hH
  unfold op_last
  split
  · split
    · exact jm_px_gw rfl rfl hL (jm_cS_cons.mp (jm_cS_cons.mp (jm_cS_cons.mp hS).2).2).2 (jm_cH_wJ hH _ _ _)
    · exact trivial
  · exact trivial
theorem pu_aast : jm_pu (op_aast) := by
  intro call hc pc L st h hL hS hH
  unfold op_aast
  split
  · split
    · exact jm_px_gw rfl rfl hL (jm_cS_cons.mp (jm_cS_cons.mp (jm_cS_cons.mp hS).2).2).2 (jm_cH_wA hH _ _ _ (jm_cS_cons.mp hS).1)
    · exact trivial
  · exact trivial
theorem pu_new (ci n : Nat) : jm_pu (op_new ci n) := fun _ _ _ _ _ _ hL hS hH => jm_px_al _ _ _ _ hL hS hH
theorem pu_newa (tag len : Nat) : jm_pu (op_newa tag len) := by
  intro call hc pc L st h hL hS hH
  unfold op_newa
  split
  · split
    · exact jm_px_al _ _ _ _ hL (jm_cS_cons.mp hS).2 hH
    · exact trivial
  · exact trivial
theorem pu_clone : jm_pu (op_clone) := by
  intro call hc pc L st h hL hS hH
  unfold op_clone
  split
  · split
    · exact jm_px_al _ _ _ _ hL (jm_cS_cons.mp hS).2 hH
    · exact trivial
  · exact trivial
theorem pu_castI : jm_pu (op_castI) := by
  intro call hc pc L st h hL hS hH
  unfold op_castI
  split
  · split
    · exact jm_px_go hL hS hH
    · exact trivial
  · exact trivial
theorem pu_objInit : jm_pu (op_objInit) := by
  intro call hc pc L st h hL hS hH
  unfold op_objInit
  split
  · split
    · exact jm_px_go hL (jm_cS_cons.mp hS).2 hH
    · exact trivial
  · exact trivial
theorem jm_px_ret {h : jm_H} {pc M n : Nat} {L : jm_Lo} {st : List Value} {call : jm_C} (hc : jm_cp call) (hL : jm_cL (jm_N h) L) (hS : jm_cS (jm_N h) st) (hH : jm_cH h) : jm_px h (jm_ret pc L (st.drop n) (call M (st.take n).reverse h)) := by
  unfold jm_ret
  split
  · rename_i v h1 hq
    obtain ⟨a, b, e, g⟩ := hc M _ h v h1 (fun w hw => hS w (List.mem_of_mem_take (List.mem_reverse.mp hw))) hH hq
    refine ⟨a, b, jm_cL_mono a hL, ?_, e⟩
    intro w hw
    rcases List.mem_append.mp hw with hw | hw
    · cases v with
      | none => cases hw
      | some v => rw [List.mem_singleton.mp (show w ∈ [v] from hw)]; exact g v rfl
    · exact jm_vo_mono a (hS w (List.mem_of_mem_drop hw))
  · exact trivial
theorem pu_callS (M n : Nat) : jm_pu (op_callS M n) := by
  intro call hc pc L st h hL hS hH
  unfold op_callS
  split
  · exact jm_px_ret hc hL hS hH
  · exact trivial
theorem pu_callV (ci M n : Nat) : jm_pu (op_callV ci M n) := by
  intro call hc pc L st h hL hS hH
  unfold op_callV
  split
  · exact jm_px_ret hc hL hS hH
  · exact trivial
theorem pu_iret : jm_pu (op_iret) := by
  intro call hc pc L st h hL hS hH
  unfold op_iret
  split
  · exact ⟨rfl, fun v hv => by cases hv; exact trivial⟩
  · exact trivial
theorem pu_lret : jm_pu (op_lret) := by
  intro call hc pc L st h hL hS hH
  unfold op_lret
  split
  · exact ⟨rfl, fun v hv => by cases hv; exact trivial⟩
  · exact trivial
theorem pu_zret : jm_pu (op_zret) := by
  intro call hc pc L st h hL hS hH
  unfold op_zret
  split
  · split
    · exact ⟨rfl, fun v hv => by cases hv; exact trivial⟩
    · exact trivial
  · exact trivial
theorem pu_vret : jm_pu (op_vret) := by
  intro call hc pc L st h hL hS hH
  unfold op_vret
  split
  · exact ⟨rfl, fun v hv => by cases hv⟩
  · exact trivial
/-- a run keeps it -/
theorem jm_run_pu {cd : Nat → jm_O} {call : jm_C} (hcd : ∀ pc, jm_pu (cd pc)) (hc : jm_cp call) : ∀ (n pc : Nat) (L : jm_Lo) (st : List Value) (h : jm_H) (v : Option Value) (h1 : jm_H), jm_cL (jm_N h) L → jm_cS (jm_N h) st → jm_cH h → jm_run cd call n (pc, L, st, h) = some (v, h1) → jm_N h ≤ jm_N h1 ∧ jm_S h ≤ jm_S h1 ∧ jm_cH h1 ∧ jm_rv (jm_N h1) v := by
  intro n
  induction n with
  | zero => intro pc L st h v h1 _ _ _ hr; cases hr
  | succ n ih =>
    intro pc L st h v h1 hL hS hH hr
    have hp := hcd pc call hc pc L st h hL hS hH
    unfold jm_run at hr
    dsimp only at hr
    cases hq : cd pc call pc L st h with
    | none => rw [hq] at hr; cases hr
    | some x =>
      rw [hq] at hr hp
      cases x with
      | inr r =>
        cases hr
        obtain ⟨e1, e2⟩ := hp
        dsimp only at e1 e2
        subst e1
        exact ⟨Nat.le_refl _, Nat.le_refl _, hH, e2⟩
      | inl g =>
        obtain ⟨pc', L', st', h'⟩ := g
        obtain ⟨a1, a2, a3, a4, a5⟩ := hp
        dsimp only at a1 a2 a3 a4 a5
        obtain ⟨b1, b2, b3, b4⟩ := ih pc' L' st' h' v h1 a3 a4 a5 hr
        exact ⟨Nat.le_trans a1 b1, Nat.le_trans a2 b2, b3, b4⟩
theorem jm_cS_ent {n k : Nat} {vs : List Value} (h : jm_cS n vs) : jm_cL n (jm_ent k vs) := by
  intro v hv
  unfold jm_ent at hv
  rcases List.mem_append.mp hv with hv | hv
  · obtain ⟨w, hw, hx⟩ := List.mem_flatMap.mp hv
    have : v = w := by
      split at hx <;> simp at hx <;> exact hx
    rw [this]
    exact h w hw
  · have := (List.mem_replicate.mp hv).2
    cases this
theorem jm_cl_pu {CD : Nat → Nat → jm_O} {NL : Nat → Nat} (hcd : ∀ M pc, jm_pu (CD M pc)) : ∀ d, jm_cp (jm_cl CD NL d) := by
  intro d
  induction d with
  | zero => intro M as h v h1 _ _ hr; cases hr
  | succ d ih =>
    intro M as h v h1 hS hH hr
    have hr : (if (as.flatMap fun v => if v.category = 2 then [some v, (none : Option Value)] else [some v]).length ≤ NL M then jm_sup (CD M) (jm_cl CD NL d) (0, jm_ent (NL M) as, [], h) else none) = some (v, h1) := hr
    split at hr
    case isFalse => cases hr
    obtain ⟨n, hn⟩ := jm_sup_iff.mp hr
    exact jm_run_pu (hcd M) ih n 0 _ [] h v h1 (jm_cS_ent hS) (fun v hv => by cases hv) hH hn
