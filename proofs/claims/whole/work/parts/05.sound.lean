/-! The small machine's heap and the real one: which real cells a heap of the small machine stands for (ρ: an address of it to a real one), and what an instruction's soundness is. -/
def jm_cv (ρ : Nat → Nat) (v : Value) : Value := match v with
  | .ref a => .ref (ρ a)
  | v => v
def jm_fv (ρ : Nat → Nat) (h : jm_H) (r k kind : Nat) : Value := if kind = 1 then .long (jm_J h r k) else if kind = 2 then va_rf ((jm_A h r k).map ρ) else .int (jm_I h r k)
def jm_ce (aC : Nat → ClassId) (ρ : Nat → Nat) (h : jm_H) (i : Nat) : va_E := if jm_T h i < 12 then .inr (jm_T h i, (jm_kd (jm_T h i)).mapIdx (fun k kind => jm_fv ρ h i k kind)) else .inl (aC (jm_T h i), jm_L h i, if jm_T h i = 14 then .inr (.inl (jm_J h i)) else if jm_T h i = 16 then .inr (.inr (.inr (.inr (fun j => (jm_A h i j).map ρ)))) else .inl (jm_I h i))
def jm_wl (aC : Nat → ClassId) (ρ : Nat → Nat) (h : jm_H) : va_W := (List.range (jm_N h)).map (fun i => (ρ i, jm_ce aC ρ h i))
def jm_as (ρ : Nat → Nat) (L : jm_Lo) : List (Nat × Value) := L.zipIdx.filterMap (fun q => q.1.map (fun v => (q.2, jm_cv ρ v)))
def jm_tys (aC : Nat → ClassId) : List (ClassId × FieldType) := [(aC 12, .byte), (aC 13, .int), (aC 14, .long), (aC 15, .boolean), (aC 16, .object "FrescoWall$Bit")]
theorem jm_wl_len {aC : Nat → ClassId} {ρ : Nat → Nat} {h : jm_H} : (jm_wl aC ρ h).length = jm_N h := by simp [jm_wl]
theorem jm_wl_get {aC : Nat → ClassId} {ρ : Nat → Nat} {h : jm_H} {i : Nat} (hi : i < jm_N h) : (jm_wl aC ρ h)[i]? = some (ρ i, jm_ce aC ρ h i) := by
  unfold jm_wl
  rw [List.getElem?_map, List.getElem?_range hi]
  rfl
theorem jm_wl_ext {aC : Nat → ClassId} {ρ ρ' : Nat → Nat} {h h' : jm_H} (hN : jm_N h' = jm_N h) (he : ∀ i, i < jm_N h → ρ' i = ρ i ∧ jm_ce aC ρ' h' i = jm_ce aC ρ h i) : jm_wl aC ρ' h' = jm_wl aC ρ h := by
  unfold jm_wl
  rw [hN]
  refine List.map_congr_left fun i hi => ?_
  obtain ⟨h1, h2⟩ := he i (List.mem_range.mp hi)
  rw [h1, h2]
/-- one cell is written -/
theorem jm_wl_set {aC : Nat → ClassId} {ρ : Nat → Nat} {h h' : jm_H} {r : Nat} (hN : jm_N h' = jm_N h) (hr : r < jm_N h) (he : ∀ i, i ≠ r → jm_ce aC ρ h' i = jm_ce aC ρ h i) : (jm_wl aC ρ h).set r (ρ r, jm_ce aC ρ h' r) = jm_wl aC ρ h' := by
  refine List.ext_getElem? fun i => ?_
  by_cases hi : i < jm_N h
  · rw [jm_wl_get (h := h') (by rw [hN]; exact hi)]
    by_cases hq : i = r
    · subst hq
      rw [List.getElem?_set_self (by rw [jm_wl_len]; exact hi)]
    · rw [List.getElem?_set_ne (fun q => hq q.symm), jm_wl_get hi, he i hq]
  · rw [List.getElem?_eq_none (by rw [List.length_set, jm_wl_len]; omega), List.getElem?_eq_none (by rw [jm_wl_len, hN]; omega)]
/-- a cell more; ρ says where it is -/
def jm_ex (ρ : Nat → Nat) (n q : Nat) : Nat → Nat := fun i => if i = n then q else ρ i
theorem jm_ex_lt {ρ : Nat → Nat} {n q i : Nat} (h : i < n) : jm_ex ρ n q i = ρ i := if_neg (Nat.ne_of_lt h)
theorem jm_ex_self {ρ : Nat → Nat} {n q : Nat} : jm_ex ρ n q n = q := if_pos rfl
theorem jm_cv_ex {ρ : Nat → Nat} {n q : Nat} {v : Value} (hv : jm_vo n v) : jm_cv (jm_ex ρ n q) v = jm_cv ρ v := by
  cases v <;> first | rfl | exact congrArg Value.ref (jm_ex_lt hv)
theorem jm_cs_ex {ρ : Nat → Nat} {n q : Nat} {st : List Value} (hs : jm_cS n st) : st.map (jm_cv (jm_ex ρ n q)) = st.map (jm_cv ρ) := List.map_congr_left fun v hv => jm_cv_ex (hs v hv)
theorem jm_map_ex {ρ : Nat → Nat} {n q : Nat} {o : Option Nat} (ho : ∀ a, o = some a → a < n) : o.map (jm_ex ρ n q) = o.map ρ := by
  cases o with
  | none => rfl
  | some a => exact congrArg some (jm_ex_lt (ho a rfl))
theorem jm_ce_ext {aC : Nat → ClassId} {ρ ρ' : Nat → Nat} {h h' : jm_H} {i : Nat} (hT : jm_T h' i = jm_T h i) (hL : jm_L h' i = jm_L h i) (hI : jm_I h' i = jm_I h i) (hJ : jm_J h' i = jm_J h i) (hA : ∀ k, (jm_A h' i k).map ρ' = (jm_A h i k).map ρ) : jm_ce aC ρ' h' i = jm_ce aC ρ h i := by
  have hf : (fun k kind => jm_fv ρ' h' i k kind) = (fun k kind => jm_fv ρ h i k kind) := by
    funext k kind
    unfold jm_fv
    rw [hI, hJ, hA k]
  have ha : (fun j => (jm_A h' i j).map ρ') = (fun j => (jm_A h i j).map ρ) := funext hA
  unfold jm_ce
  rw [hT, hL, hI, hJ, ha, hf]
theorem jm_wl_al {aC : Nat → ClassId} {ρ : Nat → Nat} {h : jm_H} (hH : jm_cH h) (tag len sl : Nat) (fi : Nat → Int32) (q : Nat) : jm_wl aC (jm_ex ρ (jm_N h) q) (jm_al h tag len sl fi) = jm_wl aC ρ h ++ [(q, jm_ce aC (jm_ex ρ (jm_N h) q) (jm_al h tag len sl fi) (jm_N h))] := by
  unfold jm_wl
  rw [show jm_N (jm_al h tag len sl fi) = jm_N h + 1 from rfl, List.range_succ, List.map_append]
  congr 1
  · refine List.map_congr_left fun i hi => ?_
    have hi := List.mem_range.mp hi
    have hne : ¬ i = jm_N h := by omega
    rw [jm_ex_lt hi]
    congr 1
    refine jm_ce_ext ?_ ?_ ?_ ?_ ?_
    · show (if i = jm_N h then tag else jm_T h i) = _
      rw [if_neg hne]
    · show (if i = jm_N h then len else jm_L h i) = _
      rw [if_neg hne]
    · show (if i = jm_N h then fi else jm_I h i) = _
      rw [if_neg hne]
    · show (if i = jm_N h then (fun _ => 0) else jm_J h i) = _
      rw [if_neg hne]
    · intro k
      show ((if i = jm_N h then (fun _ => none) else jm_A h i) k).map _ = _
      rw [if_neg hne]
      exact jm_map_ex (fun a ha => hH i k a ha)
  · simp [jm_ex]
theorem jm_as_mem {ρ : Nat → Nat} {L : jm_Lo} {i : Nat} {u : Value} : (i, u) ∈ jm_as ρ L ↔ ∃ v, L[i]? = some (some v) ∧ u = jm_cv ρ v := by
  unfold jm_as
  rw [List.mem_filterMap]
  constructor
  · rintro ⟨⟨o, j⟩, h1, h2⟩
    have h1 := List.mk_mem_zipIdx_iff_getElem?.mp h1
    cases o with
    | none => cases h2
    | some v =>
      cases h2
      exact ⟨v, h1, rfl⟩
  · rintro ⟨v, h1, rfl⟩
    exact ⟨(some v, i), List.mk_mem_zipIdx_iff_getElem?.mpr h1, rfl⟩
theorem jm_getD {L : jm_Lo} {i : Nat} {v : Value} (h : L.getD i none = some v) : L[i]? = some (some v) := by
  rw [List.getD_eq_getElem?_getD] at h
  cases hq : L[i]? with
  | none => rw [hq] at h; cases h
  | some o => rw [hq] at h; rw [show o = some v from h]
theorem jm_has_get {ρ : Nat → Nat} {L : jm_Lo} {ls : Array Slot} {nL i : Nat} {v : Value} (hl : lv_has ls nL (jm_as ρ L)) (h : L.getD i none = some v) : ls[i]? = some (.val (jm_cv ρ v)) := hl.2.2 (i, jm_cv ρ v) (jm_as_mem.mpr ⟨v, jm_getD h, rfl⟩)
theorem jm_has_of {ρ : Nat → Nat} {L : jm_Lo} {ls : Array Slot} {nL : Nat} {lv : List (Nat × Value)} (hl : lv_has ls nL lv) (h : ∀ i v, L[i]? = some (some v) → (i, jm_cv ρ v) ∈ lv) : lv_has ls nL (jm_as ρ L) := by
  refine ⟨hl.1, hl.2.1, fun q hq => ?_⟩
  obtain ⟨i, u⟩ := q
  obtain ⟨v, h1, rfl⟩ := jm_as_mem.mp hq
  exact hl.2.2 _ (h i v h1)
theorem jm_lgcv {ρ : Nat → Nat} {v : Value} (h : jm_lg (some v) = false) : (jm_cv ρ v).category = 1 := by
  cases v <;> first | rfl | (simp [jm_lg] at h)
theorem jm_st1_has {ρ : Nat → Nat} {L L' : jm_Lo} {ls : Array Slot} {nL i : Nat} {v : Value} (hs : jm_st1 L i v = some L') (hl : lv_has ls nL ((i, jm_cv ρ v) :: (jm_as ρ L).filter (fun q => !(q.1 == i) && !(q.1 + 1 == i && q.2.category == 2)))) : lv_has ls nL (jm_as ρ L') := by
  unfold jm_st1 at hs
  split at hs
  · rename_i hg
    cases hs
    refine jm_has_of hl fun j w hj => ?_
    by_cases hji : j = i
    · subst hji
      rw [List.getElem?_set_self hg.1] at hj
      cases hj
      exact List.mem_cons_self
    · rw [List.getElem?_set_ne (fun q => hji q.symm)] at hj
      refine List.mem_cons_of_mem _ (List.mem_filter.mpr ⟨jm_as_mem.mpr ⟨w, hj, rfl⟩, ?_⟩)
      have hc : j + 1 = i → (jm_cv ρ w).category = 1 := by
        intro hq
        rcases hg.2 with h0 | h0
        · omega
        · have hj' : L.getD (i - 1) none = some w := by
            rw [List.getD_eq_getElem?_getD, show i - 1 = j by omega, hj]
            rfl
          rw [hj'] at h0
          exact jm_lgcv h0
      by_cases hq : j + 1 = i
      · simp [hji, hq, hc hq]
      · simp [hji, hq]
  · cases hs
theorem jm_st2_has {ρ : Nat → Nat} {L L' : jm_Lo} {ls : Array Slot} {nL i : Nat} {v : Value} (hs : jm_st2 L i v = some L') (hl : lv_has ls nL ((i, jm_cv ρ v) :: (jm_as ρ L).filter (fun q => !(q.1 == i) && (!(q.1 == i + 1) && !(q.1 + 1 == i && q.2.category == 2))))) : lv_has ls nL (jm_as ρ L') := by
  unfold jm_st2 at hs
  split at hs
  · rename_i hg
    cases hs
    refine jm_has_of hl fun j w hj => ?_
    by_cases hj1 : j = i + 1
    · subst hj1
      rw [List.getElem?_set_self (by rw [List.length_set]; exact hg.1)] at hj
      cases hj
    · rw [List.getElem?_set_ne (fun q => hj1 q.symm)] at hj
      by_cases hji : j = i
      · subst hji
        rw [List.getElem?_set_self (by omega)] at hj
        cases hj
        exact List.mem_cons_self
      · rw [List.getElem?_set_ne (fun q => hji q.symm)] at hj
        refine List.mem_cons_of_mem _ (List.mem_filter.mpr ⟨jm_as_mem.mpr ⟨w, hj, rfl⟩, ?_⟩)
        have hc : j + 1 = i → (jm_cv ρ w).category = 1 := by
          intro hq
          rcases hg.2 with h0 | h0
          · omega
          · have hj' : L.getD (i - 1) none = some w := by
              rw [List.getD_eq_getElem?_getD, show i - 1 = j by omega, hj]
              rfl
            rw [hj'] at h0
            exact jm_lgcv h0
        by_cases hq : j + 1 = i
        · simp [hji, hq, hj1, hc hq]
        · simp [hji, hq, hj1]
  · cases hs
theorem jm_st1_len {L L' : jm_Lo} {i : Nat} {v : Value} (hs : jm_st1 L i v = some L') : i < L.length ∧ L'.length = L.length := by
  unfold jm_st1 at hs
  split at hs
  · rename_i hg
    cases hs
    exact ⟨hg.1, List.length_set⟩
  · cases hs
theorem jm_st2_len {L L' : jm_Lo} {i : Nat} {v : Value} (hs : jm_st2 L i v = some L') : i + 1 < L.length ∧ L'.length = L.length := by
  unfold jm_st2 at hs
  split at hs
  · rename_i hg
    cases hs
    exact ⟨hg.1, by rw [List.length_set, List.length_set]⟩
  · cases hs
/-- the real state at a frame of the small machine -/
def jm_rel (D : va_G) (aC : Nat → ClassId) (A : Nat → Prop) (ρ0 : Nat → Nat) (n0 nL : Nat) (s : State) (ρ : Nat → Nat) (H : Heap) (locs : List Loc) (ls : Array Slot) (L : jm_Lo) (h : jm_H) : Prop := (∀ i, i < n0 → ρ i = ρ0 i) ∧ va_P D jm_cls (jm_wl aC ρ h) H ∧ va_D A (jm_wl aC ρ h) ∧ va_S A s.heap H locs ∧ lv_has ls nL (jm_as ρ L) ∧ L.length = nL
def jm_W (p : Program) (l : Launch) (e : Env) (R : Room) (s : State) (m : MethodId) (args : Array Value) (below : List Frame) (meth : Method) (c : Code) (Q : State → Prop) (D : va_G) (aC : Nat → ClassId) (A : Nat → Prop) (ρ0 : Nat → Nat) (n0 s0 nL : Nat) (pc : Nat) (L : jm_Lo) (st : List Value) (h : jm_H) : Prop := ∀ ρ H locs ls, jm_rel D aC A ρ0 n0 nL s ρ H locs ls L h → W p l e R s m args below meth c H locs (jm_N h - n0) (jm_S h - s0) Q (F0 m pc ls (st.map (jm_cv ρ)))
/-- what is known inside a method -/
def jm_cx (own : String) (cc : ByteArray) (nL : Nat) (ret : Option FieldType) (ini : Bool) (p : Program) (s : State) (m : MethodId) (args : Array Value) (meth : Method) (c : Code) (D : va_G) (aC : Nat → ClassId) (A : Nat → Prop) : Prop := p.tables.exec = Jvm.exec ∧ c.code = cc ∧ c.maxLocals = nL ∧ s.vm.findClass own = some m.cls ∧ (∀ w ∈ jm_tb, w.before args s = true) ∧ meth.sig.returnType = ret ∧ meth.locks = false ∧ (ini = true → meth.name = "<init>") ∧ va_K D jm_cls (jm_tys aC) s ∧ (∀ q, s.heap.size ≤ q → A q)
def jm_rm (d nc ns : Nat) : Room := { frames := d, cells := nc, slots := ns, locals := 60 * d }
/-- how a method ends: the heap hF, the answer rF -/
def jm_Q (D : va_G) (aC : Nat → ClassId) (ρ0 : Nat → Nat) (n0 : Nat) (rF : Option Value) (hF : jm_H) (A : Nat → Prop) : Array Value → State → Outcome → State → Prop := fun _ st oc t => (∃ ρ' : Nat → Nat, (∀ i, i < n0 → ρ' i = ρ0 i) ∧ oc = .returned (rF.map (jm_cv ρ')) ∧ va_P D jm_cls (jm_wl aC ρ' hF) t.heap ∧ va_K D jm_cls (jm_tys aC) t ∧ va_D A (jm_wl aC ρ' hF)) ∧ va_F A st t
/-- a method's contract at one start: it ends so -/
def jm_con (l : Launch) (d M : Nat) (as : List Value) (h : jm_H) (v : Option Value) (h1 : jm_H) : Prop := ∀ (D : va_G) (aC : Nat → ClassId) (ρ : Nat → Nat) (sz : Nat), Met l (km_y M) (km_w M) (jm_rm d (jm_N h1 - jm_N h) (jm_S h1 - jm_S h)) (va_Pc (as.map (jm_cv ρ)) (fun U => U.heap.size = sz ∧ va_P D jm_cls (jm_wl aC ρ h) U.heap ∧ va_K D jm_cls (jm_tys aC) U ∧ va_D (fun _ => True) (jm_wl aC ρ h))) (jm_Q D aC ρ (jm_N h) v h1 (va_A (jm_wl aC ρ h) sz)) (jm_N h1 - jm_N h) (jm_S h1 - jm_S h) (va_A (jm_wl aC ρ h) sz)
def jm_cs (l : Launch) (d : Nat) (call : jm_C) : Prop := ∀ M as h v h1, jm_cS (jm_N h) as → jm_cH h → call M as h = some (v, h1) → jm_con l d M as h v h1
/-- an instruction is sound at a place of a method -/
def jm_snd (own : String) (cc : ByteArray) (nL : Nat) (ret : Option FieldType) (ini : Bool) (pc : Nat) (op : jm_O) : Prop := ∀ (p : Program) (l : Launch) (e : Env) (s : State) (m : MethodId) (args : Array Value) (below : List Frame) (meth : Method) (c : Code) (D : va_G) (aC : Nat → ClassId) (A : Nat → Prop) (ρ0 : Nat → Nat) (n0 s0 d : Nat) (call : jm_C) (rF : Option Value) (hF : jm_H), jm_cx own cc nL ret ini p s m args meth c D aC A → jm_cp call → jm_cs l d call → ∀ L st h, jm_cL (jm_N h) L → jm_cS (jm_N h) st → jm_cH h → n0 ≤ jm_N h → s0 ≤ jm_S h →
  (∀ pc' L' st' h', op call pc L st h = some (.inl (pc', L', st', h')) → jm_N h' ≤ jm_N hF → jm_S h' ≤ jm_S hF → jm_W p l e (jm_rm (d + 1) (jm_N hF - n0) (jm_S hF - s0)) s m args below meth c (MQ below (jm_Q D aC ρ0 n0 rF hF A) args s (jm_N hF - n0) (jm_S hF - s0) A) D aC A ρ0 n0 s0 nL pc' L' st' h' → jm_W p l e (jm_rm (d + 1) (jm_N hF - n0) (jm_S hF - s0)) s m args below meth c (MQ below (jm_Q D aC ρ0 n0 rF hF A) args s (jm_N hF - n0) (jm_S hF - s0) A) D aC A ρ0 n0 s0 nL pc L st h) ∧
  (op call pc L st h = some (.inr (rF, hF)) → jm_W p l e (jm_rm (d + 1) (jm_N hF - n0) (jm_S hF - s0)) s m args below meth c (MQ below (jm_Q D aC ρ0 n0 rF hF A) args s (jm_N hF - n0) (jm_S hF - s0) A) D aC A ρ0 n0 s0 nL pc L st h)
theorem sn_bad {own : String} {cc : ByteArray} {nL : Nat} {ret : Option FieldType} {ini : Bool} {pc : Nat} : jm_snd own cc nL ret ini pc jm_bad := by
  intro p l e s m args below meth c D aC A ρ0 n0 s0 d call rF hF hcx hcp hcs L st h hL hS hH hn hs
  exact ⟨fun _ _ _ _ hg => (by cases hg), fun hg => (by cases hg)⟩

theorem sn_iload_n {own : String} {cc : ByteArray} {nL : Nat} {ret : Option FieldType} {ini : Bool} {pc : Nat} {i : Fin 4} (hd : decode cc pc = .ok (.iload_n i, 1)) : jm_snd own cc nL ret ini pc (op_iload i 1) := by
  intro p l e s m args below meth c D aC A ρ0 n0 s0 d call rF hF hcx hcp hcs L st h hL hS hH hn hs
  obtain ⟨hx, hb, hml, hown, hts, hr, hlocks, hini, hK, hA⟩ := hcx
  refine ⟨fun pc' L' st' h1 hg hN hSl k ρ H locs ls hrel => ?_, fun hg ρ H locs ls hrel => ?_⟩
  · obtain ⟨hρ, hP, hD, hSt, hl, hlen⟩ := id hrel
    unfold op_iload jm_go at hg
    split at hg
    · rename_i x hx2
      cases hg
      exact lv_iload_n hx hb hd rfl (jm_has_get hl hx2) (k ρ H locs ls hrel)
    · cases hg
  · unfold op_iload jm_go at hg
    (repeat' split at hg) <;> cases hg

theorem sn_iload {own : String} {cc : ByteArray} {nL : Nat} {ret : Option FieldType} {ini : Bool} {pc : Nat} {i : Nat} (hd : decode cc pc = .ok (.iload i, 2)) : jm_snd own cc nL ret ini pc (op_iload i 2) := by
  intro p l e s m args below meth c D aC A ρ0 n0 s0 d call rF hF hcx hcp hcs L st h hL hS hH hn hs
  obtain ⟨hx, hb, hml, hown, hts, hr, hlocks, hini, hK, hA⟩ := hcx
  refine ⟨fun pc' L' st' h1 hg hN hSl k ρ H locs ls hrel => ?_, fun hg ρ H locs ls hrel => ?_⟩
  · obtain ⟨hρ, hP, hD, hSt, hl, hlen⟩ := id hrel
    unfold op_iload jm_go at hg
    split at hg
    · rename_i x hx2
      cases hg
      exact lv_iload hx hb hd (jm_has_get hl hx2) (k ρ H locs ls hrel)
    · cases hg
  · unfold op_iload jm_go at hg
    (repeat' split at hg) <;> cases hg

theorem sn_istore_n {own : String} {cc : ByteArray} {nL : Nat} {ret : Option FieldType} {ini : Bool} {pc : Nat} {i : Fin 4} (hd : decode cc pc = .ok (.istore_n i, 1)) : jm_snd own cc nL ret ini pc (op_istore i 1) := by
  intro p l e s m args below meth c D aC A ρ0 n0 s0 d call rF hF hcx hcp hcs L st h hL hS hH hn hs
  obtain ⟨hx, hb, hml, hown, hts, hr, hlocks, hini, hK, hA⟩ := hcx
  refine ⟨fun pc' L' st' h1 hg hN hSl k ρ H locs ls hrel => ?_, fun hg ρ H locs ls hrel => ?_⟩
  · obtain ⟨hρ, hP, hD, hSt, hl, hlen⟩ := id hrel
    unfold op_istore jm_go at hg
    split at hg
    · split at hg
      · rename_i x st2 L2 hq
        cases hg
        refine lv_istore_n hx hb hd rfl hl (by rw [← hlen]; exact (jm_st1_len hq).1) rfl (fun ls' hl' => ?_)
        exact k ρ H locs ls' ⟨hρ, hP, hD, hSt, jm_st1_has hq hl', (jm_st1_len hq).2.trans hlen⟩
      · cases hg
    · cases hg
  · unfold op_istore jm_go at hg
    (repeat' split at hg) <;> cases hg

theorem sn_istore {own : String} {cc : ByteArray} {nL : Nat} {ret : Option FieldType} {ini : Bool} {pc : Nat} {i : Nat} (hd : decode cc pc = .ok (.istore i, 2)) : jm_snd own cc nL ret ini pc (op_istore i 2) := by
  intro p l e s m args below meth c D aC A ρ0 n0 s0 d call rF hF hcx hcp hcs L st h hL hS hH hn hs
  obtain ⟨hx, hb, hml, hown, hts, hr, hlocks, hini, hK, hA⟩ := hcx
  refine ⟨fun pc' L' st' h1 hg hN hSl k ρ H locs ls hrel => ?_, fun hg ρ H locs ls hrel => ?_⟩
  · obtain ⟨hρ, hP, hD, hSt, hl, hlen⟩ := id hrel
    unfold op_istore jm_go at hg
    split at hg
    · split at hg
      · rename_i x st2 L2 hq
        cases hg
        refine lv_istore hx hb hd hl (by rw [← hlen]; exact (jm_st1_len hq).1) rfl (fun ls' hl' => ?_)
        exact k ρ H locs ls' ⟨hρ, hP, hD, hSt, jm_st1_has hq hl', (jm_st1_len hq).2.trans hlen⟩
      · cases hg
    · cases hg
  · unfold op_istore jm_go at hg
    (repeat' split at hg) <;> cases hg

theorem sn_lload_n {own : String} {cc : ByteArray} {nL : Nat} {ret : Option FieldType} {ini : Bool} {pc : Nat} {i : Fin 4} (hd : decode cc pc = .ok (.lload_n i, 1)) : jm_snd own cc nL ret ini pc (op_lload i 1) := by
  intro p l e s m args below meth c D aC A ρ0 n0 s0 d call rF hF hcx hcp hcs L st h hL hS hH hn hs
  obtain ⟨hx, hb, hml, hown, hts, hr, hlocks, hini, hK, hA⟩ := hcx
  refine ⟨fun pc' L' st' h1 hg hN hSl k ρ H locs ls hrel => ?_, fun hg ρ H locs ls hrel => ?_⟩
  · obtain ⟨hρ, hP, hD, hSt, hl, hlen⟩ := id hrel
    unfold op_lload jm_go at hg
    split at hg
    · rename_i x hx2
      cases hg
      exact lv_lload_n hx hb hd rfl (jm_has_get hl hx2) (k ρ H locs ls hrel)
    · cases hg
  · unfold op_lload jm_go at hg
    (repeat' split at hg) <;> cases hg

theorem sn_lload {own : String} {cc : ByteArray} {nL : Nat} {ret : Option FieldType} {ini : Bool} {pc : Nat} {i : Nat} (hd : decode cc pc = .ok (.lload i, 2)) : jm_snd own cc nL ret ini pc (op_lload i 2) := by
  intro p l e s m args below meth c D aC A ρ0 n0 s0 d call rF hF hcx hcp hcs L st h hL hS hH hn hs
  obtain ⟨hx, hb, hml, hown, hts, hr, hlocks, hini, hK, hA⟩ := hcx
  refine ⟨fun pc' L' st' h1 hg hN hSl k ρ H locs ls hrel => ?_, fun hg ρ H locs ls hrel => ?_⟩
  · obtain ⟨hρ, hP, hD, hSt, hl, hlen⟩ := id hrel
    unfold op_lload jm_go at hg
    split at hg
    · rename_i x hx2
      cases hg
      exact lv_lload hx hb hd (jm_has_get hl hx2) (k ρ H locs ls hrel)
    · cases hg
  · unfold op_lload jm_go at hg
    (repeat' split at hg) <;> cases hg

theorem sn_lstore_n {own : String} {cc : ByteArray} {nL : Nat} {ret : Option FieldType} {ini : Bool} {pc : Nat} {i : Fin 4} (hd : decode cc pc = .ok (.lstore_n i, 1)) : jm_snd own cc nL ret ini pc (op_lstore i 1) := by
  intro p l e s m args below meth c D aC A ρ0 n0 s0 d call rF hF hcx hcp hcs L st h hL hS hH hn hs
  obtain ⟨hx, hb, hml, hown, hts, hr, hlocks, hini, hK, hA⟩ := hcx
  refine ⟨fun pc' L' st' h1 hg hN hSl k ρ H locs ls hrel => ?_, fun hg ρ H locs ls hrel => ?_⟩
  · obtain ⟨hρ, hP, hD, hSt, hl, hlen⟩ := id hrel
    unfold op_lstore jm_go at hg
    split at hg
    · split at hg
      · rename_i x st2 L2 hq
        cases hg
        refine lv_lstore_n hx hb hd rfl hl (by rw [← hlen]; exact (jm_st2_len hq).1) rfl (fun ls' hl' => ?_)
        exact k ρ H locs ls' ⟨hρ, hP, hD, hSt, jm_st2_has hq hl', (jm_st2_len hq).2.trans hlen⟩
      · cases hg
    · cases hg
  · unfold op_lstore jm_go at hg
    (repeat' split at hg) <;> cases hg

theorem sn_lstore {own : String} {cc : ByteArray} {nL : Nat} {ret : Option FieldType} {ini : Bool} {pc : Nat} {i : Nat} (hd : decode cc pc = .ok (.lstore i, 2)) : jm_snd own cc nL ret ini pc (op_lstore i 2) := by
  intro p l e s m args below meth c D aC A ρ0 n0 s0 d call rF hF hcx hcp hcs L st h hL hS hH hn hs
  obtain ⟨hx, hb, hml, hown, hts, hr, hlocks, hini, hK, hA⟩ := hcx
  refine ⟨fun pc' L' st' h1 hg hN hSl k ρ H locs ls hrel => ?_, fun hg ρ H locs ls hrel => ?_⟩
  · obtain ⟨hρ, hP, hD, hSt, hl, hlen⟩ := id hrel
    unfold op_lstore jm_go at hg
    split at hg
    · split at hg
      · rename_i x st2 L2 hq
        cases hg
        refine lv_lstore hx hb hd hl (by rw [← hlen]; exact (jm_st2_len hq).1) rfl (fun ls' hl' => ?_)
        exact k ρ H locs ls' ⟨hρ, hP, hD, hSt, jm_st2_has hq hl', (jm_st2_len hq).2.trans hlen⟩
      · cases hg
    · cases hg
  · unfold op_lstore jm_go at hg
    (repeat' split at hg) <;> cases hg

theorem sn_aload_n {own : String} {cc : ByteArray} {nL : Nat} {ret : Option FieldType} {ini : Bool} {pc : Nat} {i : Fin 4} (hd : decode cc pc = .ok (.aload_n i, 1)) : jm_snd own cc nL ret ini pc (op_aload i 1) := by
  intro p l e s m args below meth c D aC A ρ0 n0 s0 d call rF hF hcx hcp hcs L st h hL hS hH hn hs
  obtain ⟨hx, hb, hml, hown, hts, hr, hlocks, hini, hK, hA⟩ := hcx
  refine ⟨fun pc' L' st' h1 hg hN hSl k ρ H locs ls hrel => ?_, fun hg ρ H locs ls hrel => ?_⟩
  · obtain ⟨hρ, hP, hD, hSt, hl, hlen⟩ := id hrel
    unfold op_aload jm_go at hg
    split at hg
    · rename_i x hx2
      cases hg
      exact lv_aload_n hx hb hd rfl (jm_has_get hl hx2) (k ρ H locs ls hrel)
    · cases hg
  · unfold op_aload jm_go at hg
    (repeat' split at hg) <;> cases hg

theorem sn_aload {own : String} {cc : ByteArray} {nL : Nat} {ret : Option FieldType} {ini : Bool} {pc : Nat} {i : Nat} (hd : decode cc pc = .ok (.aload i, 2)) : jm_snd own cc nL ret ini pc (op_aload i 2) := by
  intro p l e s m args below meth c D aC A ρ0 n0 s0 d call rF hF hcx hcp hcs L st h hL hS hH hn hs
  obtain ⟨hx, hb, hml, hown, hts, hr, hlocks, hini, hK, hA⟩ := hcx
  refine ⟨fun pc' L' st' h1 hg hN hSl k ρ H locs ls hrel => ?_, fun hg ρ H locs ls hrel => ?_⟩
  · obtain ⟨hρ, hP, hD, hSt, hl, hlen⟩ := id hrel
    unfold op_aload jm_go at hg
    split at hg
    · rename_i x hx2
      cases hg
      exact lv_aload hx hb hd (jm_has_get hl hx2) (k ρ H locs ls hrel)
    · cases hg
  · unfold op_aload jm_go at hg
    (repeat' split at hg) <;> cases hg

theorem sn_astore_n {own : String} {cc : ByteArray} {nL : Nat} {ret : Option FieldType} {ini : Bool} {pc : Nat} {i : Fin 4} (hd : decode cc pc = .ok (.astore_n i, 1)) : jm_snd own cc nL ret ini pc (op_astore i 1) := by
  intro p l e s m args below meth c D aC A ρ0 n0 s0 d call rF hF hcx hcp hcs L st h hL hS hH hn hs
  obtain ⟨hx, hb, hml, hown, hts, hr, hlocks, hini, hK, hA⟩ := hcx
  refine ⟨fun pc' L' st' h1 hg hN hSl k ρ H locs ls hrel => ?_, fun hg ρ H locs ls hrel => ?_⟩
  · obtain ⟨hρ, hP, hD, hSt, hl, hlen⟩ := id hrel
    unfold op_astore jm_go at hg
    split at hg
    · split at hg
      · rename_i x st2 L2 hq
        cases hg
        refine lv_astore_n hx hb hd rfl hl (by rw [← hlen]; exact (jm_st1_len hq).1) rfl (fun ls' hl' => ?_)
        exact k ρ H locs ls' ⟨hρ, hP, hD, hSt, jm_st1_has hq hl', (jm_st1_len hq).2.trans hlen⟩
      · cases hg
    · cases hg
  · unfold op_astore jm_go at hg
    (repeat' split at hg) <;> cases hg

theorem sn_astore {own : String} {cc : ByteArray} {nL : Nat} {ret : Option FieldType} {ini : Bool} {pc : Nat} {i : Nat} (hd : decode cc pc = .ok (.astore i, 2)) : jm_snd own cc nL ret ini pc (op_astore i 2) := by
  intro p l e s m args below meth c D aC A ρ0 n0 s0 d call rF hF hcx hcp hcs L st h hL hS hH hn hs
  obtain ⟨hx, hb, hml, hown, hts, hr, hlocks, hini, hK, hA⟩ := hcx
  refine ⟨fun pc' L' st' h1 hg hN hSl k ρ H locs ls hrel => ?_, fun hg ρ H locs ls hrel => ?_⟩
  · obtain ⟨hρ, hP, hD, hSt, hl, hlen⟩ := id hrel
    unfold op_astore jm_go at hg
    split at hg
    · split at hg
      · rename_i x st2 L2 hq
        cases hg
        refine lv_astore hx hb hd hl (by rw [← hlen]; exact (jm_st1_len hq).1) rfl (fun ls' hl' => ?_)
        exact k ρ H locs ls' ⟨hρ, hP, hD, hSt, jm_st1_has hq hl', (jm_st1_len hq).2.trans hlen⟩
      · cases hg
    · cases hg
  · unfold op_astore jm_go at hg
    (repeat' split at hg) <;> cases hg

theorem sn_iinc {own : String} {cc : ByteArray} {nL : Nat} {ret : Option FieldType} {ini : Bool} {pc : Nat} {i : Nat} {n : Int} {k0 : Int32} (hd : decode cc pc = .ok (.iinc i n, 3)) (hk : Int32.ofInt n = k0) : jm_snd own cc nL ret ini pc (op_iinc i k0) := by
  intro p l e s m args below meth c D aC A ρ0 n0 s0 d call rF hF hcx hcp hcs L st h hL hS hH hn hs
  obtain ⟨hx, hb, hml, hown, hts, hr, hlocks, hini, hK, hA⟩ := hcx
  refine ⟨fun pc' L' st' h1 hg hN hSl k ρ H locs ls hrel => ?_, fun hg ρ H locs ls hrel => ?_⟩
  · obtain ⟨hρ, hP, hD, hSt, hl, hlen⟩ := id hrel
    unfold op_iinc jm_go at hg
    split at hg
    · rename_i x hx2
      split at hg
      · rename_i L2 hq
        cases hg
        obtain ⟨kk, hkk⟩ := List.getElem?_of_mem (jm_as_mem.mpr ⟨.int x, jm_getD hx2, rfl⟩ : (i, jm_cv ρ (.int x)) ∈ jm_as ρ L)
        refine lv_iinc (v := x + k0) hx hb hd hl hkk (by rw [hk]) (by rw [← hlen]; exact (jm_st1_len hq).1) rfl (fun ls' hl' => ?_)
        exact k ρ H locs ls' ⟨hρ, hP, hD, hSt, jm_st1_has hq hl', (jm_st1_len hq).2.trans hlen⟩
      · cases hg
    · cases hg
  · unfold op_iinc jm_go at hg
    (repeat' split at hg) <;> cases hg

theorem sn_iconst {own : String} {cc : ByteArray} {nL : Nat} {ret : Option FieldType} {ini : Bool} {pc : Nat} {n : Int} {v : Int32} (hd : decode cc pc = .ok (.iconst n, 1)) (hv : Int32.ofInt n = v) : jm_snd own cc nL ret ini pc (op_ic v 1) := by
  intro p l e s m args below meth c D aC A ρ0 n0 s0 d call rF hF hcx hcp hcs L st h hL hS hH hn hs
  obtain ⟨hx, hb, hml, hown, hts, hr, hlocks, hini, hK, hA⟩ := hcx
  refine ⟨fun pc' L' st' h1 hg hN hSl k ρ H locs ls hrel => ?_, fun hg ρ H locs ls hrel => ?_⟩
  · obtain ⟨hρ, hP, hD, hSt, hl, hlen⟩ := id hrel
    unfold op_ic jm_go at hg
    cases hg
    exact lv_iconst hx hb hd hv (k ρ H locs ls hrel)
  · unfold op_ic jm_go at hg
    (repeat' split at hg) <;> cases hg

theorem sn_bipush {own : String} {cc : ByteArray} {nL : Nat} {ret : Option FieldType} {ini : Bool} {pc : Nat} {n : Int} {v : Int32} (hd : decode cc pc = .ok (.bipush n, 2)) (hv : (Int8.ofInt n).toInt32 = v) : jm_snd own cc nL ret ini pc (op_ic v 2) := by
  intro p l e s m args below meth c D aC A ρ0 n0 s0 d call rF hF hcx hcp hcs L st h hL hS hH hn hs
  obtain ⟨hx, hb, hml, hown, hts, hr, hlocks, hini, hK, hA⟩ := hcx
  refine ⟨fun pc' L' st' h1 hg hN hSl k ρ H locs ls hrel => ?_, fun hg ρ H locs ls hrel => ?_⟩
  · obtain ⟨hρ, hP, hD, hSt, hl, hlen⟩ := id hrel
    unfold op_ic jm_go at hg
    cases hg
    exact lv_bipush hx hb hd hv (k ρ H locs ls hrel)
  · unfold op_ic jm_go at hg
    (repeat' split at hg) <;> cases hg

theorem sn_sipush {own : String} {cc : ByteArray} {nL : Nat} {ret : Option FieldType} {ini : Bool} {pc : Nat} {n : Int} {v : Int32} (hd : decode cc pc = .ok (.sipush n, 3)) (hv : (Int16.ofInt n).toInt32 = v) : jm_snd own cc nL ret ini pc (op_ic v 3) := by
  intro p l e s m args below meth c D aC A ρ0 n0 s0 d call rF hF hcx hcp hcs L st h hL hS hH hn hs
  obtain ⟨hx, hb, hml, hown, hts, hr, hlocks, hini, hK, hA⟩ := hcx
  refine ⟨fun pc' L' st' h1 hg hN hSl k ρ H locs ls hrel => ?_, fun hg ρ H locs ls hrel => ?_⟩
  · obtain ⟨hρ, hP, hD, hSt, hl, hlen⟩ := id hrel
    unfold op_ic jm_go at hg
    cases hg
    exact lv_sipush hx hb hd hv (k ρ H locs ls hrel)
  · unfold op_ic jm_go at hg
    (repeat' split at hg) <;> cases hg

theorem sn_ldc {own : String} {cc : ByteArray} {nL : Nat} {ret : Option FieldType} {ini : Bool} {pc : Nat} {n : Nat} {v : Int32} (hd : decode cc pc = .ok (.ldc n, 2)) (hv : Cond.constant own n v ∈ jm_tb) : jm_snd own cc nL ret ini pc (op_ic v 2) := by
  intro p l e s m args below meth c D aC A ρ0 n0 s0 d call rF hF hcx hcp hcs L st h hL hS hH hn hs
  obtain ⟨hx, hb, hml, hown, hts, hr, hlocks, hini, hK, hA⟩ := hcx
  refine ⟨fun pc' L' st' h1 hg hN hSl k ρ H locs ls hrel => ?_, fun hg ρ H locs ls hrel => ?_⟩
  · obtain ⟨hρ, hP, hD, hSt, hl, hlen⟩ := id hrel
    unfold op_ic jm_go at hg
    cases hg
    exact lv_ldc hx hb hown (hts _ hv) hd (k ρ H locs ls hrel)
  · unfold op_ic jm_go at hg
    (repeat' split at hg) <;> cases hg

theorem sn_ldcw {own : String} {cc : ByteArray} {nL : Nat} {ret : Option FieldType} {ini : Bool} {pc : Nat} {n : Nat} {v : Int32} (hd : decode cc pc = .ok (.ldc_w n, 3)) (hv : Cond.constant own n v ∈ jm_tb) : jm_snd own cc nL ret ini pc (op_ic v 3) := by
  intro p l e s m args below meth c D aC A ρ0 n0 s0 d call rF hF hcx hcp hcs L st h hL hS hH hn hs
  obtain ⟨hx, hb, hml, hown, hts, hr, hlocks, hini, hK, hA⟩ := hcx
  refine ⟨fun pc' L' st' h1 hg hN hSl k ρ H locs ls hrel => ?_, fun hg ρ H locs ls hrel => ?_⟩
  · obtain ⟨hρ, hP, hD, hSt, hl, hlen⟩ := id hrel
    unfold op_ic jm_go at hg
    cases hg
    exact lv_ldcw hx hb hown (hts _ hv) hd (k ρ H locs ls hrel)
  · unfold op_ic jm_go at hg
    (repeat' split at hg) <;> cases hg

theorem sn_lconst {own : String} {cc : ByteArray} {nL : Nat} {ret : Option FieldType} {ini : Bool} {pc : Nat} {n : Fin 2} {v : Int64} (hd : decode cc pc = .ok (.lconst n, 1)) (hv : Int64.ofNat (n : Nat) = v) : jm_snd own cc nL ret ini pc (op_lc v 1) := by
  intro p l e s m args below meth c D aC A ρ0 n0 s0 d call rF hF hcx hcp hcs L st h hL hS hH hn hs
  obtain ⟨hx, hb, hml, hown, hts, hr, hlocks, hini, hK, hA⟩ := hcx
  refine ⟨fun pc' L' st' h1 hg hN hSl k ρ H locs ls hrel => ?_, fun hg ρ H locs ls hrel => ?_⟩
  · obtain ⟨hρ, hP, hD, hSt, hl, hlen⟩ := id hrel
    unfold op_lc jm_go at hg
    cases hg
    exact lv_lconst hx hb hd hv (k ρ H locs ls hrel)
  · unfold op_lc jm_go at hg
    (repeat' split at hg) <;> cases hg

theorem sn_ldc2 {own : String} {cc : ByteArray} {nL : Nat} {ret : Option FieldType} {ini : Bool} {pc : Nat} {n : Nat} {v : Int64} (hd : decode cc pc = .ok (.ldc2_w n, 3)) (hv : Cond.constantLong own n v ∈ jm_tb) : jm_snd own cc nL ret ini pc (op_lc v 3) := by
  intro p l e s m args below meth c D aC A ρ0 n0 s0 d call rF hF hcx hcp hcs L st h hL hS hH hn hs
  obtain ⟨hx, hb, hml, hown, hts, hr, hlocks, hini, hK, hA⟩ := hcx
  refine ⟨fun pc' L' st' h1 hg hN hSl k ρ H locs ls hrel => ?_, fun hg ρ H locs ls hrel => ?_⟩
  · obtain ⟨hρ, hP, hD, hSt, hl, hlen⟩ := id hrel
    unfold op_lc jm_go at hg
    cases hg
    exact lv_ldc2 hx hb hown (hts _ hv) hd (k ρ H locs ls hrel)
  · unfold op_lc jm_go at hg
    (repeat' split at hg) <;> cases hg

theorem jm_cat_cv {ρ : Nat → Nat} {v : Value} : (jm_cv ρ v).category = v.category := by cases v <;> rfl
theorem jm_cat_map {ρ : Nat → Nat} {st : List Value} : ((st.map (jm_cv ρ)).map fun v => v.category).sum = (st.map fun v => v.category).sum := by
  rw [List.map_map]
  congr 1
  exact List.map_congr_left fun v _ => jm_cat_cv

theorem sn_dup {own : String} {cc : ByteArray} {nL : Nat} {ret : Option FieldType} {ini : Bool} {pc : Nat} (hd : decode cc pc = .ok (.dup, 1)) : jm_snd own cc nL ret ini pc (op_dup) := by
  intro p l e s m args below meth c D aC A ρ0 n0 s0 d call rF hF hcx hcp hcs L st h hL hS hH hn hs
  obtain ⟨hx, hb, hml, hown, hts, hr, hlocks, hini, hK, hA⟩ := hcx
  refine ⟨fun pc' L' st' h1 hg hN hSl k ρ H locs ls hrel => ?_, fun hg ρ H locs ls hrel => ?_⟩
  · obtain ⟨hρ, hP, hD, hSt, hl, hlen⟩ := id hrel
    unfold op_dup jm_go at hg
    split at hg
    · split at hg
      · rename_i hc
        cases hg
        exact lv_dup hx hb hd (by rw [jm_cat_cv]; exact hc) (k ρ H locs ls hrel)
      · cases hg
    · cases hg
  · unfold op_dup jm_go at hg
    (repeat' split at hg) <;> cases hg

theorem sn_dup2 {own : String} {cc : ByteArray} {nL : Nat} {ret : Option FieldType} {ini : Bool} {pc : Nat} (hd : decode cc pc = .ok (.dup2, 1)) : jm_snd own cc nL ret ini pc (op_dup2) := by
  intro p l e s m args below meth c D aC A ρ0 n0 s0 d call rF hF hcx hcp hcs L st h hL hS hH hn hs
  obtain ⟨hx, hb, hml, hown, hts, hr, hlocks, hini, hK, hA⟩ := hcx
  refine ⟨fun pc' L' st' h1 hg hN hSl k ρ H locs ls hrel => ?_, fun hg ρ H locs ls hrel => ?_⟩
  · obtain ⟨hρ, hP, hD, hSt, hl, hlen⟩ := id hrel
    unfold op_dup2 jm_go at hg
    split at hg
    · split at hg
      · rename_i hc
        cases hg
        exact lv_dup2_11 hx hb hd (by rw [jm_cat_cv]; exact hc.1) (by rw [jm_cat_cv]; exact hc.2) (k ρ H locs ls hrel)
      · cases hg
    · cases hg
  · unfold op_dup2 jm_go at hg
    (repeat' split at hg) <;> cases hg

theorem sn_pop {own : String} {cc : ByteArray} {nL : Nat} {ret : Option FieldType} {ini : Bool} {pc : Nat} (hd : decode cc pc = .ok (.pop, 1)) : jm_snd own cc nL ret ini pc (op_pop) := by
  intro p l e s m args below meth c D aC A ρ0 n0 s0 d call rF hF hcx hcp hcs L st h hL hS hH hn hs
  obtain ⟨hx, hb, hml, hown, hts, hr, hlocks, hini, hK, hA⟩ := hcx
  refine ⟨fun pc' L' st' h1 hg hN hSl k ρ H locs ls hrel => ?_, fun hg ρ H locs ls hrel => ?_⟩
  · obtain ⟨hρ, hP, hD, hSt, hl, hlen⟩ := id hrel
    unfold op_pop jm_go at hg
    split at hg
    · split at hg
      · rename_i hc
        cases hg
        exact lv_pop hx hb hd (by rw [jm_cat_cv]; exact hc) (k ρ H locs ls hrel)
      · cases hg
    · cases hg
  · unfold op_pop jm_go at hg
    (repeat' split at hg) <;> cases hg

theorem sn_iadd {own : String} {cc : ByteArray} {nL : Nat} {ret : Option FieldType} {ini : Bool} {pc : Nat} (hd : decode cc pc = .ok (.iadd, 1)) : jm_snd own cc nL ret ini pc (op_ibin (fun x y => x + y)) := by
  intro p l e s m args below meth c D aC A ρ0 n0 s0 d call rF hF hcx hcp hcs L st h hL hS hH hn hs
  obtain ⟨hx, hb, hml, hown, hts, hr, hlocks, hini, hK, hA⟩ := hcx
  refine ⟨fun pc' L' st' h1 hg hN hSl k ρ H locs ls hrel => ?_, fun hg ρ H locs ls hrel => ?_⟩
  · obtain ⟨hρ, hP, hD, hSt, hl, hlen⟩ := id hrel
    unfold op_ibin jm_go at hg
    split at hg
    · cases hg
      exact lv_iadd hx hb hd (k ρ H locs ls hrel)
    · cases hg
  · unfold op_ibin jm_go at hg
    (repeat' split at hg) <;> cases hg

theorem sn_isub {own : String} {cc : ByteArray} {nL : Nat} {ret : Option FieldType} {ini : Bool} {pc : Nat} (hd : decode cc pc = .ok (.isub, 1)) : jm_snd own cc nL ret ini pc (op_ibin (fun x y => x - y)) := by
  intro p l e s m args below meth c D aC A ρ0 n0 s0 d call rF hF hcx hcp hcs L st h hL hS hH hn hs
  obtain ⟨hx, hb, hml, hown, hts, hr, hlocks, hini, hK, hA⟩ := hcx
  refine ⟨fun pc' L' st' h1 hg hN hSl k ρ H locs ls hrel => ?_, fun hg ρ H locs ls hrel => ?_⟩
  · obtain ⟨hρ, hP, hD, hSt, hl, hlen⟩ := id hrel
    unfold op_ibin jm_go at hg
    split at hg
    · cases hg
      exact lv_isub hx hb hd (k ρ H locs ls hrel)
    · cases hg
  · unfold op_ibin jm_go at hg
    (repeat' split at hg) <;> cases hg

theorem sn_imul {own : String} {cc : ByteArray} {nL : Nat} {ret : Option FieldType} {ini : Bool} {pc : Nat} (hd : decode cc pc = .ok (.imul, 1)) : jm_snd own cc nL ret ini pc (op_ibin (fun x y => x * y)) := by
  intro p l e s m args below meth c D aC A ρ0 n0 s0 d call rF hF hcx hcp hcs L st h hL hS hH hn hs
  obtain ⟨hx, hb, hml, hown, hts, hr, hlocks, hini, hK, hA⟩ := hcx
  refine ⟨fun pc' L' st' h1 hg hN hSl k ρ H locs ls hrel => ?_, fun hg ρ H locs ls hrel => ?_⟩
  · obtain ⟨hρ, hP, hD, hSt, hl, hlen⟩ := id hrel
    unfold op_ibin jm_go at hg
    split at hg
    · cases hg
      exact lv_imul hx hb hd (k ρ H locs ls hrel)
    · cases hg
  · unfold op_ibin jm_go at hg
    (repeat' split at hg) <;> cases hg

theorem sn_iand {own : String} {cc : ByteArray} {nL : Nat} {ret : Option FieldType} {ini : Bool} {pc : Nat} (hd : decode cc pc = .ok (.iand, 1)) : jm_snd own cc nL ret ini pc (op_ibin (fun x y => x &&& y)) := by
  intro p l e s m args below meth c D aC A ρ0 n0 s0 d call rF hF hcx hcp hcs L st h hL hS hH hn hs
  obtain ⟨hx, hb, hml, hown, hts, hr, hlocks, hini, hK, hA⟩ := hcx
  refine ⟨fun pc' L' st' h1 hg hN hSl k ρ H locs ls hrel => ?_, fun hg ρ H locs ls hrel => ?_⟩
  · obtain ⟨hρ, hP, hD, hSt, hl, hlen⟩ := id hrel
    unfold op_ibin jm_go at hg
    split at hg
    · cases hg
      exact lv_iand hx hb hd (k ρ H locs ls hrel)
    · cases hg
  · unfold op_ibin jm_go at hg
    (repeat' split at hg) <;> cases hg

theorem sn_ior {own : String} {cc : ByteArray} {nL : Nat} {ret : Option FieldType} {ini : Bool} {pc : Nat} (hd : decode cc pc = .ok (.ior, 1)) : jm_snd own cc nL ret ini pc (op_ibin (fun x y => x ||| y)) := by
  intro p l e s m args below meth c D aC A ρ0 n0 s0 d call rF hF hcx hcp hcs L st h hL hS hH hn hs
  obtain ⟨hx, hb, hml, hown, hts, hr, hlocks, hini, hK, hA⟩ := hcx
  refine ⟨fun pc' L' st' h1 hg hN hSl k ρ H locs ls hrel => ?_, fun hg ρ H locs ls hrel => ?_⟩
  · obtain ⟨hρ, hP, hD, hSt, hl, hlen⟩ := id hrel
    unfold op_ibin jm_go at hg
    split at hg
    · cases hg
      exact lv_ior hx hb hd (k ρ H locs ls hrel)
    · cases hg
  · unfold op_ibin jm_go at hg
    (repeat' split at hg) <;> cases hg

theorem sn_ixor {own : String} {cc : ByteArray} {nL : Nat} {ret : Option FieldType} {ini : Bool} {pc : Nat} (hd : decode cc pc = .ok (.ixor, 1)) : jm_snd own cc nL ret ini pc (op_ibin (fun x y => x ^^^ y)) := by
  intro p l e s m args below meth c D aC A ρ0 n0 s0 d call rF hF hcx hcp hcs L st h hL hS hH hn hs
  obtain ⟨hx, hb, hml, hown, hts, hr, hlocks, hini, hK, hA⟩ := hcx
  refine ⟨fun pc' L' st' h1 hg hN hSl k ρ H locs ls hrel => ?_, fun hg ρ H locs ls hrel => ?_⟩
  · obtain ⟨hρ, hP, hD, hSt, hl, hlen⟩ := id hrel
    unfold op_ibin jm_go at hg
    split at hg
    · cases hg
      exact lv_ixor hx hb hd (k ρ H locs ls hrel)
    · cases hg
  · unfold op_ibin jm_go at hg
    (repeat' split at hg) <;> cases hg

theorem sn_ishl {own : String} {cc : ByteArray} {nL : Nat} {ret : Option FieldType} {ini : Bool} {pc : Nat} (hd : decode cc pc = .ok (.ishl, 1)) : jm_snd own cc nL ret ini pc (op_ibin (fun x y => x <<< (y &&& 31))) := by
  intro p l e s m args below meth c D aC A ρ0 n0 s0 d call rF hF hcx hcp hcs L st h hL hS hH hn hs
  obtain ⟨hx, hb, hml, hown, hts, hr, hlocks, hini, hK, hA⟩ := hcx
  refine ⟨fun pc' L' st' h1 hg hN hSl k ρ H locs ls hrel => ?_, fun hg ρ H locs ls hrel => ?_⟩
  · obtain ⟨hρ, hP, hD, hSt, hl, hlen⟩ := id hrel
    unfold op_ibin jm_go at hg
    split at hg
    · cases hg
      exact lv_ishl hx hb hd (k ρ H locs ls hrel)
    · cases hg
  · unfold op_ibin jm_go at hg
    (repeat' split at hg) <;> cases hg

theorem sn_ishr {own : String} {cc : ByteArray} {nL : Nat} {ret : Option FieldType} {ini : Bool} {pc : Nat} (hd : decode cc pc = .ok (.ishr, 1)) : jm_snd own cc nL ret ini pc (op_ibin (fun x y => x >>> (y &&& 31))) := by
  intro p l e s m args below meth c D aC A ρ0 n0 s0 d call rF hF hcx hcp hcs L st h hL hS hH hn hs
  obtain ⟨hx, hb, hml, hown, hts, hr, hlocks, hini, hK, hA⟩ := hcx
  refine ⟨fun pc' L' st' h1 hg hN hSl k ρ H locs ls hrel => ?_, fun hg ρ H locs ls hrel => ?_⟩
  · obtain ⟨hρ, hP, hD, hSt, hl, hlen⟩ := id hrel
    unfold op_ibin jm_go at hg
    split at hg
    · cases hg
      exact lv_ishr hx hb hd (k ρ H locs ls hrel)
    · cases hg
  · unfold op_ibin jm_go at hg
    (repeat' split at hg) <;> cases hg

theorem sn_iushr {own : String} {cc : ByteArray} {nL : Nat} {ret : Option FieldType} {ini : Bool} {pc : Nat} (hd : decode cc pc = .ok (.iushr, 1)) : jm_snd own cc nL ret ini pc (op_ibin (fun x y => (x.toUInt32 >>> (y.toUInt32 &&& Int32.toUInt32 31)).toInt32)) := by
  intro p l e s m args below meth c D aC A ρ0 n0 s0 d call rF hF hcx hcp hcs L st h hL hS hH hn hs
  obtain ⟨hx, hb, hml, hown, hts, hr, hlocks, hini, hK, hA⟩ := hcx
  refine ⟨fun pc' L' st' h1 hg hN hSl k ρ H locs ls hrel => ?_, fun hg ρ H locs ls hrel => ?_⟩
  · obtain ⟨hρ, hP, hD, hSt, hl, hlen⟩ := id hrel
    unfold op_ibin jm_go at hg
    split at hg
    · cases hg
      exact lv_iushr hx hb hd rfl (k ρ H locs ls hrel)
    · cases hg
  · unfold op_ibin jm_go at hg
    (repeat' split at hg) <;> cases hg

theorem sn_idiv {own : String} {cc : ByteArray} {nL : Nat} {ret : Option FieldType} {ini : Bool} {pc : Nat} (hd : decode cc pc = .ok (.idiv, 1)) : jm_snd own cc nL ret ini pc (op_idz (fun x y => x / y)) := by
  intro p l e s m args below meth c D aC A ρ0 n0 s0 d call rF hF hcx hcp hcs L st h hL hS hH hn hs
  obtain ⟨hx, hb, hml, hown, hts, hr, hlocks, hini, hK, hA⟩ := hcx
  refine ⟨fun pc' L' st' h1 hg hN hSl k ρ H locs ls hrel => ?_, fun hg ρ H locs ls hrel => ?_⟩
  · obtain ⟨hρ, hP, hD, hSt, hl, hlen⟩ := id hrel
    unfold op_idz jm_go at hg
    split at hg
    · split at hg
      · cases hg
      · rename_i hc
        cases hg
        exact lv_idiv hx hb hd hc (k ρ H locs ls hrel)
    · cases hg
  · unfold op_idz jm_go at hg
    (repeat' split at hg) <;> cases hg

theorem sn_irem {own : String} {cc : ByteArray} {nL : Nat} {ret : Option FieldType} {ini : Bool} {pc : Nat} (hd : decode cc pc = .ok (.irem, 1)) : jm_snd own cc nL ret ini pc (op_idz (fun x y => x - x / y * y)) := by
  intro p l e s m args below meth c D aC A ρ0 n0 s0 d call rF hF hcx hcp hcs L st h hL hS hH hn hs
  obtain ⟨hx, hb, hml, hown, hts, hr, hlocks, hini, hK, hA⟩ := hcx
  refine ⟨fun pc' L' st' h1 hg hN hSl k ρ H locs ls hrel => ?_, fun hg ρ H locs ls hrel => ?_⟩
  · obtain ⟨hρ, hP, hD, hSt, hl, hlen⟩ := id hrel
    unfold op_idz jm_go at hg
    split at hg
    · split at hg
      · cases hg
      · rename_i hc
        cases hg
        exact lv_irem hx hb hd hc (k ρ H locs ls hrel)
    · cases hg
  · unfold op_idz jm_go at hg
    (repeat' split at hg) <;> cases hg

theorem sn_ineg {own : String} {cc : ByteArray} {nL : Nat} {ret : Option FieldType} {ini : Bool} {pc : Nat} (hd : decode cc pc = .ok (.ineg, 1)) : jm_snd own cc nL ret ini pc (op_iun (fun x => -x)) := by
  intro p l e s m args below meth c D aC A ρ0 n0 s0 d call rF hF hcx hcp hcs L st h hL hS hH hn hs
  obtain ⟨hx, hb, hml, hown, hts, hr, hlocks, hini, hK, hA⟩ := hcx
  refine ⟨fun pc' L' st' h1 hg hN hSl k ρ H locs ls hrel => ?_, fun hg ρ H locs ls hrel => ?_⟩
  · obtain ⟨hρ, hP, hD, hSt, hl, hlen⟩ := id hrel
    unfold op_iun jm_go at hg
    split at hg
    · cases hg
      exact lv_ineg hx hb hd (k ρ H locs ls hrel)
    · cases hg
  · unfold op_iun jm_go at hg
    (repeat' split at hg) <;> cases hg

theorem sn_i2b {own : String} {cc : ByteArray} {nL : Nat} {ret : Option FieldType} {ini : Bool} {pc : Nat} (hd : decode cc pc = .ok (.i2b, 1)) : jm_snd own cc nL ret ini pc (op_iun (fun x => x.toInt8.toInt32)) := by
  intro p l e s m args below meth c D aC A ρ0 n0 s0 d call rF hF hcx hcp hcs L st h hL hS hH hn hs
  obtain ⟨hx, hb, hml, hown, hts, hr, hlocks, hini, hK, hA⟩ := hcx
  refine ⟨fun pc' L' st' h1 hg hN hSl k ρ H locs ls hrel => ?_, fun hg ρ H locs ls hrel => ?_⟩
  · obtain ⟨hρ, hP, hD, hSt, hl, hlen⟩ := id hrel
    unfold op_iun jm_go at hg
    split at hg
    · cases hg
      exact lv_i2b hx hb hd rfl (k ρ H locs ls hrel)
    · cases hg
  · unfold op_iun jm_go at hg
    (repeat' split at hg) <;> cases hg

theorem sn_ladd {own : String} {cc : ByteArray} {nL : Nat} {ret : Option FieldType} {ini : Bool} {pc : Nat} (hd : decode cc pc = .ok (.ladd, 1)) : jm_snd own cc nL ret ini pc (op_lbin (fun x y => x + y)) := by
  intro p l e s m args below meth c D aC A ρ0 n0 s0 d call rF hF hcx hcp hcs L st h hL hS hH hn hs
  obtain ⟨hx, hb, hml, hown, hts, hr, hlocks, hini, hK, hA⟩ := hcx
  refine ⟨fun pc' L' st' h1 hg hN hSl k ρ H locs ls hrel => ?_, fun hg ρ H locs ls hrel => ?_⟩
  · obtain ⟨hρ, hP, hD, hSt, hl, hlen⟩ := id hrel
    unfold op_lbin jm_go at hg
    split at hg
    · cases hg
      exact lv_ladd hx hb hd (k ρ H locs ls hrel)
    · cases hg
  · unfold op_lbin jm_go at hg
    (repeat' split at hg) <;> cases hg

theorem sn_lsub {own : String} {cc : ByteArray} {nL : Nat} {ret : Option FieldType} {ini : Bool} {pc : Nat} (hd : decode cc pc = .ok (.lsub, 1)) : jm_snd own cc nL ret ini pc (op_lbin (fun x y => x - y)) := by
  intro p l e s m args below meth c D aC A ρ0 n0 s0 d call rF hF hcx hcp hcs L st h hL hS hH hn hs
  obtain ⟨hx, hb, hml, hown, hts, hr, hlocks, hini, hK, hA⟩ := hcx
  refine ⟨fun pc' L' st' h1 hg hN hSl k ρ H locs ls hrel => ?_, fun hg ρ H locs ls hrel => ?_⟩
  · obtain ⟨hρ, hP, hD, hSt, hl, hlen⟩ := id hrel
    unfold op_lbin jm_go at hg
    split at hg
    · cases hg
      exact lv_lsub hx hb hd (k ρ H locs ls hrel)
    · cases hg
  · unfold op_lbin jm_go at hg
    (repeat' split at hg) <;> cases hg

theorem sn_land {own : String} {cc : ByteArray} {nL : Nat} {ret : Option FieldType} {ini : Bool} {pc : Nat} (hd : decode cc pc = .ok (.land, 1)) : jm_snd own cc nL ret ini pc (op_lbin (fun x y => x &&& y)) := by
  intro p l e s m args below meth c D aC A ρ0 n0 s0 d call rF hF hcx hcp hcs L st h hL hS hH hn hs
  obtain ⟨hx, hb, hml, hown, hts, hr, hlocks, hini, hK, hA⟩ := hcx
  refine ⟨fun pc' L' st' h1 hg hN hSl k ρ H locs ls hrel => ?_, fun hg ρ H locs ls hrel => ?_⟩
  · obtain ⟨hρ, hP, hD, hSt, hl, hlen⟩ := id hrel
    unfold op_lbin jm_go at hg
    split at hg
    · cases hg
      exact lv_land hx hb hd (k ρ H locs ls hrel)
    · cases hg
  · unfold op_lbin jm_go at hg
    (repeat' split at hg) <;> cases hg

theorem sn_lor {own : String} {cc : ByteArray} {nL : Nat} {ret : Option FieldType} {ini : Bool} {pc : Nat} (hd : decode cc pc = .ok (.lor, 1)) : jm_snd own cc nL ret ini pc (op_lbin (fun x y => x ||| y)) := by
  intro p l e s m args below meth c D aC A ρ0 n0 s0 d call rF hF hcx hcp hcs L st h hL hS hH hn hs
  obtain ⟨hx, hb, hml, hown, hts, hr, hlocks, hini, hK, hA⟩ := hcx
  refine ⟨fun pc' L' st' h1 hg hN hSl k ρ H locs ls hrel => ?_, fun hg ρ H locs ls hrel => ?_⟩
  · obtain ⟨hρ, hP, hD, hSt, hl, hlen⟩ := id hrel
    unfold op_lbin jm_go at hg
    split at hg
    · cases hg
      exact lv_lor hx hb hd (k ρ H locs ls hrel)
    · cases hg
  · unfold op_lbin jm_go at hg
    (repeat' split at hg) <;> cases hg

theorem sn_lxor {own : String} {cc : ByteArray} {nL : Nat} {ret : Option FieldType} {ini : Bool} {pc : Nat} (hd : decode cc pc = .ok (.lxor, 1)) : jm_snd own cc nL ret ini pc (op_lbin (fun x y => x ^^^ y)) := by
  intro p l e s m args below meth c D aC A ρ0 n0 s0 d call rF hF hcx hcp hcs L st h hL hS hH hn hs
  obtain ⟨hx, hb, hml, hown, hts, hr, hlocks, hini, hK, hA⟩ := hcx
  refine ⟨fun pc' L' st' h1 hg hN hSl k ρ H locs ls hrel => ?_, fun hg ρ H locs ls hrel => ?_⟩
  · obtain ⟨hρ, hP, hD, hSt, hl, hlen⟩ := id hrel
    unfold op_lbin jm_go at hg
    split at hg
    · cases hg
      exact lv_lxor hx hb hd (k ρ H locs ls hrel)
    · cases hg
  · unfold op_lbin jm_go at hg
    (repeat' split at hg) <;> cases hg

theorem sn_lshl {own : String} {cc : ByteArray} {nL : Nat} {ret : Option FieldType} {ini : Bool} {pc : Nat} (hd : decode cc pc = .ok (.lshl, 1)) : jm_snd own cc nL ret ini pc (op_lsh (fun x y => x <<< (y.toInt64 &&& 63))) := by
  intro p l e s m args below meth c D aC A ρ0 n0 s0 d call rF hF hcx hcp hcs L st h hL hS hH hn hs
  obtain ⟨hx, hb, hml, hown, hts, hr, hlocks, hini, hK, hA⟩ := hcx
  refine ⟨fun pc' L' st' h1 hg hN hSl k ρ H locs ls hrel => ?_, fun hg ρ H locs ls hrel => ?_⟩
  · obtain ⟨hρ, hP, hD, hSt, hl, hlen⟩ := id hrel
    unfold op_lsh jm_go at hg
    split at hg
    · cases hg
      exact lv_lshl hx hb hd rfl (k ρ H locs ls hrel)
    · cases hg
  · unfold op_lsh jm_go at hg
    (repeat' split at hg) <;> cases hg

theorem sn_lshr {own : String} {cc : ByteArray} {nL : Nat} {ret : Option FieldType} {ini : Bool} {pc : Nat} (hd : decode cc pc = .ok (.lshr, 1)) : jm_snd own cc nL ret ini pc (op_lsh (fun x y => x >>> (y.toInt64 &&& 63))) := by
  intro p l e s m args below meth c D aC A ρ0 n0 s0 d call rF hF hcx hcp hcs L st h hL hS hH hn hs
  obtain ⟨hx, hb, hml, hown, hts, hr, hlocks, hini, hK, hA⟩ := hcx
  refine ⟨fun pc' L' st' h1 hg hN hSl k ρ H locs ls hrel => ?_, fun hg ρ H locs ls hrel => ?_⟩
  · obtain ⟨hρ, hP, hD, hSt, hl, hlen⟩ := id hrel
    unfold op_lsh jm_go at hg
    split at hg
    · cases hg
      exact lv_lshr hx hb hd rfl (k ρ H locs ls hrel)
    · cases hg
  · unfold op_lsh jm_go at hg
    (repeat' split at hg) <;> cases hg

theorem sn_lushr {own : String} {cc : ByteArray} {nL : Nat} {ret : Option FieldType} {ini : Bool} {pc : Nat} (hd : decode cc pc = .ok (.lushr, 1)) : jm_snd own cc nL ret ini pc (op_lsh (fun x y => (x.toUInt64 >>> (y.toInt64.toUInt64 &&& Int64.toUInt64 63)).toInt64)) := by
  intro p l e s m args below meth c D aC A ρ0 n0 s0 d call rF hF hcx hcp hcs L st h hL hS hH hn hs
  obtain ⟨hx, hb, hml, hown, hts, hr, hlocks, hini, hK, hA⟩ := hcx
  refine ⟨fun pc' L' st' h1 hg hN hSl k ρ H locs ls hrel => ?_, fun hg ρ H locs ls hrel => ?_⟩
  · obtain ⟨hρ, hP, hD, hSt, hl, hlen⟩ := id hrel
    unfold op_lsh jm_go at hg
    split at hg
    · cases hg
      exact lv_lushr hx hb hd rfl (k ρ H locs ls hrel)
    · cases hg
  · unfold op_lsh jm_go at hg
    (repeat' split at hg) <;> cases hg

theorem sn_lcmp {own : String} {cc : ByteArray} {nL : Nat} {ret : Option FieldType} {ini : Bool} {pc : Nat} (hd : decode cc pc = .ok (.lcmp, 1)) : jm_snd own cc nL ret ini pc (op_lcmp) := by
  intro p l e s m args below meth c D aC A ρ0 n0 s0 d call rF hF hcx hcp hcs L st h hL hS hH hn hs
  obtain ⟨hx, hb, hml, hown, hts, hr, hlocks, hini, hK, hA⟩ := hcx
  refine ⟨fun pc' L' st' h1 hg hN hSl k ρ H locs ls hrel => ?_, fun hg ρ H locs ls hrel => ?_⟩
  · obtain ⟨hρ, hP, hD, hSt, hl, hlen⟩ := id hrel
    unfold op_lcmp jm_go at hg
    split at hg
    · cases hg
      exact W.lcmp hx hb hd (k ρ H locs ls hrel)
    · cases hg
  · unfold op_lcmp jm_go at hg
    (repeat' split at hg) <;> cases hg

theorem sn_i2l {own : String} {cc : ByteArray} {nL : Nat} {ret : Option FieldType} {ini : Bool} {pc : Nat} (hd : decode cc pc = .ok (.i2l, 1)) : jm_snd own cc nL ret ini pc (op_i2l) := by
  intro p l e s m args below meth c D aC A ρ0 n0 s0 d call rF hF hcx hcp hcs L st h hL hS hH hn hs
  obtain ⟨hx, hb, hml, hown, hts, hr, hlocks, hini, hK, hA⟩ := hcx
  refine ⟨fun pc' L' st' h1 hg hN hSl k ρ H locs ls hrel => ?_, fun hg ρ H locs ls hrel => ?_⟩
  · obtain ⟨hρ, hP, hD, hSt, hl, hlen⟩ := id hrel
    unfold op_i2l jm_go at hg
    split at hg
    · cases hg
      exact lv_i2l hx hb hd rfl (k ρ H locs ls hrel)
    · cases hg
  · unfold op_i2l jm_go at hg
    (repeat' split at hg) <;> cases hg

theorem sn_l2i {own : String} {cc : ByteArray} {nL : Nat} {ret : Option FieldType} {ini : Bool} {pc : Nat} (hd : decode cc pc = .ok (.l2i, 1)) : jm_snd own cc nL ret ini pc (op_l2i) := by
  intro p l e s m args below meth c D aC A ρ0 n0 s0 d call rF hF hcx hcp hcs L st h hL hS hH hn hs
  obtain ⟨hx, hb, hml, hown, hts, hr, hlocks, hini, hK, hA⟩ := hcx
  refine ⟨fun pc' L' st' h1 hg hN hSl k ρ H locs ls hrel => ?_, fun hg ρ H locs ls hrel => ?_⟩
  · obtain ⟨hρ, hP, hD, hSt, hl, hlen⟩ := id hrel
    unfold op_l2i jm_go at hg
    split at hg
    · cases hg
      exact lv_l2i hx hb hd rfl (k ρ H locs ls hrel)
    · cases hg
  · unfold op_l2i jm_go at hg
    (repeat' split at hg) <;> cases hg

theorem sn_goto {own : String} {cc : ByteArray} {nL : Nat} {ret : Option FieldType} {ini : Bool} {pc : Nat} {off : Int} {tgt : Nat} (hd : decode cc pc = .ok (.goto off, 3)) (ht : (pc : Int) + off = (tgt : Int)) : jm_snd own cc nL ret ini pc (op_goto tgt) := by
  intro p l e s m args below meth c D aC A ρ0 n0 s0 d call rF hF hcx hcp hcs L st h hL hS hH hn hs
  obtain ⟨hx, hb, hml, hown, hts, hr, hlocks, hini, hK, hA⟩ := hcx
  refine ⟨fun pc' L' st' h1 hg hN hSl k ρ H locs ls hrel => ?_, fun hg ρ H locs ls hrel => ?_⟩
  · obtain ⟨hρ, hP, hD, hSt, hl, hlen⟩ := id hrel
    unfold op_goto jm_go at hg
    cases hg
    exact lv_goto hx hb hd ht (k ρ H locs ls hrel)
  · unfold op_goto jm_go at hg
    (repeat' split at hg) <;> cases hg

theorem sn_ifeq {own : String} {cc : ByteArray} {nL : Nat} {ret : Option FieldType} {ini : Bool} {pc : Nat} {off : Int} {tgt : Nat} (hd : decode cc pc = .ok (.ifCond .eq off, 3)) (ht : (pc : Int) + off = (tgt : Int)) : jm_snd own cc nL ret ini pc (op_ifeq tgt) := by
  intro p l e s m args below meth c D aC A ρ0 n0 s0 d call rF hF hcx hcp hcs L st h hL hS hH hn hs
  obtain ⟨hx, hb, hml, hown, hts, hr, hlocks, hini, hK, hA⟩ := hcx
  refine ⟨fun pc' L' st' h1 hg hN hSl k ρ H locs ls hrel => ?_, fun hg ρ H locs ls hrel => ?_⟩
  · obtain ⟨hρ, hP, hD, hSt, hl, hlen⟩ := id hrel
    unfold op_ifeq jm_go at hg
    split at hg
    · split at hg
      · rename_i hc
        cases hg
        exact lv_if_eq hx hb hd ht (fun _ => (k ρ H locs ls hrel)) (fun q => absurd hc q)
      · rename_i hc
        cases hg
        exact lv_if_eq hx hb hd ht (fun q => absurd q hc) (fun _ => (k ρ H locs ls hrel))
    · cases hg
  · unfold op_ifeq jm_go at hg
    (repeat' split at hg) <;> cases hg

theorem sn_ceq {own : String} {cc : ByteArray} {nL : Nat} {ret : Option FieldType} {ini : Bool} {pc : Nat} {off : Int} {tgt : Nat} (hd : decode cc pc = .ok (.if_icmp .eq off, 3)) (ht : (pc : Int) + off = (tgt : Int)) : jm_snd own cc nL ret ini pc (op_ceq tgt) := by
  intro p l e s m args below meth c D aC A ρ0 n0 s0 d call rF hF hcx hcp hcs L st h hL hS hH hn hs
  obtain ⟨hx, hb, hml, hown, hts, hr, hlocks, hini, hK, hA⟩ := hcx
  refine ⟨fun pc' L' st' h1 hg hN hSl k ρ H locs ls hrel => ?_, fun hg ρ H locs ls hrel => ?_⟩
  · obtain ⟨hρ, hP, hD, hSt, hl, hlen⟩ := id hrel
    unfold op_ceq jm_go at hg
    split at hg
    · split at hg
      · rename_i hc
        cases hg
        exact lv_icmp_eq hx hb hd ht (fun _ => (k ρ H locs ls hrel)) (fun q => absurd hc q)
      · rename_i hc
        cases hg
        exact lv_icmp_eq hx hb hd ht (fun q => absurd q hc) (fun _ => (k ρ H locs ls hrel))
    · cases hg
  · unfold op_ceq jm_go at hg
    (repeat' split at hg) <;> cases hg

theorem sn_ifne {own : String} {cc : ByteArray} {nL : Nat} {ret : Option FieldType} {ini : Bool} {pc : Nat} {off : Int} {tgt : Nat} (hd : decode cc pc = .ok (.ifCond .ne off, 3)) (ht : (pc : Int) + off = (tgt : Int)) : jm_snd own cc nL ret ini pc (op_ifne tgt) := by
  intro p l e s m args below meth c D aC A ρ0 n0 s0 d call rF hF hcx hcp hcs L st h hL hS hH hn hs
  obtain ⟨hx, hb, hml, hown, hts, hr, hlocks, hini, hK, hA⟩ := hcx
  refine ⟨fun pc' L' st' h1 hg hN hSl k ρ H locs ls hrel => ?_, fun hg ρ H locs ls hrel => ?_⟩
  · obtain ⟨hρ, hP, hD, hSt, hl, hlen⟩ := id hrel
    unfold op_ifne jm_go at hg
    split at hg
    · split at hg
      · rename_i hc
        cases hg
        exact lv_if_ne hx hb hd ht (fun q => absurd hc q) (fun _ => (k ρ H locs ls hrel))
      · rename_i hc
        cases hg
        exact lv_if_ne hx hb hd ht (fun _ => (k ρ H locs ls hrel)) (fun q => absurd q hc)
    · cases hg
  · unfold op_ifne jm_go at hg
    (repeat' split at hg) <;> cases hg

theorem sn_cne {own : String} {cc : ByteArray} {nL : Nat} {ret : Option FieldType} {ini : Bool} {pc : Nat} {off : Int} {tgt : Nat} (hd : decode cc pc = .ok (.if_icmp .ne off, 3)) (ht : (pc : Int) + off = (tgt : Int)) : jm_snd own cc nL ret ini pc (op_cne tgt) := by
  intro p l e s m args below meth c D aC A ρ0 n0 s0 d call rF hF hcx hcp hcs L st h hL hS hH hn hs
  obtain ⟨hx, hb, hml, hown, hts, hr, hlocks, hini, hK, hA⟩ := hcx
  refine ⟨fun pc' L' st' h1 hg hN hSl k ρ H locs ls hrel => ?_, fun hg ρ H locs ls hrel => ?_⟩
  · obtain ⟨hρ, hP, hD, hSt, hl, hlen⟩ := id hrel
    unfold op_cne jm_go at hg
    split at hg
    · split at hg
      · rename_i hc
        cases hg
        exact lv_icmp_ne hx hb hd ht (fun q => absurd hc q) (fun _ => (k ρ H locs ls hrel))
      · rename_i hc
        cases hg
        exact lv_icmp_ne hx hb hd ht (fun _ => (k ρ H locs ls hrel)) (fun q => absurd q hc)
    · cases hg
  · unfold op_cne jm_go at hg
    (repeat' split at hg) <;> cases hg

theorem sn_iflt {own : String} {cc : ByteArray} {nL : Nat} {ret : Option FieldType} {ini : Bool} {pc : Nat} {off : Int} {tgt : Nat} (hd : decode cc pc = .ok (.ifCond .lt off, 3)) (ht : (pc : Int) + off = (tgt : Int)) : jm_snd own cc nL ret ini pc (op_iflt tgt) := by
  intro p l e s m args below meth c D aC A ρ0 n0 s0 d call rF hF hcx hcp hcs L st h hL hS hH hn hs
  obtain ⟨hx, hb, hml, hown, hts, hr, hlocks, hini, hK, hA⟩ := hcx
  refine ⟨fun pc' L' st' h1 hg hN hSl k ρ H locs ls hrel => ?_, fun hg ρ H locs ls hrel => ?_⟩
  · obtain ⟨hρ, hP, hD, hSt, hl, hlen⟩ := id hrel
    unfold op_iflt jm_go at hg
    split at hg
    · split at hg
      · rename_i hc
        cases hg
        exact lv_if_lt hx hb hd ht (fun _ => (k ρ H locs ls hrel)) (fun q => absurd hc q)
      · rename_i hc
        cases hg
        exact lv_if_lt hx hb hd ht (fun q => absurd q hc) (fun _ => (k ρ H locs ls hrel))
    · cases hg
  · unfold op_iflt jm_go at hg
    (repeat' split at hg) <;> cases hg

theorem sn_clt {own : String} {cc : ByteArray} {nL : Nat} {ret : Option FieldType} {ini : Bool} {pc : Nat} {off : Int} {tgt : Nat} (hd : decode cc pc = .ok (.if_icmp .lt off, 3)) (ht : (pc : Int) + off = (tgt : Int)) : jm_snd own cc nL ret ini pc (op_clt tgt) := by
  intro p l e s m args below meth c D aC A ρ0 n0 s0 d call rF hF hcx hcp hcs L st h hL hS hH hn hs
  obtain ⟨hx, hb, hml, hown, hts, hr, hlocks, hini, hK, hA⟩ := hcx
  refine ⟨fun pc' L' st' h1 hg hN hSl k ρ H locs ls hrel => ?_, fun hg ρ H locs ls hrel => ?_⟩
  · obtain ⟨hρ, hP, hD, hSt, hl, hlen⟩ := id hrel
    unfold op_clt jm_go at hg
    split at hg
    · split at hg
      · rename_i hc
        cases hg
        exact lv_icmp_lt hx hb hd ht (fun _ => (k ρ H locs ls hrel)) (fun q => absurd hc q)
      · rename_i hc
        cases hg
        exact lv_icmp_lt hx hb hd ht (fun q => absurd q hc) (fun _ => (k ρ H locs ls hrel))
    · cases hg
  · unfold op_clt jm_go at hg
    (repeat' split at hg) <;> cases hg

theorem sn_ifge {own : String} {cc : ByteArray} {nL : Nat} {ret : Option FieldType} {ini : Bool} {pc : Nat} {off : Int} {tgt : Nat} (hd : decode cc pc = .ok (.ifCond .ge off, 3)) (ht : (pc : Int) + off = (tgt : Int)) : jm_snd own cc nL ret ini pc (op_ifge tgt) := by
  intro p l e s m args below meth c D aC A ρ0 n0 s0 d call rF hF hcx hcp hcs L st h hL hS hH hn hs
  obtain ⟨hx, hb, hml, hown, hts, hr, hlocks, hini, hK, hA⟩ := hcx
  refine ⟨fun pc' L' st' h1 hg hN hSl k ρ H locs ls hrel => ?_, fun hg ρ H locs ls hrel => ?_⟩
  · obtain ⟨hρ, hP, hD, hSt, hl, hlen⟩ := id hrel
    unfold op_ifge jm_go at hg
    split at hg
    · split at hg
      · rename_i hc
        cases hg
        exact lv_if_ge hx hb hd ht (fun _ => (k ρ H locs ls hrel)) (fun q => absurd hc q)
      · rename_i hc
        cases hg
        exact lv_if_ge hx hb hd ht (fun q => absurd q hc) (fun _ => (k ρ H locs ls hrel))
    · cases hg
  · unfold op_ifge jm_go at hg
    (repeat' split at hg) <;> cases hg

theorem sn_cge {own : String} {cc : ByteArray} {nL : Nat} {ret : Option FieldType} {ini : Bool} {pc : Nat} {off : Int} {tgt : Nat} (hd : decode cc pc = .ok (.if_icmp .ge off, 3)) (ht : (pc : Int) + off = (tgt : Int)) : jm_snd own cc nL ret ini pc (op_cge tgt) := by
  intro p l e s m args below meth c D aC A ρ0 n0 s0 d call rF hF hcx hcp hcs L st h hL hS hH hn hs
  obtain ⟨hx, hb, hml, hown, hts, hr, hlocks, hini, hK, hA⟩ := hcx
  refine ⟨fun pc' L' st' h1 hg hN hSl k ρ H locs ls hrel => ?_, fun hg ρ H locs ls hrel => ?_⟩
  · obtain ⟨hρ, hP, hD, hSt, hl, hlen⟩ := id hrel
    unfold op_cge jm_go at hg
    split at hg
    · split at hg
      · rename_i hc
        cases hg
        exact lv_icmp_ge hx hb hd ht (fun _ => (k ρ H locs ls hrel)) (fun q => absurd hc q)
      · rename_i hc
        cases hg
        exact lv_icmp_ge hx hb hd ht (fun q => absurd q hc) (fun _ => (k ρ H locs ls hrel))
    · cases hg
  · unfold op_cge jm_go at hg
    (repeat' split at hg) <;> cases hg

theorem sn_ifgt {own : String} {cc : ByteArray} {nL : Nat} {ret : Option FieldType} {ini : Bool} {pc : Nat} {off : Int} {tgt : Nat} (hd : decode cc pc = .ok (.ifCond .gt off, 3)) (ht : (pc : Int) + off = (tgt : Int)) : jm_snd own cc nL ret ini pc (op_ifgt tgt) := by
  intro p l e s m args below meth c D aC A ρ0 n0 s0 d call rF hF hcx hcp hcs L st h hL hS hH hn hs
  obtain ⟨hx, hb, hml, hown, hts, hr, hlocks, hini, hK, hA⟩ := hcx
  refine ⟨fun pc' L' st' h1 hg hN hSl k ρ H locs ls hrel => ?_, fun hg ρ H locs ls hrel => ?_⟩
  · obtain ⟨hρ, hP, hD, hSt, hl, hlen⟩ := id hrel
    unfold op_ifgt jm_go at hg
    split at hg
    · split at hg
      · rename_i hc
        cases hg
        exact lv_if_gt hx hb hd ht (fun _ => (k ρ H locs ls hrel)) (fun q => absurd hc q)
      · rename_i hc
        cases hg
        exact lv_if_gt hx hb hd ht (fun q => absurd q hc) (fun _ => (k ρ H locs ls hrel))
    · cases hg
  · unfold op_ifgt jm_go at hg
    (repeat' split at hg) <;> cases hg

theorem sn_cgt {own : String} {cc : ByteArray} {nL : Nat} {ret : Option FieldType} {ini : Bool} {pc : Nat} {off : Int} {tgt : Nat} (hd : decode cc pc = .ok (.if_icmp .gt off, 3)) (ht : (pc : Int) + off = (tgt : Int)) : jm_snd own cc nL ret ini pc (op_cgt tgt) := by
  intro p l e s m args below meth c D aC A ρ0 n0 s0 d call rF hF hcx hcp hcs L st h hL hS hH hn hs
  obtain ⟨hx, hb, hml, hown, hts, hr, hlocks, hini, hK, hA⟩ := hcx
  refine ⟨fun pc' L' st' h1 hg hN hSl k ρ H locs ls hrel => ?_, fun hg ρ H locs ls hrel => ?_⟩
  · obtain ⟨hρ, hP, hD, hSt, hl, hlen⟩ := id hrel
    unfold op_cgt jm_go at hg
    split at hg
    · split at hg
      · rename_i hc
        cases hg
        exact lv_icmp_gt hx hb hd ht (fun _ => (k ρ H locs ls hrel)) (fun q => absurd hc q)
      · rename_i hc
        cases hg
        exact lv_icmp_gt hx hb hd ht (fun q => absurd q hc) (fun _ => (k ρ H locs ls hrel))
    · cases hg
  · unfold op_cgt jm_go at hg
    (repeat' split at hg) <;> cases hg

theorem sn_ifle {own : String} {cc : ByteArray} {nL : Nat} {ret : Option FieldType} {ini : Bool} {pc : Nat} {off : Int} {tgt : Nat} (hd : decode cc pc = .ok (.ifCond .le off, 3)) (ht : (pc : Int) + off = (tgt : Int)) : jm_snd own cc nL ret ini pc (op_ifle tgt) := by
  intro p l e s m args below meth c D aC A ρ0 n0 s0 d call rF hF hcx hcp hcs L st h hL hS hH hn hs
  obtain ⟨hx, hb, hml, hown, hts, hr, hlocks, hini, hK, hA⟩ := hcx
  refine ⟨fun pc' L' st' h1 hg hN hSl k ρ H locs ls hrel => ?_, fun hg ρ H locs ls hrel => ?_⟩
  · obtain ⟨hρ, hP, hD, hSt, hl, hlen⟩ := id hrel
    unfold op_ifle jm_go at hg
    split at hg
    · split at hg
      · rename_i hc
        cases hg
        exact lv_if_le hx hb hd ht (fun _ => (k ρ H locs ls hrel)) (fun q => absurd hc q)
      · rename_i hc
        cases hg
        exact lv_if_le hx hb hd ht (fun q => absurd q hc) (fun _ => (k ρ H locs ls hrel))
    · cases hg
  · unfold op_ifle jm_go at hg
    (repeat' split at hg) <;> cases hg

theorem sn_cle {own : String} {cc : ByteArray} {nL : Nat} {ret : Option FieldType} {ini : Bool} {pc : Nat} {off : Int} {tgt : Nat} (hd : decode cc pc = .ok (.if_icmp .le off, 3)) (ht : (pc : Int) + off = (tgt : Int)) : jm_snd own cc nL ret ini pc (op_cle tgt) := by
  intro p l e s m args below meth c D aC A ρ0 n0 s0 d call rF hF hcx hcp hcs L st h hL hS hH hn hs
  obtain ⟨hx, hb, hml, hown, hts, hr, hlocks, hini, hK, hA⟩ := hcx
  refine ⟨fun pc' L' st' h1 hg hN hSl k ρ H locs ls hrel => ?_, fun hg ρ H locs ls hrel => ?_⟩
  · obtain ⟨hρ, hP, hD, hSt, hl, hlen⟩ := id hrel
    unfold op_cle jm_go at hg
    split at hg
    · split at hg
      · rename_i hc
        cases hg
        exact lv_icmp_le hx hb hd ht (fun _ => (k ρ H locs ls hrel)) (fun q => absurd hc q)
      · rename_i hc
        cases hg
        exact lv_icmp_le hx hb hd ht (fun q => absurd q hc) (fun _ => (k ρ H locs ls hrel))
    · cases hg
  · unfold op_cle jm_go at hg
    (repeat' split at hg) <;> cases hg

