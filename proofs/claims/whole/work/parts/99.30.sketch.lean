/-! The sketch as a ring and as spots. -/
def ptx (l : ptl) (k : Nat) : Int := (l.getD k (0, 0, 0)).1
def pty (l : ptl) (k : Nat) : Int := (l.getD k (0, 0, 0)).2.1
def ptc (l : ptl) (k : Nat) : Int := (l.getD k (0, 0, 0)).2.2
theorem pt_get {l : ptl} {k : Nat} (h : k < l.length) : l[k]? = some (l.getD k (0, 0, 0)) := by
  rw [List.getD_eq_getElem?_getD, List.getElem?_eq_getElem h]
  rfl
theorem pt_mem {l : ptl} {k : Nat} (h : k < l.length) : l.getD k (0, 0, 0) ∈ l := List.mem_of_getElem? (pt_get h)
theorem okl_k {l : ptl} (h : okl l) {k : Nat} (hk : k < l.length) : (-20 ≤ ptx l k ∧ ptx l k ≤ 20) ∧ (-20 ≤ pty l k ∧ pty l k ≤ 20) ∧ 0 ≤ ptc l k ∧ ptc l k ≤ 9 := h _ (pt_mem hk)
theorem cP_k {g : gm_T} {A B C k0 : Nat} {l : ptl} (h : cP g A B C k0 l) {k : Nat} (hk : k < l.length) : gm_I g A (k0 + k) = ptx l k ∧ gm_I g B (k0 + k) = pty l k ∧ gm_I g C (k0 + k) = ptc l k := h k _ (pt_get hk)
theorem rG_of {l : ptl} (h : okl l) (h3 : 3 ≤ l.length) (h8 : l.length ≤ 8) : rG l.length (ptx l) (pty l) := ⟨⟨h3, h8⟩, fun k hk => by have := okl_k h hk; exact ⟨this.1, this.2.1⟩⟩
theorem sG_of {l : ptl} (h : okl l) (h5 : l.length ≤ 5) : sG l.length (ptx l) (pty l) := ⟨h5, fun k hk => by have := okl_k h hk; exact ⟨this.1, this.2.1⟩⟩
theorem isC_of {g : gm_T} {l : ptl} (h : cP g 4 5 6 0 l) (h3 : gm_I g 3 3 = (l.length : Int)) : isC g l.length (ptx l) (pty l) := ⟨h3, fun k hk => by
  have := cP_k h hk
  rw [Nat.zero_add] at this
  exact ⟨this.1, this.2.1⟩⟩
theorem isCs_of {g : gm_T} {l : ptl} (h : cP g 7 8 9 0 l) (h3 : gm_I g 3 7 = (l.length : Int)) : isCs g l.length (ptx l) (pty l) := ⟨h3, fun k hk => by
  have := cP_k h hk
  rw [Nat.zero_add] at this
  exact ⟨this.1, this.2.1⟩⟩
theorem isR_of {g : gm_T} {n : Nat} {l : ptl} (h : cP g 47 48 49 (8 * n) l) (h3 : gm_I g 46 n = (l.length : Int)) : isR g n l.length (ptx l) (pty l) := ⟨h3, fun k hk => by
  have := cP_k h hk
  exact ⟨this.1, this.2.1⟩⟩
theorem isRs_of {g : gm_T} {n : Nat} {l : ptl} (h : cP g 51 52 53 (5 * n) l) (h3 : gm_I g 50 n = (l.length : Int)) : isRs g n l.length (ptx l) (pty l) := ⟨h3, fun k hk => by
  have := cP_k h hk
  exact ⟨this.1, this.2.1⟩⟩
theorem bcor_ok {t : Nat → Int} {L : Nat} (h : endT t L) : okl (bcor t) ∧ (bcor t).length ≤ 8 := by
  have w := cpr_ok h 8 0 (Nat.zero_le _)
  exact ⟨w.2.1, w.2.2⟩
theorem bspt_ok {t : Nat → Int} {L : Nat} (h : endT t L) : okl (bspt t) ∧ (bspt t).length ≤ 5 := by
  have w := cpr_ok h 8 0 (Nat.zero_le _)
  have v := spr_ok h 5 (cpr t 8 0).2.1 w.1
  exact ⟨v.2.1, v.2.2⟩
/-- a ring has no edge of length 0 -/
theorem rng_way {c : Nat} {X Y : Nat → Int} (h : rng c X Y = true) {k : Nat} (hk : k < c) : ¬ (rdx c X k = 0 ∧ rdx c Y k = 0) := fun q => by
  unfold rng at h
  rw [Bool.and_eq_true, Bool.and_eq_true] at h
  have w : anq (rze c X Y) 0 c = true := anq_iff c 0 |>.mpr ⟨k, ⟨Nat.zero_le _, by omega⟩, decide_eq_true (by
    have q1 := q.1
    have q2 := q.2
    unfold rdx at q1 q2
    omega)⟩
  rw [w] at h
  cases h.1.1
/-- good spots lie in cells -/
theorem gsq_in {c s : Nat} {X Y U V : Nat → Int} (hG : rG c X Y) (h : anq (gsq c X Y U V) 0 s = false) {k : Nat} (hk : k < s) : (-20 ≤ U k ∧ U k ≤ 19) ∧ -20 ≤ V k ∧ V k ≤ 19 := by
  have c0 : 0 < c := by have := hG.1.1; omega
  have w : winr c X Y (U k) (V k) = true := by
    cases e : winr c X Y (U k) (V k) with
    | true => rfl
    | false =>
      have : anq (gsq c X Y U V) 0 s = true := anq_iff s 0 |>.mpr ⟨k, ⟨Nat.zero_le _, by omega⟩, by unfold gsq; rw [e]; rfl⟩
      rw [this] at h
      cases h
  refine Decidable.byContradiction (fun q => ?_)
  have o : winr c X Y (U k) (V k) = false := by
    refine winr_out c0 ?_
    by_cases q1 : U k < -20
    · exact Or.inr (Or.inr (Or.inr (fun j hj => by have := hG.2 j hj; omega)))
    by_cases q2 : 19 < U k
    · exact Or.inr (Or.inr (Or.inl (fun j hj => by have := hG.2 j hj; omega)))
    by_cases q3 : V k < -20
    · exact Or.inl (fun j hj => by have := hG.2 j hj; omega)
    · exact Or.inr (Or.inl (fun j hj => by have := hG.2 j hj; omega))
  rw [w] at o
  cases o
