/-! The constructors, computed from the empty heap: what an instruction does with more calls known is what it did. -/
def jm_mo (op : jm_O) : Prop := ∀ c1 c2 : jm_C, (∀ M as h r, c1 M as h = some r → c2 M as h = some r) → ∀ pc L st h x, op c1 pc L st h = some x → op c2 pc L st h = some x
theorem mq_nil : ∀ e ∈ ([] : List (Nat × jm_O)), jm_mo e.2 := fun _ h => absurd h List.not_mem_nil
theorem mq_p {p : Nat} {op : jm_O} {l : List (Nat × jm_O)} (h : ∀ c1 c2 : jm_C, op c1 = op c2) (k : ∀ e ∈ l, jm_mo e.2) : ∀ e ∈ ((p, op) :: l), jm_mo e.2 := List.forall_mem_cons.mpr ⟨fun c1 c2 _ pc L st h' x q => by
  show op c2 pc L st h' = some x
  rw [h c2 c1]
  exact q, k⟩
theorem mq_callV (ci M n : Nat) : jm_mo (op_callV ci M n) := by
  intro c1 c2 hc pc L st h x hx
  unfold op_callV at hx ⊢
  by_cases q : (n ≤ st.length ∧ ((st.drop n).map fun v => v.category).sum ≤ 8) ∧ jm_rc h ci (st.take n).getLast? = true
  · rw [if_pos q] at hx ⊢
    cases e : c1 M (st.take n).reverse h with
    | none => rw [e] at hx; cases hx
    | some r =>
      rw [e] at hx
      rw [hc _ _ _ _ e]
      exact hx
  · rw [if_neg q] at hx
    cases hx
theorem mq_v {p ci M n : Nat} {l : List (Nat × jm_O)} (k : ∀ e ∈ l, jm_mo e.2) : ∀ e ∈ ((p, op_callV ci M n) :: l), jm_mo e.2 := List.forall_mem_cons.mpr ⟨mq_callV ci M n, k⟩
theorem mq_lu : ∀ (l : List (Nat × jm_O)), (∀ e ∈ l, jm_mo e.2) → ∀ pc, jm_mo (jm_lu l pc)
  | [], _, _ => fun _ _ _ _ _ _ _ _ h => h
  | (p, o) :: r, h, pc => by
    unfold jm_lu
    by_cases hq : pc = p
    · rw [if_pos hq]
      exact h (p, o) List.mem_cons_self
    · rw [if_neg hq]
      exact mq_lu r (fun e he => h e (List.mem_cons_of_mem _ he)) pc
theorem mq_if {c : Prop} [inst : Decidable c] {a b : jm_O} (ha : jm_mo a) (hb : jm_mo b) : jm_mo (if c then a else b) := by
  split
  · exact ha
  · exact hb
theorem mq_run {cd : Nat → jm_O} (hcd : ∀ pc, jm_mo (cd pc)) {c1 c2 : jm_C} (hc : ∀ M as h r, c1 M as h = some r → c2 M as h = some r) : ∀ (n : Nat) (f : jm_F) (r : jm_R), jm_run cd c1 n f = some r → jm_run cd c2 n f = some r := by
  intro n
  induction n with
  | zero => intro f r h; cases h
  | succ n ih =>
    intro f r h
    unfold jm_run at h ⊢
    cases e : cd f.1 c1 f.1 f.2.1 f.2.2.1 f.2.2.2 with
    | none => rw [e] at h; cases h
    | some x =>
      rw [e] at h
      rw [hcd f.1 c1 c2 hc _ _ _ _ x e]
      cases x with
      | inr r' => exact h
      | inl g => exact ih g r h
theorem mq_0_0 : ∀ e ∈ cl_0_0, jm_mo e.2 := mq_p (fun _ _ => rfl) (mq_p (fun _ _ => rfl) (mq_p (fun _ _ => rfl) (mq_p (fun _ _ => rfl) (mq_p (fun _ _ => rfl) (mq_p (fun _ _ => rfl) (mq_p (fun _ _ => rfl) (mq_p (fun _ _ => rfl) (mq_p (fun _ _ => rfl) (mq_p (fun _ _ => rfl) (mq_p (fun _ _ => rfl) (mq_p (fun _ _ => rfl) (mq_p (fun _ _ => rfl) (mq_p (fun _ _ => rfl) (mq_p (fun _ _ => rfl) (mq_p (fun _ _ => rfl) (mq_p (fun _ _ => rfl) (mq_p (fun _ _ => rfl) (mq_p (fun _ _ => rfl) (mq_p (fun _ _ => rfl) (mq_p (fun _ _ => rfl) (mq_p (fun _ _ => rfl) (mq_nil))))))))))))))))))))))
theorem mq_cd_0 (pc : Nat) : jm_mo (cd_0 pc) := mq_lu _ mq_0_0 pc
theorem mq_19_0 : ∀ e ∈ cl_19_0, jm_mo e.2 := mq_p (fun _ _ => rfl) (mq_p (fun _ _ => rfl) (mq_p (fun _ _ => rfl) (mq_p (fun _ _ => rfl) (mq_p (fun _ _ => rfl) (mq_p (fun _ _ => rfl) (mq_p (fun _ _ => rfl) (mq_p (fun _ _ => rfl) (mq_p (fun _ _ => rfl) (mq_p (fun _ _ => rfl) (mq_p (fun _ _ => rfl) (mq_p (fun _ _ => rfl) (mq_p (fun _ _ => rfl) (mq_p (fun _ _ => rfl) (mq_p (fun _ _ => rfl) (mq_p (fun _ _ => rfl) (mq_p (fun _ _ => rfl) (mq_p (fun _ _ => rfl) (mq_p (fun _ _ => rfl) (mq_p (fun _ _ => rfl) (mq_p (fun _ _ => rfl) (mq_p (fun _ _ => rfl) (mq_p (fun _ _ => rfl) (mq_p (fun _ _ => rfl) (mq_p (fun _ _ => rfl) (mq_nil)))))))))))))))))))))))))
theorem mq_19_1 : ∀ e ∈ cl_19_1, jm_mo e.2 := mq_p (fun _ _ => rfl) (mq_p (fun _ _ => rfl) (mq_p (fun _ _ => rfl) (mq_p (fun _ _ => rfl) (mq_p (fun _ _ => rfl) (mq_p (fun _ _ => rfl) (mq_nil))))))
theorem mq_cd_19 (pc : Nat) : jm_mo (cd_19 pc) := mq_if (mq_lu _ mq_19_0 pc) (mq_lu _ mq_19_1 pc)
theorem mq_29_0 : ∀ e ∈ cl_29_0, jm_mo e.2 := mq_p (fun _ _ => rfl) (mq_p (fun _ _ => rfl) (mq_p (fun _ _ => rfl) (mq_p (fun _ _ => rfl) (mq_p (fun _ _ => rfl) (mq_p (fun _ _ => rfl) (mq_p (fun _ _ => rfl) (mq_p (fun _ _ => rfl) (mq_p (fun _ _ => rfl) (mq_p (fun _ _ => rfl) (mq_p (fun _ _ => rfl) (mq_p (fun _ _ => rfl) (mq_p (fun _ _ => rfl) (mq_p (fun _ _ => rfl) (mq_p (fun _ _ => rfl) (mq_p (fun _ _ => rfl) (mq_p (fun _ _ => rfl) (mq_p (fun _ _ => rfl) (mq_p (fun _ _ => rfl) (mq_p (fun _ _ => rfl) (mq_p (fun _ _ => rfl) (mq_p (fun _ _ => rfl) (mq_p (fun _ _ => rfl) (mq_p (fun _ _ => rfl) (mq_p (fun _ _ => rfl) (mq_nil)))))))))))))))))))))))))
theorem mq_29_1 : ∀ e ∈ cl_29_1, jm_mo e.2 := mq_p (fun _ _ => rfl) (mq_p (fun _ _ => rfl) (mq_p (fun _ _ => rfl) (mq_p (fun _ _ => rfl) (mq_nil))))
theorem mq_cd_29 (pc : Nat) : jm_mo (cd_29 pc) := mq_if (mq_lu _ mq_29_0 pc) (mq_lu _ mq_29_1 pc)
theorem mq_40_0 : ∀ e ∈ cl_40_0, jm_mo e.2 := mq_p (fun _ _ => rfl) (mq_p (fun _ _ => rfl) (mq_p (fun _ _ => rfl) (mq_p (fun _ _ => rfl) (mq_p (fun _ _ => rfl) (mq_p (fun _ _ => rfl) (mq_p (fun _ _ => rfl) (mq_p (fun _ _ => rfl) (mq_p (fun _ _ => rfl) (mq_p (fun _ _ => rfl) (mq_p (fun _ _ => rfl) (mq_p (fun _ _ => rfl) (mq_p (fun _ _ => rfl) (mq_p (fun _ _ => rfl) (mq_p (fun _ _ => rfl) (mq_p (fun _ _ => rfl) (mq_p (fun _ _ => rfl) (mq_p (fun _ _ => rfl) (mq_p (fun _ _ => rfl) (mq_p (fun _ _ => rfl) (mq_p (fun _ _ => rfl) (mq_p (fun _ _ => rfl) (mq_p (fun _ _ => rfl) (mq_p (fun _ _ => rfl) (mq_p (fun _ _ => rfl) (mq_nil)))))))))))))))))))))))))
theorem mq_40_1 : ∀ e ∈ cl_40_1, jm_mo e.2 := mq_p (fun _ _ => rfl) (mq_p (fun _ _ => rfl) (mq_p (fun _ _ => rfl) (mq_p (fun _ _ => rfl) (mq_p (fun _ _ => rfl) (mq_p (fun _ _ => rfl) (mq_nil))))))
theorem mq_cd_40 (pc : Nat) : jm_mo (cd_40 pc) := mq_if (mq_lu _ mq_40_0 pc) (mq_lu _ mq_40_1 pc)
theorem mq_56_0 : ∀ e ∈ cl_56_0, jm_mo e.2 := mq_p (fun _ _ => rfl) (mq_p (fun _ _ => rfl) (mq_p (fun _ _ => rfl) (mq_p (fun _ _ => rfl) (mq_p (fun _ _ => rfl) (mq_p (fun _ _ => rfl) (mq_p (fun _ _ => rfl) (mq_nil)))))))
theorem mq_cd_56 (pc : Nat) : jm_mo (cd_56 pc) := mq_lu _ mq_56_0 pc
theorem mq_67_0 : ∀ e ∈ cl_67_0, jm_mo e.2 := mq_p (fun _ _ => rfl) (mq_p (fun _ _ => rfl) (mq_p (fun _ _ => rfl) (mq_p (fun _ _ => rfl) (mq_p (fun _ _ => rfl) (mq_p (fun _ _ => rfl) (mq_p (fun _ _ => rfl) (mq_p (fun _ _ => rfl) (mq_p (fun _ _ => rfl) (mq_p (fun _ _ => rfl) (mq_p (fun _ _ => rfl) (mq_p (fun _ _ => rfl) (mq_p (fun _ _ => rfl) (mq_p (fun _ _ => rfl) (mq_p (fun _ _ => rfl) (mq_p (fun _ _ => rfl) (mq_p (fun _ _ => rfl) (mq_p (fun _ _ => rfl) (mq_p (fun _ _ => rfl) (mq_p (fun _ _ => rfl) (mq_p (fun _ _ => rfl) (mq_p (fun _ _ => rfl) (mq_p (fun _ _ => rfl) (mq_p (fun _ _ => rfl) (mq_nil))))))))))))))))))))))))
theorem mq_cd_67 (pc : Nat) : jm_mo (cd_67 pc) := mq_lu _ mq_67_0 pc
theorem mq_77_0 : ∀ e ∈ cl_77_0, jm_mo e.2 := mq_p (fun _ _ => rfl) (mq_p (fun _ _ => rfl) (mq_p (fun _ _ => rfl) (mq_p (fun _ _ => rfl) (mq_p (fun _ _ => rfl) (mq_p (fun _ _ => rfl) (mq_p (fun _ _ => rfl) (mq_p (fun _ _ => rfl) (mq_p (fun _ _ => rfl) (mq_p (fun _ _ => rfl) (mq_p (fun _ _ => rfl) (mq_p (fun _ _ => rfl) (mq_p (fun _ _ => rfl) (mq_p (fun _ _ => rfl) (mq_p (fun _ _ => rfl) (mq_p (fun _ _ => rfl) (mq_p (fun _ _ => rfl) (mq_p (fun _ _ => rfl) (mq_p (fun _ _ => rfl) (mq_p (fun _ _ => rfl) (mq_p (fun _ _ => rfl) (mq_p (fun _ _ => rfl) (mq_p (fun _ _ => rfl) (mq_p (fun _ _ => rfl) (mq_p (fun _ _ => rfl) (mq_nil)))))))))))))))))))))))))
theorem mq_77_1 : ∀ e ∈ cl_77_1, jm_mo e.2 := mq_p (fun _ _ => rfl) (mq_p (fun _ _ => rfl) (mq_p (fun _ _ => rfl) (mq_p (fun _ _ => rfl) (mq_p (fun _ _ => rfl) (mq_nil)))))
theorem mq_cd_77 (pc : Nat) : jm_mo (cd_77 pc) := mq_if (mq_lu _ mq_77_0 pc) (mq_lu _ mq_77_1 pc)
theorem mq_94_0 : ∀ e ∈ cl_94_0, jm_mo e.2 := mq_p (fun _ _ => rfl) (mq_p (fun _ _ => rfl) (mq_p (fun _ _ => rfl) (mq_p (fun _ _ => rfl) (mq_p (fun _ _ => rfl) (mq_p (fun _ _ => rfl) (mq_p (fun _ _ => rfl) (mq_nil)))))))
theorem mq_cd_94 (pc : Nat) : jm_mo (cd_94 pc) := mq_lu _ mq_94_0 pc
theorem mq_99_0 : ∀ e ∈ cl_99_0, jm_mo e.2 := mq_p (fun _ _ => rfl) (mq_p (fun _ _ => rfl) (mq_p (fun _ _ => rfl) (mq_p (fun _ _ => rfl) (mq_p (fun _ _ => rfl) (mq_p (fun _ _ => rfl) (mq_p (fun _ _ => rfl) (mq_p (fun _ _ => rfl) (mq_p (fun _ _ => rfl) (mq_p (fun _ _ => rfl) (mq_p (fun _ _ => rfl) (mq_p (fun _ _ => rfl) (mq_p (fun _ _ => rfl) (mq_p (fun _ _ => rfl) (mq_p (fun _ _ => rfl) (mq_p (fun _ _ => rfl) (mq_p (fun _ _ => rfl) (mq_p (fun _ _ => rfl) (mq_p (fun _ _ => rfl) (mq_p (fun _ _ => rfl) (mq_p (fun _ _ => rfl) (mq_p (fun _ _ => rfl) (mq_p (fun _ _ => rfl) (mq_p (fun _ _ => rfl) (mq_p (fun _ _ => rfl) (mq_nil)))))))))))))))))))))))))
theorem mq_99_1 : ∀ e ∈ cl_99_1, jm_mo e.2 := mq_p (fun _ _ => rfl) (mq_p (fun _ _ => rfl) (mq_p (fun _ _ => rfl) (mq_p (fun _ _ => rfl) (mq_nil))))
theorem mq_cd_99 (pc : Nat) : jm_mo (cd_99 pc) := mq_if (mq_lu _ mq_99_0 pc) (mq_lu _ mq_99_1 pc)
theorem mq_122_0 : ∀ e ∈ cl_122_0, jm_mo e.2 := mq_p (fun _ _ => rfl) (mq_p (fun _ _ => rfl) (mq_p (fun _ _ => rfl) (mq_p (fun _ _ => rfl) (mq_p (fun _ _ => rfl) (mq_v (mq_p (fun _ _ => rfl) (mq_p (fun _ _ => rfl) (mq_p (fun _ _ => rfl) (mq_p (fun _ _ => rfl) (mq_p (fun _ _ => rfl) (mq_p (fun _ _ => rfl) (mq_v (mq_p (fun _ _ => rfl) (mq_p (fun _ _ => rfl) (mq_p (fun _ _ => rfl) (mq_p (fun _ _ => rfl) (mq_v (mq_p (fun _ _ => rfl) (mq_p (fun _ _ => rfl) (mq_p (fun _ _ => rfl) (mq_p (fun _ _ => rfl) (mq_v (mq_p (fun _ _ => rfl) (mq_p (fun _ _ => rfl) (mq_nil)))))))))))))))))))))))))
theorem mq_122_1 : ∀ e ∈ cl_122_1, jm_mo e.2 := mq_p (fun _ _ => rfl) (mq_p (fun _ _ => rfl) (mq_p (fun _ _ => rfl) (mq_p (fun _ _ => rfl) (mq_p (fun _ _ => rfl) (mq_p (fun _ _ => rfl) (mq_v (mq_p (fun _ _ => rfl) (mq_p (fun _ _ => rfl) (mq_p (fun _ _ => rfl) (mq_p (fun _ _ => rfl) (mq_v (mq_p (fun _ _ => rfl) (mq_p (fun _ _ => rfl) (mq_p (fun _ _ => rfl) (mq_p (fun _ _ => rfl) (mq_p (fun _ _ => rfl) (mq_p (fun _ _ => rfl) (mq_v (mq_p (fun _ _ => rfl) (mq_p (fun _ _ => rfl) (mq_p (fun _ _ => rfl) (mq_p (fun _ _ => rfl) (mq_v (mq_p (fun _ _ => rfl) (mq_nil)))))))))))))))))))))))))
theorem mq_122_2 : ∀ e ∈ cl_122_2, jm_mo e.2 := mq_p (fun _ _ => rfl) (mq_p (fun _ _ => rfl) (mq_p (fun _ _ => rfl) (mq_p (fun _ _ => rfl) (mq_p (fun _ _ => rfl) (mq_p (fun _ _ => rfl) (mq_p (fun _ _ => rfl) (mq_p (fun _ _ => rfl) (mq_p (fun _ _ => rfl) (mq_v (mq_p (fun _ _ => rfl) (mq_p (fun _ _ => rfl) (mq_nil))))))))))))
theorem mq_cd_122 (pc : Nat) : jm_mo (cd_122 pc) := mq_if (mq_lu _ mq_122_0 pc) (mq_if (mq_lu _ mq_122_1 pc) (mq_lu _ mq_122_2 pc))
theorem mq_170_0 : ∀ e ∈ cl_170_0, jm_mo e.2 := mq_p (fun _ _ => rfl) (mq_p (fun _ _ => rfl) (mq_p (fun _ _ => rfl) (mq_p (fun _ _ => rfl) (mq_p (fun _ _ => rfl) (mq_p (fun _ _ => rfl) (mq_p (fun _ _ => rfl) (mq_p (fun _ _ => rfl) (mq_p (fun _ _ => rfl) (mq_p (fun _ _ => rfl) (mq_p (fun _ _ => rfl) (mq_p (fun _ _ => rfl) (mq_p (fun _ _ => rfl) (mq_p (fun _ _ => rfl) (mq_p (fun _ _ => rfl) (mq_p (fun _ _ => rfl) (mq_p (fun _ _ => rfl) (mq_p (fun _ _ => rfl) (mq_p (fun _ _ => rfl) (mq_p (fun _ _ => rfl) (mq_p (fun _ _ => rfl) (mq_p (fun _ _ => rfl) (mq_p (fun _ _ => rfl) (mq_p (fun _ _ => rfl) (mq_p (fun _ _ => rfl) (mq_nil)))))))))))))))))))))))))
theorem mq_170_1 : ∀ e ∈ cl_170_1, jm_mo e.2 := mq_p (fun _ _ => rfl) (mq_p (fun _ _ => rfl) (mq_p (fun _ _ => rfl) (mq_p (fun _ _ => rfl) (mq_p (fun _ _ => rfl) (mq_p (fun _ _ => rfl) (mq_p (fun _ _ => rfl) (mq_p (fun _ _ => rfl) (mq_p (fun _ _ => rfl) (mq_p (fun _ _ => rfl) (mq_p (fun _ _ => rfl) (mq_p (fun _ _ => rfl) (mq_p (fun _ _ => rfl) (mq_p (fun _ _ => rfl) (mq_p (fun _ _ => rfl) (mq_p (fun _ _ => rfl) (mq_p (fun _ _ => rfl) (mq_p (fun _ _ => rfl) (mq_p (fun _ _ => rfl) (mq_p (fun _ _ => rfl) (mq_p (fun _ _ => rfl) (mq_p (fun _ _ => rfl) (mq_p (fun _ _ => rfl) (mq_p (fun _ _ => rfl) (mq_p (fun _ _ => rfl) (mq_nil)))))))))))))))))))))))))
theorem mq_170_2 : ∀ e ∈ cl_170_2, jm_mo e.2 := mq_p (fun _ _ => rfl) (mq_p (fun _ _ => rfl) (mq_p (fun _ _ => rfl) (mq_p (fun _ _ => rfl) (mq_p (fun _ _ => rfl) (mq_p (fun _ _ => rfl) (mq_p (fun _ _ => rfl) (mq_p (fun _ _ => rfl) (mq_p (fun _ _ => rfl) (mq_p (fun _ _ => rfl) (mq_p (fun _ _ => rfl) (mq_p (fun _ _ => rfl) (mq_p (fun _ _ => rfl) (mq_p (fun _ _ => rfl) (mq_p (fun _ _ => rfl) (mq_p (fun _ _ => rfl) (mq_p (fun _ _ => rfl) (mq_p (fun _ _ => rfl) (mq_p (fun _ _ => rfl) (mq_p (fun _ _ => rfl) (mq_p (fun _ _ => rfl) (mq_p (fun _ _ => rfl) (mq_p (fun _ _ => rfl) (mq_p (fun _ _ => rfl) (mq_p (fun _ _ => rfl) (mq_nil)))))))))))))))))))))))))
theorem mq_170_3 : ∀ e ∈ cl_170_3, jm_mo e.2 := mq_p (fun _ _ => rfl) (mq_p (fun _ _ => rfl) (mq_p (fun _ _ => rfl) (mq_p (fun _ _ => rfl) (mq_p (fun _ _ => rfl) (mq_p (fun _ _ => rfl) (mq_p (fun _ _ => rfl) (mq_p (fun _ _ => rfl) (mq_p (fun _ _ => rfl) (mq_p (fun _ _ => rfl) (mq_p (fun _ _ => rfl) (mq_p (fun _ _ => rfl) (mq_p (fun _ _ => rfl) (mq_p (fun _ _ => rfl) (mq_p (fun _ _ => rfl) (mq_p (fun _ _ => rfl) (mq_p (fun _ _ => rfl) (mq_p (fun _ _ => rfl) (mq_p (fun _ _ => rfl) (mq_p (fun _ _ => rfl) (mq_p (fun _ _ => rfl) (mq_p (fun _ _ => rfl) (mq_p (fun _ _ => rfl) (mq_p (fun _ _ => rfl) (mq_p (fun _ _ => rfl) (mq_nil)))))))))))))))))))))))))
theorem mq_170_4 : ∀ e ∈ cl_170_4, jm_mo e.2 := mq_p (fun _ _ => rfl) (mq_p (fun _ _ => rfl) (mq_p (fun _ _ => rfl) (mq_p (fun _ _ => rfl) (mq_p (fun _ _ => rfl) (mq_p (fun _ _ => rfl) (mq_p (fun _ _ => rfl) (mq_p (fun _ _ => rfl) (mq_p (fun _ _ => rfl) (mq_p (fun _ _ => rfl) (mq_p (fun _ _ => rfl) (mq_p (fun _ _ => rfl) (mq_p (fun _ _ => rfl) (mq_p (fun _ _ => rfl) (mq_p (fun _ _ => rfl) (mq_p (fun _ _ => rfl) (mq_p (fun _ _ => rfl) (mq_p (fun _ _ => rfl) (mq_p (fun _ _ => rfl) (mq_p (fun _ _ => rfl) (mq_p (fun _ _ => rfl) (mq_p (fun _ _ => rfl) (mq_p (fun _ _ => rfl) (mq_p (fun _ _ => rfl) (mq_p (fun _ _ => rfl) (mq_nil)))))))))))))))))))))))))
theorem mq_170_5 : ∀ e ∈ cl_170_5, jm_mo e.2 := mq_p (fun _ _ => rfl) (mq_p (fun _ _ => rfl) (mq_p (fun _ _ => rfl) (mq_p (fun _ _ => rfl) (mq_p (fun _ _ => rfl) (mq_p (fun _ _ => rfl) (mq_p (fun _ _ => rfl) (mq_p (fun _ _ => rfl) (mq_p (fun _ _ => rfl) (mq_p (fun _ _ => rfl) (mq_p (fun _ _ => rfl) (mq_p (fun _ _ => rfl) (mq_p (fun _ _ => rfl) (mq_p (fun _ _ => rfl) (mq_p (fun _ _ => rfl) (mq_p (fun _ _ => rfl) (mq_p (fun _ _ => rfl) (mq_p (fun _ _ => rfl) (mq_p (fun _ _ => rfl) (mq_p (fun _ _ => rfl) (mq_p (fun _ _ => rfl) (mq_p (fun _ _ => rfl) (mq_p (fun _ _ => rfl) (mq_p (fun _ _ => rfl) (mq_p (fun _ _ => rfl) (mq_nil)))))))))))))))))))))))))
theorem mq_170_6 : ∀ e ∈ cl_170_6, jm_mo e.2 := mq_p (fun _ _ => rfl) (mq_p (fun _ _ => rfl) (mq_p (fun _ _ => rfl) (mq_p (fun _ _ => rfl) (mq_p (fun _ _ => rfl) (mq_p (fun _ _ => rfl) (mq_p (fun _ _ => rfl) (mq_p (fun _ _ => rfl) (mq_p (fun _ _ => rfl) (mq_p (fun _ _ => rfl) (mq_p (fun _ _ => rfl) (mq_p (fun _ _ => rfl) (mq_p (fun _ _ => rfl) (mq_p (fun _ _ => rfl) (mq_p (fun _ _ => rfl) (mq_p (fun _ _ => rfl) (mq_p (fun _ _ => rfl) (mq_p (fun _ _ => rfl) (mq_p (fun _ _ => rfl) (mq_p (fun _ _ => rfl) (mq_p (fun _ _ => rfl) (mq_p (fun _ _ => rfl) (mq_p (fun _ _ => rfl) (mq_p (fun _ _ => rfl) (mq_p (fun _ _ => rfl) (mq_nil)))))))))))))))))))))))))
theorem mq_170_7 : ∀ e ∈ cl_170_7, jm_mo e.2 := mq_p (fun _ _ => rfl) (mq_p (fun _ _ => rfl) (mq_p (fun _ _ => rfl) (mq_p (fun _ _ => rfl) (mq_p (fun _ _ => rfl) (mq_p (fun _ _ => rfl) (mq_p (fun _ _ => rfl) (mq_p (fun _ _ => rfl) (mq_p (fun _ _ => rfl) (mq_p (fun _ _ => rfl) (mq_p (fun _ _ => rfl) (mq_p (fun _ _ => rfl) (mq_p (fun _ _ => rfl) (mq_p (fun _ _ => rfl) (mq_p (fun _ _ => rfl) (mq_p (fun _ _ => rfl) (mq_p (fun _ _ => rfl) (mq_p (fun _ _ => rfl) (mq_p (fun _ _ => rfl) (mq_p (fun _ _ => rfl) (mq_p (fun _ _ => rfl) (mq_p (fun _ _ => rfl) (mq_p (fun _ _ => rfl) (mq_p (fun _ _ => rfl) (mq_p (fun _ _ => rfl) (mq_nil)))))))))))))))))))))))))
theorem mq_170_8 : ∀ e ∈ cl_170_8, jm_mo e.2 := mq_p (fun _ _ => rfl) (mq_p (fun _ _ => rfl) (mq_p (fun _ _ => rfl) (mq_p (fun _ _ => rfl) (mq_p (fun _ _ => rfl) (mq_p (fun _ _ => rfl) (mq_p (fun _ _ => rfl) (mq_p (fun _ _ => rfl) (mq_p (fun _ _ => rfl) (mq_p (fun _ _ => rfl) (mq_p (fun _ _ => rfl) (mq_p (fun _ _ => rfl) (mq_p (fun _ _ => rfl) (mq_p (fun _ _ => rfl) (mq_p (fun _ _ => rfl) (mq_p (fun _ _ => rfl) (mq_p (fun _ _ => rfl) (mq_p (fun _ _ => rfl) (mq_p (fun _ _ => rfl) (mq_p (fun _ _ => rfl) (mq_p (fun _ _ => rfl) (mq_p (fun _ _ => rfl) (mq_p (fun _ _ => rfl) (mq_p (fun _ _ => rfl) (mq_p (fun _ _ => rfl) (mq_nil)))))))))))))))))))))))))
theorem mq_170_9 : ∀ e ∈ cl_170_9, jm_mo e.2 := mq_p (fun _ _ => rfl) (mq_p (fun _ _ => rfl) (mq_p (fun _ _ => rfl) (mq_p (fun _ _ => rfl) (mq_p (fun _ _ => rfl) (mq_p (fun _ _ => rfl) (mq_p (fun _ _ => rfl) (mq_p (fun _ _ => rfl) (mq_p (fun _ _ => rfl) (mq_p (fun _ _ => rfl) (mq_p (fun _ _ => rfl) (mq_p (fun _ _ => rfl) (mq_p (fun _ _ => rfl) (mq_p (fun _ _ => rfl) (mq_p (fun _ _ => rfl) (mq_p (fun _ _ => rfl) (mq_p (fun _ _ => rfl) (mq_p (fun _ _ => rfl) (mq_p (fun _ _ => rfl) (mq_p (fun _ _ => rfl) (mq_p (fun _ _ => rfl) (mq_p (fun _ _ => rfl) (mq_p (fun _ _ => rfl) (mq_p (fun _ _ => rfl) (mq_p (fun _ _ => rfl) (mq_nil)))))))))))))))))))))))))
theorem mq_170_10 : ∀ e ∈ cl_170_10, jm_mo e.2 := mq_p (fun _ _ => rfl) (mq_p (fun _ _ => rfl) (mq_p (fun _ _ => rfl) (mq_p (fun _ _ => rfl) (mq_p (fun _ _ => rfl) (mq_p (fun _ _ => rfl) (mq_p (fun _ _ => rfl) (mq_p (fun _ _ => rfl) (mq_p (fun _ _ => rfl) (mq_p (fun _ _ => rfl) (mq_p (fun _ _ => rfl) (mq_p (fun _ _ => rfl) (mq_p (fun _ _ => rfl) (mq_p (fun _ _ => rfl) (mq_p (fun _ _ => rfl) (mq_p (fun _ _ => rfl) (mq_p (fun _ _ => rfl) (mq_p (fun _ _ => rfl) (mq_p (fun _ _ => rfl) (mq_p (fun _ _ => rfl) (mq_p (fun _ _ => rfl) (mq_p (fun _ _ => rfl) (mq_p (fun _ _ => rfl) (mq_p (fun _ _ => rfl) (mq_p (fun _ _ => rfl) (mq_nil)))))))))))))))))))))))))
theorem mq_170_11 : ∀ e ∈ cl_170_11, jm_mo e.2 := mq_p (fun _ _ => rfl) (mq_p (fun _ _ => rfl) (mq_p (fun _ _ => rfl) (mq_p (fun _ _ => rfl) (mq_p (fun _ _ => rfl) (mq_p (fun _ _ => rfl) (mq_nil))))))
theorem mq_cd_170 (pc : Nat) : jm_mo (cd_170 pc) := mq_if (mq_lu _ mq_170_0 pc) (mq_if (mq_lu _ mq_170_1 pc) (mq_if (mq_lu _ mq_170_2 pc) (mq_if (mq_lu _ mq_170_3 pc) (mq_if (mq_lu _ mq_170_4 pc) (mq_if (mq_lu _ mq_170_5 pc) (mq_if (mq_lu _ mq_170_6 pc) (mq_if (mq_lu _ mq_170_7 pc) (mq_if (mq_lu _ mq_170_8 pc) (mq_if (mq_lu _ mq_170_9 pc) (mq_if (mq_lu _ mq_170_10 pc) (mq_lu _ mq_170_11 pc)))))))))))
/-- the constructors that call none -/
def kc_leaf : jm_C := fun M as h => if (M = 0 ∨ M = 19 ∨ M = 29 ∨ M = 40 ∨ M = 56 ∨ M = 67 ∨ M = 77 ∨ M = 94 ∨ M = 99) ∧ (as.flatMap fun v => if v.category = 2 then [some v, (none : Option Value)] else [some v]).length ≤ km_n M then jm_run (jm_CD M) (fun _ _ _ => none) 2000 (0, jm_ent (km_n M) as, [], h) else none
theorem kc_leaf_cl {d : Nat} : ∀ M as h r, kc_leaf M as h = some r → jm_cl jm_CD km_n (d + 1) M as h = some r := by
  intro M as h r q
  unfold kc_leaf at q
  split at q
  · rename_i c
    have hm : ∀ pc, jm_mo (jm_CD M pc) := by
      rcases c.1 with rfl | rfl | rfl | rfl | rfl | rfl | rfl | rfl | rfl
      · exact mq_cd_0
      · exact mq_cd_19
      · exact mq_cd_29
      · exact mq_cd_40
      · exact mq_cd_56
      · exact mq_cd_67
      · exact mq_cd_77
      · exact mq_cd_94
      · exact mq_cd_99
    show (if (as.flatMap fun v => if v.category = 2 then [some v, (none : Option Value)] else [some v]).length ≤ km_n M then jm_sup (jm_CD M) (jm_cl jm_CD km_n d) (0, jm_ent (km_n M) as, [], h) else none) = some r
    rw [if_pos c.2]
    exact jm_sup_iff.mpr ⟨2000, mq_run hm (fun _ _ _ _ z => by cases z) _ _ _ q⟩
  · cases q
def kc_h1 : jm_H := jm_al (0, 0, fun _ => 0, fun _ => 0, fun _ _ => 0, fun _ _ => 0, fun _ _ => none) 10 0 9 (fun _ => 0)
def kc_r1 : Option jm_R := jm_run cd_122 kc_leaf 2000 (0, jm_ent (km_n 122) [.ref 0], [], kc_h1)
def kc_h3 (h : jm_H) : jm_H := jm_al h 11 0 95 (fun _ => 0)
def kc_r2 (h : jm_H) : Option jm_R := jm_run cd_170 (fun _ _ _ => none) 5000 (0, jm_ent (km_n 170) [.ref 44], [], kc_h3 h)
theorem kc_r1_cl {r : jm_R} (q : kc_r1 = some r) : jm_cl jm_CD km_n 810 122 [.ref 0] kc_h1 = some r := by
  show (if ([Value.ref 0].flatMap fun v => if v.category = 2 then [some v, (none : Option Value)] else [some v]).length ≤ km_n 122 then jm_sup cd_122 (jm_cl jm_CD km_n 809) (0, jm_ent (km_n 122) [.ref 0], [], kc_h1) else none) = some r
  refine Eq.trans (if_pos (show 1 ≤ 1 from Nat.le_refl 1)) ?_
  exact jm_sup_iff.mpr ⟨2000, mq_run mq_cd_122 (kc_leaf_cl (d := 808)) _ _ _ q⟩
theorem kc_r2_cl {h : jm_H} {r : jm_R} (q : kc_r2 h = some r) : jm_cl jm_CD km_n 810 170 [.ref 44] (kc_h3 h) = some r := by
  show (if ([Value.ref 44].flatMap fun v => if v.category = 2 then [some v, (none : Option Value)] else [some v]).length ≤ km_n 170 then jm_sup cd_170 (jm_cl jm_CD km_n 809) (0, jm_ent (km_n 170) [.ref 44], [], kc_h3 h) else none) = some r
  refine Eq.trans (if_pos (show 1 ≤ 2 by decide)) ?_
  exact jm_sup_iff.mpr ⟨5000, mq_run mq_cd_170 (fun _ _ _ _ z => by cases z) _ _ _ q⟩
/-- what the heap must hold at the start -/
def kc_zer : List (Nat × Nat) := [(10, 1), (44, 3), (10, 2), (44, 20), (14, 4), (44, 24), (22, 3), (22, 4), (22, 5), (44, 35), (22, 8), (44, 36), (22, 6), (44, 37), (22, 7), (44, 38), (32, 0), (44, 87), (1, 0), (44, 2), (25, 1), (44, 59), (27, 8), (44, 77), (40, 10), (44, 84)]
def kc_chk (h : jm_H) : Bool :=
  decide (jm_N h = 111) && decide (jm_S h ≤ 1000000) && ((List.range 111).all fun a => decide (jm_T h a = st_T a ∧ jm_L h a = st_L a)) && ([0, 1, 3, 10, 14, 22, 25, 27, 32, 40, 44].all fun a => (List.range 96).all fun k => decide (st_A a k = 0 ∨ jm_A h a k = some (st_A a k))) && (kc_zer.all fun q => decide (jm_I h q.1 q.2 = 0)) && ((List.range 100).all fun k => decide (jm_I h 12 k = jm_I h 62 k ∧ (jm_I h 62 k = 0 ∨ jm_I h 62 k = 9))) && ((List.range 10).all fun a => (List.range 10).all fun b => decide (jm_I h 62 (10 * a + b) = jm_I h 62 (10 * b + a))) && ((List.range 60).all fun k => decide (jm_I h 36 k = 0 ∧ jm_I h 107 k = 0)) && ((List.range 30).all fun b => decide (jm_J h 23 b = pp p0)) && decide (jm_J h 14 5 = lN 0) && ((List.range 1024).all fun k => decide (jm_I h 38 (6144 + k) = 0))
def kc_all : Bool := match kc_r1 with
  | some (none, h) => decide (jm_N h = 44) && (match kc_r2 h with
    | some (none, h2) => kc_chk h2
    | _ => false)
  | _ => false
