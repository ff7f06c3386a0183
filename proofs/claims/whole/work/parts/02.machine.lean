/-! A small machine of my own: the heap flat (tag, length, ints, longs, references by address and place), the frame as (pc, locals, stack, heap), an instruction as a function. -/
abbrev jm_H : Type := Nat × Nat × (Nat → Nat) × (Nat → Nat) × (Nat → Nat → Int32) × (Nat → Nat → Int64) × (Nat → Nat → Option Nat)
def jm_N (h : jm_H) : Nat := h.1
def jm_S (h : jm_H) : Nat := h.2.1
def jm_T (h : jm_H) : Nat → Nat := h.2.2.1
def jm_L (h : jm_H) : Nat → Nat := h.2.2.2.1
def jm_I (h : jm_H) : Nat → Nat → Int32 := h.2.2.2.2.1
def jm_J (h : jm_H) : Nat → Nat → Int64 := h.2.2.2.2.2.1
def jm_A (h : jm_H) : Nat → Nat → Option Nat := h.2.2.2.2.2.2
def jm_u {α : Type} (f : Nat → Nat → α) (a k : Nat) (v : α) : Nat → Nat → α := fun b j => if b = a then (if j = k then v else f b j) else f b j
def jm_wI (h : jm_H) (a k : Nat) (v : Int32) : jm_H := (h.1, h.2.1, h.2.2.1, h.2.2.2.1, jm_u h.2.2.2.2.1 a k v, h.2.2.2.2.2.1, h.2.2.2.2.2.2)
def jm_wJ (h : jm_H) (a k : Nat) (v : Int64) : jm_H := (h.1, h.2.1, h.2.2.1, h.2.2.2.1, h.2.2.2.2.1, jm_u h.2.2.2.2.2.1 a k v, h.2.2.2.2.2.2)
def jm_wA (h : jm_H) (a k : Nat) (v : Option Nat) : jm_H := (h.1, h.2.1, h.2.2.1, h.2.2.2.1, h.2.2.2.2.1, h.2.2.2.2.2.1, jm_u h.2.2.2.2.2.2 a k v)
/-- a new cell at the next address: its tag, its length, how many slots it takes, what it holds -/
def jm_al (h : jm_H) (tag len sl : Nat) (fi : Nat → Int32) : jm_H := (h.1 + 1, h.2.1 + sl, (fun a => if a = h.1 then tag else h.2.2.1 a), (fun a => if a = h.1 then len else h.2.2.2.1 a), (fun a => if a = h.1 then fi else h.2.2.2.2.1 a), (fun a => if a = h.1 then (fun _ => 0) else h.2.2.2.2.2.1 a), (fun a => if a = h.1 then (fun _ => none) else h.2.2.2.2.2.2 a))
abbrev jm_Lo : Type := List (Option Value)
abbrev jm_F : Type := Nat × jm_Lo × List Value × jm_H
abbrev jm_R : Type := Option Value × jm_H
abbrev jm_X : Type := Option (jm_F ⊕ jm_R)
abbrev jm_C : Type := Nat → List Value → jm_H → Option jm_R
abbrev jm_O : Type := jm_C → Nat → jm_Lo → List Value → jm_H → jm_X
def jm_go (pc : Nat) (L : jm_Lo) (st : List Value) (h : jm_H) : jm_X := some (.inl (pc, L, st, h))
def jm_lg (o : Option Value) : Bool := match o with
  | some (.long _) => true
  | some (.double _) => true
  | _ => false
/-- storing a value of one slot; of two -/
def jm_st1 (L : jm_Lo) (i : Nat) (v : Value) : Option jm_Lo := if i < L.length ∧ (i = 0 ∨ jm_lg (L.getD (i - 1) none) = false) then some (L.set i (some v)) else none
def jm_st2 (L : jm_Lo) (i : Nat) (v : Value) : Option jm_Lo := if i + 1 < L.length ∧ (i = 0 ∨ jm_lg (L.getD (i - 1) none) = false) then some ((L.set i (some v)).set (i + 1) none) else none
def jm_bad : jm_O := fun _ _ _ _ _ => none
-- loads and stores
def op_iload (i n : Nat) : jm_O := fun _ pc L st h => match L.getD i none with
  | some (.int x) => jm_go (pc + n) L (.int x :: st) h
  | _ => none
def op_lload (i n : Nat) : jm_O := fun _ pc L st h => match L.getD i none with
  | some (.long x) => jm_go (pc + n) L (.long x :: st) h
  | _ => none
def op_aload (i n : Nat) : jm_O := fun _ pc L st h => match L.getD i none with
  | some (.ref x) => jm_go (pc + n) L (.ref x :: st) h
  | _ => none
def op_istore (i n : Nat) : jm_O := fun _ pc L st h => match st with
  | .int x :: st => (match jm_st1 L i (.int x) with
    | some L' => jm_go (pc + n) L' st h
    | none => none)
  | _ => none
def op_astore (i n : Nat) : jm_O := fun _ pc L st h => match st with
  | .ref x :: st => (match jm_st1 L i (.ref x) with
    | some L' => jm_go (pc + n) L' st h
    | none => none)
  | _ => none
def op_lstore (i n : Nat) : jm_O := fun _ pc L st h => match st with
  | .long x :: st => (match jm_st2 L i (.long x) with
    | some L' => jm_go (pc + n) L' st h
    | none => none)
  | _ => none
def op_iinc (i : Nat) (k : Int32) : jm_O := fun _ pc L st h => match L.getD i none with
  | some (.int x) => (match jm_st1 L i (.int (x + k)) with
    | some L' => jm_go (pc + 3) L' st h
    | none => none)
  | _ => none
-- constants, the stack
def op_ic (v : Int32) (n : Nat) : jm_O := fun _ pc L st h => jm_go (pc + n) L (.int v :: st) h
def op_lc (v : Int64) (n : Nat) : jm_O := fun _ pc L st h => jm_go (pc + n) L (.long v :: st) h
def op_dup : jm_O := fun _ pc L st h => match st with
  | v :: st => if v.category = 1 then jm_go (pc + 1) L (v :: v :: st) h else none
  | _ => none
def op_dup2 : jm_O := fun _ pc L st h => match st with
  | v :: w :: st => if v.category = 1 ∧ w.category = 1 then jm_go (pc + 1) L (v :: w :: v :: w :: st) h else none
  | _ => none
def op_pop : jm_O := fun _ pc L st h => match st with
  | v :: st => if v.category = 1 then jm_go (pc + 1) L st h else none
  | _ => none
-- numbers
def op_ibin (f : Int32 → Int32 → Int32) : jm_O := fun _ pc L st h => match st with
  | .int y :: .int x :: st => jm_go (pc + 1) L (.int (f x y) :: st) h
  | _ => none
def op_idz (f : Int32 → Int32 → Int32) : jm_O := fun _ pc L st h => match st with
  | .int y :: .int x :: st => if y = 0 then none else jm_go (pc + 1) L (.int (f x y) :: st) h
  | _ => none
def op_iun (f : Int32 → Int32) : jm_O := fun _ pc L st h => match st with
  | .int x :: st => jm_go (pc + 1) L (.int (f x) :: st) h
  | _ => none
def op_lbin (f : Int64 → Int64 → Int64) : jm_O := fun _ pc L st h => match st with
  | .long y :: .long x :: st => jm_go (pc + 1) L (.long (f x y) :: st) h
  | _ => none
def op_lsh (f : Int64 → Int32 → Int64) : jm_O := fun _ pc L st h => match st with
  | .int y :: .long x :: st => jm_go (pc + 1) L (.long (f x y) :: st) h
  | _ => none
def op_lcmp : jm_O := fun _ pc L st h => match st with
  | .long y :: .long x :: st => jm_go (pc + 1) L (.int (lg_cmp x y) :: st) h
  | _ => none
def op_i2l : jm_O := fun _ pc L st h => match st with
  | .int x :: st => jm_go (pc + 1) L (.long x.toInt64 :: st) h
  | _ => none
def op_l2i : jm_O := fun _ pc L st h => match st with
  | .long x :: st => jm_go (pc + 1) L (.int x.toInt32 :: st) h
  | _ => none
-- branches
def op_goto (t : Nat) : jm_O := fun _ _ L st h => jm_go t L st h
def op_ifeq (t : Nat) : jm_O := fun _ pc L st h => match st with
  | .int x :: st => if x = 0 then jm_go t L st h else jm_go (pc + 3) L st h
  | _ => none
def op_ifne (t : Nat) : jm_O := fun _ pc L st h => match st with
  | .int x :: st => if x = 0 then jm_go (pc + 3) L st h else jm_go t L st h
  | _ => none
def op_iflt (t : Nat) : jm_O := fun _ pc L st h => match st with
  | .int x :: st => if x < 0 then jm_go t L st h else jm_go (pc + 3) L st h
  | _ => none
def op_ifge (t : Nat) : jm_O := fun _ pc L st h => match st with
  | .int x :: st => if 0 ≤ x then jm_go t L st h else jm_go (pc + 3) L st h
  | _ => none
def op_ifgt (t : Nat) : jm_O := fun _ pc L st h => match st with
  | .int x :: st => if 0 < x then jm_go t L st h else jm_go (pc + 3) L st h
  | _ => none
def op_ifle (t : Nat) : jm_O := fun _ pc L st h => match st with
  | .int x :: st => if x ≤ 0 then jm_go t L st h else jm_go (pc + 3) L st h
  | _ => none
def op_ceq (t : Nat) : jm_O := fun _ pc L st h => match st with
  | .int y :: .int x :: st => if x = y then jm_go t L st h else jm_go (pc + 3) L st h
  | _ => none
def op_cne (t : Nat) : jm_O := fun _ pc L st h => match st with
  | .int y :: .int x :: st => if x = y then jm_go (pc + 3) L st h else jm_go t L st h
  | _ => none
def op_clt (t : Nat) : jm_O := fun _ pc L st h => match st with
  | .int y :: .int x :: st => if x < y then jm_go t L st h else jm_go (pc + 3) L st h
  | _ => none
def op_cge (t : Nat) : jm_O := fun _ pc L st h => match st with
  | .int y :: .int x :: st => if y ≤ x then jm_go t L st h else jm_go (pc + 3) L st h
  | _ => none
def op_cgt (t : Nat) : jm_O := fun _ pc L st h => match st with
  | .int y :: .int x :: st => if y < x then jm_go t L st h else jm_go (pc + 3) L st h
  | _ => none
def op_cle (t : Nat) : jm_O := fun _ pc L st h => match st with
  | .int y :: .int x :: st => if x ≤ y then jm_go t L st h else jm_go (pc + 3) L st h
  | _ => none
def jm_sw (dflt : Nat) (x : Int32) : List (Int32 × Nat) → Nat
  | [] => dflt
  | (v, t) :: r => if x = v then t else jm_sw dflt x r
def op_sw (dflt : Nat) (ps : List (Int32 × Nat)) : jm_O := fun _ _ L st h => match st with
  | .int x :: st => jm_go (jm_sw dflt x ps) L st h
  | _ => none
-- objects: the field k of an object of the class ci (the tag)
def jm_ob (h : jm_H) (r ci : Nat) : Prop := r < jm_N h ∧ jm_T h r = ci
def jm_inb (h : jm_H) (r tag : Nat) (i : Int32) : Prop := (r < jm_N h ∧ jm_T h r = tag) ∧ (0 ≤ i ∧ i.toNatClampNeg < jm_L h r)
def op_getI (ci k : Nat) : jm_O := fun _ pc L st h => match st with
  | .ref r :: st => if r < jm_N h ∧ jm_T h r = ci then jm_go (pc + 3) L (.int (jm_I h r k) :: st) h else none
  | _ => none
def op_getJ (ci k : Nat) : jm_O := fun _ pc L st h => match st with
  | .ref r :: st => if r < jm_N h ∧ jm_T h r = ci then jm_go (pc + 3) L (.long (jm_J h r k) :: st) h else none
  | _ => none
def op_getA (ci k : Nat) : jm_O := fun _ pc L st h => match st with
  | .ref r :: st => if r < jm_N h ∧ jm_T h r = ci then jm_go (pc + 3) L (va_rf (jm_A h r k) :: st) h else none
  | _ => none
def op_putI (ci k : Nat) : jm_O := fun _ pc L st h => match st with
  | .int v :: .ref r :: st => if r < jm_N h ∧ jm_T h r = ci then jm_go (pc + 3) L st (jm_wI h r k v) else none
  | _ => none
/-- a boolean field: what is put there must be 0 or 1 -/
def op_putZ (ci k : Nat) : jm_O := fun _ pc L st h => match st with
  | .int v :: .ref r :: st => if r < jm_N h ∧ jm_T h r = ci then (if v &&& 1 = v then jm_go (pc + 3) L st (jm_wI h r k v) else none) else none
  | _ => none
def op_putJ (ci k : Nat) : jm_O := fun _ pc L st h => match st with
  | .long v :: .ref r :: st => if r < jm_N h ∧ jm_T h r = ci then jm_go (pc + 3) L st (jm_wJ h r k v) else none
  | _ => none
def op_putA (ci k : Nat) : jm_O := fun _ pc L st h => match st with
  | .ref v :: .ref r :: st => if r < jm_N h ∧ jm_T h r = ci then jm_go (pc + 3) L st (jm_wA h r k (some v)) else none
  | _ => none
-- arrays: tags 12 byte, 13 int, 14 long, 15 boolean, 16 references to bits
def op_iald (tag : Nat) : jm_O := fun _ pc L st h => match st with
  | .int i :: .ref r :: st => if (r < jm_N h ∧ jm_T h r = tag) ∧ (0 ≤ i ∧ i.toNatClampNeg < jm_L h r) then jm_go (pc + 1) L (.int (jm_I h r i.toNatClampNeg) :: st) h else none
  | _ => none
def op_lald : jm_O := fun _ pc L st h => match st with
  | .int i :: .ref r :: st => if (r < jm_N h ∧ jm_T h r = 14) ∧ (0 ≤ i ∧ i.toNatClampNeg < jm_L h r) then jm_go (pc + 1) L (.long (jm_J h r i.toNatClampNeg) :: st) h else none
  | _ => none
def op_aald : jm_O := fun _ pc L st h => match st with
  | .int i :: .ref r :: st => if (r < jm_N h ∧ jm_T h r = 16) ∧ (0 ≤ i ∧ i.toNatClampNeg < jm_L h r) then jm_go (pc + 1) L (va_rf (jm_A h r i.toNatClampNeg) :: st) h else none
  | _ => none
def op_iast : jm_O := fun _ pc L st h => match st with
  | .int v :: .int i :: .ref r :: st => if (r < jm_N h ∧ jm_T h r = 13) ∧ (0 ≤ i ∧ i.toNatClampNeg < jm_L h r) then jm_go (pc + 1) L st (jm_wI h r i.toNatClampNeg v) else none
  | _ => none
def op_bast : jm_O := fun _ pc L st h => match st with
  | .int v :: .int i :: .ref r :: st => if (r < jm_N h ∧ jm_T h r = 12) ∧ (0 ≤ i ∧ i.toNatClampNeg < jm_L h r) then jm_go (pc + 1) L st (jm_wI h r i.toNatClampNeg v.toInt8.toInt32) else none
  | _ => none
def op_zast : jm_O := fun _ pc L st h => match st with
  | .int v :: .int i :: .ref r :: st => if (r < jm_N h ∧ jm_T h r = 15) ∧ (0 ≤ i ∧ i.toNatClampNeg < jm_L h r) then jm_go (pc + 1) L st (jm_wI h r i.toNatClampNeg (v &&& 1)) else none
  | _ => none
def op_last : jm_O := fun _ pc L st h => match st with
  | .long v :: .int i :: .ref r :: st => if (r < jm_N h ∧ jm_T h r = 14) ∧ (0 ≤ i ∧ i.toNatClampNeg < jm_L h r) then jm_go (pc + 1) L st (jm_wJ h r i.toNatClampNeg v) else none
  | _ => none
/-- a bit is stored in the row of bits (class 1) -/
def op_aast : jm_O := fun _ pc L st h => match st with
  | .ref v :: .int i :: .ref r :: st => if ((r < jm_N h ∧ jm_T h r = 16) ∧ (0 ≤ i ∧ i.toNatClampNeg < jm_L h r)) ∧ (v < jm_N h ∧ jm_T h v = 1) then jm_go (pc + 1) L st (jm_wA h r i.toNatClampNeg (some v)) else none
  | _ => none
def op_new (ci n : Nat) : jm_O := fun _ pc L st h => jm_go (pc + 3) L (.ref (jm_N h) :: st) (jm_al h ci 0 n (fun _ => 0))
def op_newa (tag len : Nat) : jm_O := fun _ pc L st h => match st with
  | .int n :: st => if 0 ≤ n ∧ n.toNatClampNeg ≤ 1000000 then jm_go (pc + len) L (.ref (jm_N h) :: st) (jm_al h tag n.toNatClampNeg n.toNatClampNeg (fun _ => 0)) else none
  | _ => none
/-- clone() of an int array -/
def op_clone : jm_O := fun _ pc L st h => match st with
  | .ref r :: st => if (r < jm_N h ∧ jm_T h r = 13) ∧ (st.map fun v => v.category).sum ≤ 8 then jm_go (pc + 3) L (.ref (jm_N h) :: st) (jm_al h 13 (jm_L h r) (jm_L h r) (jm_I h r)) else none
  | _ => none
/-- checkcast to int[] -/
def op_castI : jm_O := fun _ pc L st h => match st with
  | .ref r :: st => if r < jm_N h ∧ jm_T h r = 13 then jm_go (pc + 3) L (.ref r :: st) h else none
  | _ => none
def op_objInit : jm_O := fun _ pc L st h => match st with
  | .ref _ :: st => if (st.map fun v => v.category).sum ≤ 8 then jm_go (pc + 3) L st h else none
  | _ => none
-- calls: n values are taken (the receiver among them); ci: the receiver's class
def jm_ret (pc : Nat) (L : jm_Lo) (st : List Value) (o : Option jm_R) : jm_X := match o with
  | some (v, h1) => jm_go (pc + 3) L (v.toList ++ st) h1
  | none => none
def op_callS (M n : Nat) : jm_O := fun call pc L st h => if n ≤ st.length ∧ ((st.drop n).map fun v => v.category).sum ≤ 8 then jm_ret pc L (st.drop n) (call M (st.take n).reverse h) else none
def jm_rc (h : jm_H) (ci : Nat) (o : Option Value) : Bool := match o with
  | some (.ref r) => decide (r < jm_N h) && decide (jm_T h r = ci)
  | _ => false
def op_callV (ci M n : Nat) : jm_O := fun call pc L st h => if (n ≤ st.length ∧ ((st.drop n).map fun v => v.category).sum ≤ 8) ∧ jm_rc h ci (st.take n).getLast? = true then jm_ret pc L (st.drop n) (call M (st.take n).reverse h) else none
-- ends
def op_iret : jm_O := fun _ _ _ st h => match st with
  | [.int v] => some (.inr (some (.int v), h))
  | _ => none
def op_zret : jm_O := fun _ _ _ st h => match st with
  | [.int v] => if v &&& 1 = v then some (.inr (some (.int v), h)) else none
  | _ => none
def op_lret : jm_O := fun _ _ _ st h => match st with
  | [.long v] => some (.inr (some (.long v), h))
  | _ => none
def op_vret : jm_O := fun _ _ _ st h => match st with
  | [] => some (.inr (none, h))
  | _ => none
/-! the run of a frame, with what a call does given -/
def jm_run (cd : Nat → jm_O) (call : jm_C) : Nat → jm_F → Option jm_R
  | 0, _ => none
  | n + 1, f => match cd f.1 call f.1 f.2.1 f.2.2.1 f.2.2.2 with
    | none => none
    | some (.inr r) => some r
    | some (.inl g) => jm_run cd call n g
theorem jm_run_mono {cd : Nat → jm_O} {call : jm_C} : ∀ (n : Nat) (f : jm_F) (r : jm_R), jm_run cd call n f = some r → ∀ m, n ≤ m → jm_run cd call m f = some r := by
  intro n
  induction n with
  | zero => intro f r h; cases h
  | succ n ih =>
    intro f r h m hm
    obtain ⟨m, rfl⟩ : ∃ k, m = k + 1 := ⟨m - 1, by omega⟩
    unfold jm_run at h ⊢
    split at h
    · cases h
    · exact h
    · rename_i g hg
      exact ih g r h m (by omega)
noncomputable def jm_sup (cd : Nat → jm_O) (call : jm_C) (f : jm_F) : Option jm_R := @dite _ (∃ r, ∃ n, jm_run cd call n f = some r) (Classical.propDecidable _) (fun h => some (Classical.choose h)) (fun _ => none)
theorem jm_sup_iff {cd : Nat → jm_O} {call : jm_C} {f : jm_F} {r : jm_R} : jm_sup cd call f = some r ↔ ∃ n, jm_run cd call n f = some r := by
  unfold jm_sup
  constructor
  · intro h
    split at h
    · rename_i hh
      have := Classical.choose_spec hh
      cases h
      exact this
    · cases h
  · rintro ⟨n, hn⟩
    have hh : ∃ r, ∃ n, jm_run cd call n f = some r := ⟨r, n, hn⟩
    rw [dif_pos hh]
    obtain ⟨k, hk⟩ := Classical.choose_spec hh
    have h1 := jm_run_mono _ _ _ hk (max k n) (by omega)
    have h2 := jm_run_mono _ _ _ hn (max k n) (by omega)
    rw [h1] at h2
    exact h2
theorem jm_sup_ext {a b : Option jm_R} (h : ∀ r, a = some r ↔ b = some r) : a = b := by
  cases a with
  | none =>
    cases b with
    | none => rfl
    | some r => exact absurd ((h r).mpr rfl) (by simp)
  | some r => exact ((h r).mp rfl).symm
theorem jm_sup_go {cd : Nat → jm_O} {call : jm_C} {pc : Nat} {L : jm_Lo} {st : List Value} {h : jm_H} {g : jm_F} (hg : cd pc call pc L st h = some (.inl g)) : jm_sup cd call (pc, L, st, h) = jm_sup cd call g := by
  refine jm_sup_ext fun r => ?_
  rw [jm_sup_iff, jm_sup_iff]
  constructor
  · rintro ⟨n, hn⟩
    cases n with
    | zero => cases hn
    | succ n =>
      refine ⟨n, ?_⟩
      unfold jm_run at hn
      rw [show cd (pc, L, st, h).1 call (pc, L, st, h).1 (pc, L, st, h).2.1 (pc, L, st, h).2.2.1 (pc, L, st, h).2.2.2 = some (.inl g) from hg] at hn
      exact hn
  · rintro ⟨n, hn⟩
    refine ⟨n + 1, ?_⟩
    unfold jm_run
    rw [show cd (pc, L, st, h).1 call (pc, L, st, h).1 (pc, L, st, h).2.1 (pc, L, st, h).2.2.1 (pc, L, st, h).2.2.2 = some (.inl g) from hg]
    exact hn
theorem jm_sup_end {cd : Nat → jm_O} {call : jm_C} {pc : Nat} {L : jm_Lo} {st : List Value} {h : jm_H} {r : jm_R} (hg : cd pc call pc L st h = some (.inr r)) : jm_sup cd call (pc, L, st, h) = some r := by
  rw [jm_sup_iff]
  refine ⟨1, ?_⟩
  unfold jm_run
  rw [show cd (pc, L, st, h).1 call (pc, L, st, h).1 (pc, L, st, h).2.1 (pc, L, st, h).2.2.1 (pc, L, st, h).2.2.2 = some (.inr r) from hg]
theorem jm_sup_none {cd : Nat → jm_O} {call : jm_C} {pc : Nat} {L : jm_Lo} {st : List Value} {h : jm_H} (hg : cd pc call pc L st h = none) : jm_sup cd call (pc, L, st, h) = none := by
  refine jm_sup_ext fun r => ?_
  rw [jm_sup_iff]
  constructor
  · rintro ⟨n, hn⟩
    cases n with
    | zero => cases hn
    | succ n =>
      unfold jm_run at hn
      rw [show cd (pc, L, st, h).1 call (pc, L, st, h).1 (pc, L, st, h).2.1 (pc, L, st, h).2.2.1 (pc, L, st, h).2.2.2 = none from hg] at hn
      exact hn
  · intro h; cases h
/-- the locals at a method's entry -/
def jm_ent (n : Nat) (vs : List Value) : jm_Lo := (vs.flatMap fun v => if v.category = 2 then [some v, none] else [some v]) ++ List.replicate (n - ((vs.flatMap fun v => if v.category = 2 then [some v, (none : Option Value)] else [some v])).length) none
/-- what the methods answer, calls at most d deep: CD their code, NL how many locals -/
noncomputable def jm_cl (CD : Nat → Nat → jm_O) (NL : Nat → Nat) : Nat → jm_C
  | 0 => fun _ _ _ => none
  | d + 1 => fun M as h => if (as.flatMap fun v => if v.category = 2 then [some v, (none : Option Value)] else [some v]).length ≤ NL M then jm_sup (CD M) (jm_cl CD NL d) (0, jm_ent (NL M) as, [], h) else none
