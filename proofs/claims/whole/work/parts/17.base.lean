/-! The level of programs: ints as Int (the machine's are Int32.ofInt of them), longs as they are; the references are fixed by the shape, so a state is what the ints and the longs are. -/
abbrev gm_T : Type := (Nat → Nat → Int) × (Nat → Nat → Int64)
def gm_I (g : gm_T) (a k : Nat) : Int := g.1 a k
def gm_J (g : gm_T) (a k : Nat) : Int64 := g.2 a k
def gm_wI (g : gm_T) (a k : Nat) (v : Int) : gm_T := (jm_u g.1 a k v, g.2)
def gm_wJ (g : gm_T) (a k : Nat) (v : Int64) : gm_T := (g.1, jm_u g.2 a k v)
/-- a shape: how many cells, how many slots, tags, lengths, references -/
abbrev gm_S : Type := Nat × Nat × (Nat → Nat) × (Nat → Nat) × (Nat → Nat → Option Nat)
def gm_h (s : gm_S) (g : gm_T) : jm_H := (s.1, s.2.1, s.2.2.1, s.2.2.2.1, (fun a k => Int32.ofInt (g.1 a k)), g.2, s.2.2.2.2)
abbrev gv (x : Int) : Value := Value.int (Int32.ofInt x)
def rg (x : Int) : Prop := -2147483648 ≤ x ∧ x ≤ 2147483647
noncomputable abbrev gd (c : Prop) : Decidable c := Classical.propDecidable c
noncomputable def jg {α : Type} (c : Prop) (o : Option α) : Option α := @ite _ c (gd c) o none
theorem jg_pos {α : Type} {c : Prop} {o : Option α} (h : c) : jg c o = o := @if_pos _ (gd c) h _ _ _
def jb1 {α1 β : Type} (o : Option (α1)) (k : α1 → Option β) : Option β := match o with
  | some q => k q
  | none => none
theorem jb1_some {α1 β : Type} (a1 : α1) (k : α1 → Option β) : jb1 (some a1) k = k a1 := rfl
def jc1 {α1 ρ β : Type} (o : Option ((α1) ⊕ ρ)) (kr : ρ → Option β) (k : α1 → Option β) : Option β := match o with
  | some (.inl q) => k q
  | some (.inr r) => kr r
  | none => none
theorem jc1_inl {α1 ρ β : Type} (a1 : α1) (kr : ρ → Option β) (k : α1 → Option β) : jc1 (some (.inl a1)) kr k = k a1 := rfl
theorem jc1_inr {α1 ρ β : Type} (r : ρ) (kr : ρ → Option β) (k : α1 → Option β) : jc1 (some (.inr r)) kr k = kr r := rfl
def jb2 {α1 α2 β : Type} (o : Option (α1 × α2)) (k : α1 → α2 → Option β) : Option β := match o with
  | some q => k q.1 q.2
  | none => none
theorem jb2_some {α1 α2 β : Type} (a1 : α1) (a2 : α2) (k : α1 → α2 → Option β) : jb2 (some (a1, a2)) k = k a1 a2 := rfl
def jc2 {α1 α2 ρ β : Type} (o : Option ((α1 × α2) ⊕ ρ)) (kr : ρ → Option β) (k : α1 → α2 → Option β) : Option β := match o with
  | some (.inl q) => k q.1 q.2
  | some (.inr r) => kr r
  | none => none
theorem jc2_inl {α1 α2 ρ β : Type} (a1 : α1) (a2 : α2) (kr : ρ → Option β) (k : α1 → α2 → Option β) : jc2 (some (.inl (a1, a2))) kr k = k a1 a2 := rfl
theorem jc2_inr {α1 α2 ρ β : Type} (r : ρ) (kr : ρ → Option β) (k : α1 → α2 → Option β) : jc2 (some (.inr r)) kr k = kr r := rfl
def jb3 {α1 α2 α3 β : Type} (o : Option (α1 × α2 × α3)) (k : α1 → α2 → α3 → Option β) : Option β := match o with
  | some q => k q.1 q.2.1 q.2.2
  | none => none
theorem jb3_some {α1 α2 α3 β : Type} (a1 : α1) (a2 : α2) (a3 : α3) (k : α1 → α2 → α3 → Option β) : jb3 (some (a1, a2, a3)) k = k a1 a2 a3 := rfl
def jc3 {α1 α2 α3 ρ β : Type} (o : Option ((α1 × α2 × α3) ⊕ ρ)) (kr : ρ → Option β) (k : α1 → α2 → α3 → Option β) : Option β := match o with
  | some (.inl q) => k q.1 q.2.1 q.2.2
  | some (.inr r) => kr r
  | none => none
theorem jc3_inl {α1 α2 α3 ρ β : Type} (a1 : α1) (a2 : α2) (a3 : α3) (kr : ρ → Option β) (k : α1 → α2 → α3 → Option β) : jc3 (some (.inl (a1, a2, a3))) kr k = k a1 a2 a3 := rfl
theorem jc3_inr {α1 α2 α3 ρ β : Type} (r : ρ) (kr : ρ → Option β) (k : α1 → α2 → α3 → Option β) : jc3 (some (.inr r)) kr k = kr r := rfl
def jb4 {α1 α2 α3 α4 β : Type} (o : Option (α1 × α2 × α3 × α4)) (k : α1 → α2 → α3 → α4 → Option β) : Option β := match o with
  | some q => k q.1 q.2.1 q.2.2.1 q.2.2.2
  | none => none
theorem jb4_some {α1 α2 α3 α4 β : Type} (a1 : α1) (a2 : α2) (a3 : α3) (a4 : α4) (k : α1 → α2 → α3 → α4 → Option β) : jb4 (some (a1, a2, a3, a4)) k = k a1 a2 a3 a4 := rfl
def jc4 {α1 α2 α3 α4 ρ β : Type} (o : Option ((α1 × α2 × α3 × α4) ⊕ ρ)) (kr : ρ → Option β) (k : α1 → α2 → α3 → α4 → Option β) : Option β := match o with
  | some (.inl q) => k q.1 q.2.1 q.2.2.1 q.2.2.2
  | some (.inr r) => kr r
  | none => none
theorem jc4_inl {α1 α2 α3 α4 ρ β : Type} (a1 : α1) (a2 : α2) (a3 : α3) (a4 : α4) (kr : ρ → Option β) (k : α1 → α2 → α3 → α4 → Option β) : jc4 (some (.inl (a1, a2, a3, a4))) kr k = k a1 a2 a3 a4 := rfl
theorem jc4_inr {α1 α2 α3 α4 ρ β : Type} (r : ρ) (kr : ρ → Option β) (k : α1 → α2 → α3 → α4 → Option β) : jc4 (some (.inr r)) kr k = kr r := rfl
def jb5 {α1 α2 α3 α4 α5 β : Type} (o : Option (α1 × α2 × α3 × α4 × α5)) (k : α1 → α2 → α3 → α4 → α5 → Option β) : Option β := match o with
  | some q => k q.1 q.2.1 q.2.2.1 q.2.2.2.1 q.2.2.2.2
  | none => none
theorem jb5_some {α1 α2 α3 α4 α5 β : Type} (a1 : α1) (a2 : α2) (a3 : α3) (a4 : α4) (a5 : α5) (k : α1 → α2 → α3 → α4 → α5 → Option β) : jb5 (some (a1, a2, a3, a4, a5)) k = k a1 a2 a3 a4 a5 := rfl
def jc5 {α1 α2 α3 α4 α5 ρ β : Type} (o : Option ((α1 × α2 × α3 × α4 × α5) ⊕ ρ)) (kr : ρ → Option β) (k : α1 → α2 → α3 → α4 → α5 → Option β) : Option β := match o with
  | some (.inl q) => k q.1 q.2.1 q.2.2.1 q.2.2.2.1 q.2.2.2.2
  | some (.inr r) => kr r
  | none => none
theorem jc5_inl {α1 α2 α3 α4 α5 ρ β : Type} (a1 : α1) (a2 : α2) (a3 : α3) (a4 : α4) (a5 : α5) (kr : ρ → Option β) (k : α1 → α2 → α3 → α4 → α5 → Option β) : jc5 (some (.inl (a1, a2, a3, a4, a5))) kr k = k a1 a2 a3 a4 a5 := rfl
theorem jc5_inr {α1 α2 α3 α4 α5 ρ β : Type} (r : ρ) (kr : ρ → Option β) (k : α1 → α2 → α3 → α4 → α5 → Option β) : jc5 (some (.inr r)) kr k = kr r := rfl
def jb6 {α1 α2 α3 α4 α5 α6 β : Type} (o : Option (α1 × α2 × α3 × α4 × α5 × α6)) (k : α1 → α2 → α3 → α4 → α5 → α6 → Option β) : Option β := match o with
  | some q => k q.1 q.2.1 q.2.2.1 q.2.2.2.1 q.2.2.2.2.1 q.2.2.2.2.2
  | none => none
theorem jb6_some {α1 α2 α3 α4 α5 α6 β : Type} (a1 : α1) (a2 : α2) (a3 : α3) (a4 : α4) (a5 : α5) (a6 : α6) (k : α1 → α2 → α3 → α4 → α5 → α6 → Option β) : jb6 (some (a1, a2, a3, a4, a5, a6)) k = k a1 a2 a3 a4 a5 a6 := rfl
def jc6 {α1 α2 α3 α4 α5 α6 ρ β : Type} (o : Option ((α1 × α2 × α3 × α4 × α5 × α6) ⊕ ρ)) (kr : ρ → Option β) (k : α1 → α2 → α3 → α4 → α5 → α6 → Option β) : Option β := match o with
  | some (.inl q) => k q.1 q.2.1 q.2.2.1 q.2.2.2.1 q.2.2.2.2.1 q.2.2.2.2.2
  | some (.inr r) => kr r
  | none => none
theorem jc6_inl {α1 α2 α3 α4 α5 α6 ρ β : Type} (a1 : α1) (a2 : α2) (a3 : α3) (a4 : α4) (a5 : α5) (a6 : α6) (kr : ρ → Option β) (k : α1 → α2 → α3 → α4 → α5 → α6 → Option β) : jc6 (some (.inl (a1, a2, a3, a4, a5, a6))) kr k = k a1 a2 a3 a4 a5 a6 := rfl
theorem jc6_inr {α1 α2 α3 α4 α5 α6 ρ β : Type} (r : ρ) (kr : ρ → Option β) (k : α1 → α2 → α3 → α4 → α5 → α6 → Option β) : jc6 (some (.inr r)) kr k = kr r := rfl
def jb7 {α1 α2 α3 α4 α5 α6 α7 β : Type} (o : Option (α1 × α2 × α3 × α4 × α5 × α6 × α7)) (k : α1 → α2 → α3 → α4 → α5 → α6 → α7 → Option β) : Option β := match o with
  | some q => k q.1 q.2.1 q.2.2.1 q.2.2.2.1 q.2.2.2.2.1 q.2.2.2.2.2.1 q.2.2.2.2.2.2
  | none => none
theorem jb7_some {α1 α2 α3 α4 α5 α6 α7 β : Type} (a1 : α1) (a2 : α2) (a3 : α3) (a4 : α4) (a5 : α5) (a6 : α6) (a7 : α7) (k : α1 → α2 → α3 → α4 → α5 → α6 → α7 → Option β) : jb7 (some (a1, a2, a3, a4, a5, a6, a7)) k = k a1 a2 a3 a4 a5 a6 a7 := rfl
def jc7 {α1 α2 α3 α4 α5 α6 α7 ρ β : Type} (o : Option ((α1 × α2 × α3 × α4 × α5 × α6 × α7) ⊕ ρ)) (kr : ρ → Option β) (k : α1 → α2 → α3 → α4 → α5 → α6 → α7 → Option β) : Option β := match o with
  | some (.inl q) => k q.1 q.2.1 q.2.2.1 q.2.2.2.1 q.2.2.2.2.1 q.2.2.2.2.2.1 q.2.2.2.2.2.2
  | some (.inr r) => kr r
  | none => none
theorem jc7_inl {α1 α2 α3 α4 α5 α6 α7 ρ β : Type} (a1 : α1) (a2 : α2) (a3 : α3) (a4 : α4) (a5 : α5) (a6 : α6) (a7 : α7) (kr : ρ → Option β) (k : α1 → α2 → α3 → α4 → α5 → α6 → α7 → Option β) : jc7 (some (.inl (a1, a2, a3, a4, a5, a6, a7))) kr k = k a1 a2 a3 a4 a5 a6 a7 := rfl
theorem jc7_inr {α1 α2 α3 α4 α5 α6 α7 ρ β : Type} (r : ρ) (kr : ρ → Option β) (k : α1 → α2 → α3 → α4 → α5 → α6 → α7 → Option β) : jc7 (some (.inr r)) kr k = kr r := rfl
-- the ints' other operations, as functions of Int
def zA (a b : Int) : Int := (Int32.ofInt a &&& Int32.ofInt b).toInt
def zO (a b : Int) : Int := (Int32.ofInt a ||| Int32.ofInt b).toInt
def zX (a b : Int) : Int := (Int32.ofInt a ^^^ Int32.ofInt b).toInt
def zSl (a b : Int) : Int := (Int32.ofInt a <<< (Int32.ofInt b &&& 31)).toInt
def zSr (a b : Int) : Int := (Int32.ofInt a >>> (Int32.ofInt b &&& 31)).toInt
def zSu (a b : Int) : Int := (((Int32.ofInt a).toUInt32 >>> ((Int32.ofInt b).toUInt32 &&& Int32.toUInt32 31)).toInt32).toInt
def z8 (a : Int) : Int := ((Int32.ofInt a).toInt8.toInt32).toInt
def iL (a : Int) : Int64 := (Int32.ofInt a).toInt64
def lI (x : Int64) : Int := x.toInt32.toInt
def lSl (x : Int64) (a : Int) : Int64 := x <<< ((Int32.ofInt a).toInt64 &&& 63)
def lSr (x : Int64) (a : Int) : Int64 := x >>> ((Int32.ofInt a).toInt64 &&& 63)
def lSu (x : Int64) (a : Int) : Int64 := (x.toUInt64 >>> ((Int32.ofInt a).toInt64.toUInt64 &&& Int64.toUInt64 63)).toInt64
def fz : Nat := 100000
theorem rg_toInt (x : Int32) : rg x.toInt := by
  have h1 := Int32.minValue_le_toInt x
  have h2 := Int32.toInt_lt x
  unfold rg
  have h3 : Int32.minValue.toInt = -2147483648 := by decide
  omega
theorem rg_of {x : Int} (h : rg x) : (Int32.ofInt x).toInt = x := by
  unfold rg at h
  rw [Int32.toInt_ofInt, show Int32.size = 4294967296 from rfl]
  exact Int.bmod_eq_of_le (by omega) (by omega)
theorem rg_lt {x y : Int} (hx : rg x) (hy : rg y) : Int32.ofInt x < Int32.ofInt y ↔ x < y := by
  rw [Int32.lt_iff_toInt_lt, rg_of hx, rg_of hy]
theorem rg_le {x y : Int} (hx : rg x) (hy : rg y) : Int32.ofInt x ≤ Int32.ofInt y ↔ x ≤ y := by
  rw [Int32.le_iff_toInt_le, rg_of hx, rg_of hy]
theorem rg_eq {x y : Int} (hx : rg x) (hy : rg y) : Int32.ofInt x = Int32.ofInt y ↔ x = y := by
  rw [← Int32.toInt_inj, rg_of hx, rg_of hy]
theorem rg_0 : (0 : Int32) = Int32.ofInt 0 := by decide
theorem rg_z : rg 0 := by unfold rg; omega
theorem rg_nat {i : Int} {n : Nat} (hi : 0 ≤ i) (h2 : i < (n : Int)) (hn : Nat.ble n 1000000 = true) : (0 : Int32) ≤ Int32.ofInt i ∧ (Int32.ofInt i).toNatClampNeg = i.toNat ∧ i.toNat < n := by
  have hn' : n ≤ 1000000 := Nat.le_of_ble_eq_true hn
  have hr : rg i := by unfold rg; omega
  refine ⟨?_, ?_, by omega⟩
  · rw [rg_0, rg_le rg_z hr]; exact hi
  · rw [← Int32.toNat_toInt, rg_of hr]
/-- what a program gives, the machine gives: R says how an answer and the machine's belong together -/
def jr {α : Type} (R : α → Option jm_R → Prop) (o : Option α) (c : Option jm_R) : Prop := ∀ a, o = some a → R a c
theorem jr_none {α : Type} {e : α → Option jm_R → Prop} {c : Option jm_R} : jr e none c := fun _ h => by cases h
theorem jr_leaf {α : Type} {e : α → Option jm_R → Prop} {c : Option jm_R} {a : α} (h : e a c) : jr e (some a) c := fun b hb => by
  cases hb
  exact h
theorem jr_g {α : Type} {e : α → Option jm_R → Prop} {c : Option jm_R} {o : Option α} {G : Prop} (k : G → jr e o c) : jr e (jg G o) c := fun a ha => by
  unfold jg at ha
  split at ha
  · rename_i h
    exact k h a ha
  · cases ha
def eI (s : gm_S) (q : Int × gm_T) (c : Option jm_R) : Prop := c = some (some (gv q.1), gm_h s q.2)
def eJ (s : gm_S) (q : Int64 × gm_T) (c : Option jm_R) : Prop := c = some (some (Value.long q.1), gm_h s q.2)
def eV (s : gm_S) (g : gm_T) (c : Option jm_R) : Prop := c = some (none, gm_h s g)
def pI (s : gm_S) (g : gm_T) (v : Int) (c : Option jm_R) : Prop := c = some (some (gv v), gm_h s g)
def pJ (s : gm_S) (g : gm_T) (v : Int64) (c : Option jm_R) : Prop := c = some (some (Value.long v), gm_h s g)
def jl {α β : Type} (a : α) (k : α → β) : β := k a
theorem jl_eq {α β : Type} (a : α) (k : α → β) : jl a k = k a := rfl
section
variable {α : Type} {e : α → Option jm_R → Prop} {A B : Option α} {cd : Nat → jm_O} {call : jm_C} {pc pc2 t : Nat} {L L2 : jm_Lo} {st : List Value} {s : gm_S} {g : gm_T} {h : jm_H}
theorem r_go {st2 : List Value} {h2 : jm_H} (hg : cd pc call pc L st h = some (.inl (pc2, L2, st2, h2))) (k : jr e A (jm_sup cd call (pc2, L2, st2, h2))) : jr e A (jm_sup cd call (pc, L, st, h)) := fun a ha => by
  rw [jm_sup_go hg]
  exact k a ha
theorem r_iload {i n : Nat} {x : Int32} (hc : cd pc = op_iload i n) (hp : pc + n = pc2) (hL : L.getD i none = some (.int x)) (k : jr e A (jm_sup cd call (pc2, L, .int x :: st, h))) : jr e A (jm_sup cd call (pc, L, st, h)) := r_go (by
  rw [hc, ← hp]
  unfold op_iload
  rw [hL]
  rfl) k
theorem r_istore {i n : Nat} {x : Int32} (hc : cd pc = op_istore i n) (hp : pc + n = pc2) (hL : jm_st1 L i (.int x) = some L2) (k : jr e A (jm_sup cd call (pc2, L2, st, h))) : jr e A (jm_sup cd call (pc, L, .int x :: st, h)) := r_go (by
  rw [hc, ← hp]
  unfold op_istore
  dsimp only
  rw [hL]
  rfl) k
theorem r_lload {i n : Nat} {x : Int64} (hc : cd pc = op_lload i n) (hp : pc + n = pc2) (hL : L.getD i none = some (.long x)) (k : jr e A (jm_sup cd call (pc2, L, .long x :: st, h))) : jr e A (jm_sup cd call (pc, L, st, h)) := r_go (by
  rw [hc, ← hp]
  unfold op_lload
  rw [hL]
  rfl) k
theorem r_lstore {i n : Nat} {x : Int64} (hc : cd pc = op_lstore i n) (hp : pc + n = pc2) (hL : jm_st2 L i (.long x) = some L2) (k : jr e A (jm_sup cd call (pc2, L2, st, h))) : jr e A (jm_sup cd call (pc, L, .long x :: st, h)) := r_go (by
  rw [hc, ← hp]
  unfold op_lstore
  dsimp only
  rw [hL]
  rfl) k
theorem r_aload {i n : Nat} {x : Nat} (hc : cd pc = op_aload i n) (hp : pc + n = pc2) (hL : L.getD i none = some (.ref x)) (k : jr e A (jm_sup cd call (pc2, L, .ref x :: st, h))) : jr e A (jm_sup cd call (pc, L, st, h)) := r_go (by
  rw [hc, ← hp]
  unfold op_aload
  rw [hL]
  rfl) k
theorem r_astore {i n : Nat} {x : Nat} (hc : cd pc = op_astore i n) (hp : pc + n = pc2) (hL : jm_st1 L i (.ref x) = some L2) (k : jr e A (jm_sup cd call (pc2, L2, st, h))) : jr e A (jm_sup cd call (pc, L, .ref x :: st, h)) := r_go (by
  rw [hc, ← hp]
  unfold op_astore
  dsimp only
  rw [hL]
  rfl) k
theorem r_iinc {i : Nat} {x kk : Int} {k0 : Int32} (hc : cd pc = op_iinc i k0) (hk : k0 = Int32.ofInt kk) (hp : pc + 3 = pc2) (hL : L.getD i none = some (gv x)) (hs : jm_st1 L i (gv (x + kk)) = some L2) (k : jr e A (jm_sup cd call (pc2, L2, st, h))) : jr e A (jm_sup cd call (pc, L, st, h)) := r_go (by
  rw [hc, ← hp]
  unfold op_iinc
  rw [hL]
  dsimp only
  rw [hk, ← Int32.ofInt_add, hs]
  rfl) k
theorem r_ic {v : Int32} {n : Nat} {x : Int} (hc : cd pc = op_ic v n) (hv : v = Int32.ofInt x) (hp : pc + n = pc2) (k : jr e A (jm_sup cd call (pc2, L, gv x :: st, h))) : jr e A (jm_sup cd call (pc, L, st, h)) := r_go (by
  rw [hc, ← hp, hv]
  rfl) k
theorem r_lc {v : Int64} {n : Nat} (hc : cd pc = op_lc v n) (hp : pc + n = pc2) (k : jr e A (jm_sup cd call (pc2, L, .long v :: st, h))) : jr e A (jm_sup cd call (pc, L, st, h)) := r_go (by
  rw [hc, ← hp]
  rfl) k
theorem r_dup {v : Value} (hc : cd pc = op_dup) (hp : pc + 1 = pc2) (hv : v.category = 1) (k : jr e A (jm_sup cd call (pc2, L, v :: v :: st, h))) : jr e A (jm_sup cd call (pc, L, v :: st, h)) := r_go (by
  rw [hc, ← hp]
  unfold op_dup
  dsimp only
  rw [if_pos hv]
  rfl) k
theorem r_dup2 {v w : Value} (hc : cd pc = op_dup2) (hp : pc + 1 = pc2) (hv : v.category = 1 ∧ w.category = 1) (k : jr e A (jm_sup cd call (pc2, L, v :: w :: v :: w :: st, h))) : jr e A (jm_sup cd call (pc, L, v :: w :: st, h)) := r_go (by
  rw [hc, ← hp]
  unfold op_dup2
  dsimp only
  rw [if_pos hv]
  rfl) k
theorem r_pop {v : Value} (hc : cd pc = op_pop) (hp : pc + 1 = pc2) (hv : v.category = 1) (k : jr e A (jm_sup cd call (pc2, L, st, h))) : jr e A (jm_sup cd call (pc, L, v :: st, h)) := r_go (by
  rw [hc, ← hp]
  unfold op_pop
  dsimp only
  rw [if_pos hv]
  rfl) k
theorem r_iadd {x y : Int} (hc : cd pc = op_ibin (fun x y => x + y)) (hp : pc + 1 = pc2) (k : jr e A (jm_sup cd call (pc2, L, gv (x + y) :: st, h))) : jr e A (jm_sup cd call (pc, L, gv y :: gv x :: st, h)) := r_go (by
  rw [hc, ← hp]
  show jm_go _ _ _ _ = some (.inl (pc + 1, L, gv (x + y) :: st, h))
  unfold gv
  rw [Int32.ofInt_add]
  rfl) k
theorem r_isub {x y : Int} (hc : cd pc = op_ibin (fun x y => x - y)) (hp : pc + 1 = pc2) (k : jr e A (jm_sup cd call (pc2, L, gv (x - y) :: st, h))) : jr e A (jm_sup cd call (pc, L, gv y :: gv x :: st, h)) := r_go (by
  rw [hc, ← hp]
  show jm_go _ _ _ _ = some (.inl (pc + 1, L, gv (x - y) :: st, h))
  unfold gv
  rw [Int32.ofInt_sub]
  rfl) k
theorem r_imul {x y : Int} (hc : cd pc = op_ibin (fun x y => x * y)) (hp : pc + 1 = pc2) (k : jr e A (jm_sup cd call (pc2, L, gv (x * y) :: st, h))) : jr e A (jm_sup cd call (pc, L, gv y :: gv x :: st, h)) := r_go (by
  rw [hc, ← hp]
  show jm_go _ _ _ _ = some (.inl (pc + 1, L, gv (x * y) :: st, h))
  unfold gv
  rw [Int32.ofInt_mul]
  rfl) k
theorem r_iand {x y : Int} (hc : cd pc = op_ibin (fun x y => x &&& y)) (hp : pc + 1 = pc2) (k : jr e A (jm_sup cd call (pc2, L, gv (zA x y) :: st, h))) : jr e A (jm_sup cd call (pc, L, gv y :: gv x :: st, h)) := r_go (by
  rw [hc, ← hp]
  show jm_go _ _ _ _ = some (.inl (pc + 1, L, gv (zA x y) :: st, h))
  unfold gv zA
  rw [Int32.ofInt_toInt]
  rfl) k
theorem r_ior {x y : Int} (hc : cd pc = op_ibin (fun x y => x ||| y)) (hp : pc + 1 = pc2) (k : jr e A (jm_sup cd call (pc2, L, gv (zO x y) :: st, h))) : jr e A (jm_sup cd call (pc, L, gv y :: gv x :: st, h)) := r_go (by
  rw [hc, ← hp]
  show jm_go _ _ _ _ = some (.inl (pc + 1, L, gv (zO x y) :: st, h))
  unfold gv zO
  rw [Int32.ofInt_toInt]
  rfl) k
theorem r_ixor {x y : Int} (hc : cd pc = op_ibin (fun x y => x ^^^ y)) (hp : pc + 1 = pc2) (k : jr e A (jm_sup cd call (pc2, L, gv (zX x y) :: st, h))) : jr e A (jm_sup cd call (pc, L, gv y :: gv x :: st, h)) := r_go (by
  rw [hc, ← hp]
  show jm_go _ _ _ _ = some (.inl (pc + 1, L, gv (zX x y) :: st, h))
  unfold gv zX
  rw [Int32.ofInt_toInt]
  rfl) k
theorem r_ishl {x y : Int} (hc : cd pc = op_ibin (fun x y => x <<< (y &&& 31))) (hp : pc + 1 = pc2) (k : jr e A (jm_sup cd call (pc2, L, gv (zSl x y) :: st, h))) : jr e A (jm_sup cd call (pc, L, gv y :: gv x :: st, h)) := r_go (by
  rw [hc, ← hp]
  show jm_go _ _ _ _ = some (.inl (pc + 1, L, gv (zSl x y) :: st, h))
  unfold gv zSl
  rw [Int32.ofInt_toInt]
  rfl) k
theorem r_ishr {x y : Int} (hc : cd pc = op_ibin (fun x y => x >>> (y &&& 31))) (hp : pc + 1 = pc2) (k : jr e A (jm_sup cd call (pc2, L, gv (zSr x y) :: st, h))) : jr e A (jm_sup cd call (pc, L, gv y :: gv x :: st, h)) := r_go (by
  rw [hc, ← hp]
  show jm_go _ _ _ _ = some (.inl (pc + 1, L, gv (zSr x y) :: st, h))
  unfold gv zSr
  rw [Int32.ofInt_toInt]
  rfl) k
theorem r_iushr {x y : Int} (hc : cd pc = op_ibin (fun x y => (x.toUInt32 >>> (y.toUInt32 &&& Int32.toUInt32 31)).toInt32)) (hp : pc + 1 = pc2) (k : jr e A (jm_sup cd call (pc2, L, gv (zSu x y) :: st, h))) : jr e A (jm_sup cd call (pc, L, gv y :: gv x :: st, h)) := r_go (by
  rw [hc, ← hp]
  show jm_go _ _ _ _ = some (.inl (pc + 1, L, gv (zSu x y) :: st, h))
  unfold gv zSu
  rw [Int32.ofInt_toInt]
  rfl) k
theorem r_ineg {x : Int} (hc : cd pc = op_iun (fun x => -x)) (hp : pc + 1 = pc2) (k : jr e A (jm_sup cd call (pc2, L, gv (-x) :: st, h))) : jr e A (jm_sup cd call (pc, L, gv x :: st, h)) := r_go (by
  rw [hc, ← hp]
  show jm_go _ _ _ _ = some (.inl (pc + 1, L, gv (-x) :: st, h))
  unfold gv
  rw [Int32.ofInt_neg]
  rfl) k
theorem r_i2b {x : Int} (hc : cd pc = op_iun (fun x => x.toInt8.toInt32)) (hp : pc + 1 = pc2) (k : jr e A (jm_sup cd call (pc2, L, gv (z8 x) :: st, h))) : jr e A (jm_sup cd call (pc, L, gv x :: st, h)) := r_go (by
  rw [hc, ← hp]
  show jm_go _ _ _ _ = some (.inl (pc + 1, L, gv (z8 x) :: st, h))
  unfold gv z8
  rw [Int32.ofInt_toInt]
  rfl) k
theorem rg_div {x y : Int} (hx : 0 ≤ x ∧ x ≤ 2147483647) (hy : 0 < y ∧ y ≤ 2147483647) : Int32.ofInt x / Int32.ofInt y = Int32.ofInt (x / y) ∧ Int32.ofInt y ≠ 0 := by
  have hrx : rg x := ⟨by omega, by omega⟩
  have hry : rg y := ⟨by omega, by omega⟩
  have hd : 0 ≤ x / y := Int.ediv_nonneg hx.1 (by omega)
  have hd2 : x / y ≤ x := Int.ediv_le_self y hx.1
  have hrd : rg (x / y) := ⟨by omega, by omega⟩
  constructor
  · rw [← Int32.toInt_inj, Int32.toInt_div, rg_of hrx, rg_of hry, rg_of hrd, Int.tdiv_eq_ediv_of_nonneg hx.1]
    exact Int.bmod_eq_of_le (by omega) (by omega)
  · rw [rg_0]
    intro q
    have := (rg_eq hry rg_z).mp q
    omega
theorem r_idiv {x y : Int} (hc : cd pc = op_idz (fun x y => x / y)) (hp : pc + 1 = pc2) (hx : 0 ≤ x ∧ x ≤ 2147483647) (hy : 0 < y ∧ y ≤ 2147483647) (k : jr e A (jm_sup cd call (pc2, L, gv (x / y) :: st, h))) : jr e A (jm_sup cd call (pc, L, gv y :: gv x :: st, h)) := r_go (by
  rw [hc, ← hp]
  unfold op_idz
  dsimp only
  rw [if_neg (rg_div hx hy).2, (rg_div hx hy).1]
  rfl) k
theorem r_irem {x y : Int} (hc : cd pc = op_idz (fun x y => x - x / y * y)) (hp : pc + 1 = pc2) (hx : 0 ≤ x ∧ x ≤ 2147483647) (hy : 0 < y ∧ y ≤ 2147483647) (k : jr e A (jm_sup cd call (pc2, L, gv (x % y) :: st, h))) : jr e A (jm_sup cd call (pc, L, gv y :: gv x :: st, h)) := r_go (by
  rw [hc, ← hp]
  unfold op_idz
  dsimp only
  rw [if_neg (rg_div hx hy).2, (rg_div hx hy).1, ← Int32.ofInt_mul, ← Int32.ofInt_sub, show x - x / y * y = x % y by rw [Int.emod_def, Int.mul_comm]]
  rfl) k
theorem r_ladd {x y : Int64} (hc : cd pc = op_lbin (fun x y => x + y)) (hp : pc + 1 = pc2) (k : jr e A (jm_sup cd call (pc2, L, .long (x + y) :: st, h))) : jr e A (jm_sup cd call (pc, L, .long y :: .long x :: st, h)) := r_go (by
  rw [hc, ← hp]
  rfl) k
theorem r_lsub {x y : Int64} (hc : cd pc = op_lbin (fun x y => x - y)) (hp : pc + 1 = pc2) (k : jr e A (jm_sup cd call (pc2, L, .long (x - y) :: st, h))) : jr e A (jm_sup cd call (pc, L, .long y :: .long x :: st, h)) := r_go (by
  rw [hc, ← hp]
  rfl) k
theorem r_land {x y : Int64} (hc : cd pc = op_lbin (fun x y => x &&& y)) (hp : pc + 1 = pc2) (k : jr e A (jm_sup cd call (pc2, L, .long (x &&& y) :: st, h))) : jr e A (jm_sup cd call (pc, L, .long y :: .long x :: st, h)) := r_go (by
  rw [hc, ← hp]
  rfl) k
theorem r_lor {x y : Int64} (hc : cd pc = op_lbin (fun x y => x ||| y)) (hp : pc + 1 = pc2) (k : jr e A (jm_sup cd call (pc2, L, .long (x ||| y) :: st, h))) : jr e A (jm_sup cd call (pc, L, .long y :: .long x :: st, h)) := r_go (by
  rw [hc, ← hp]
  rfl) k
theorem r_lxor {x y : Int64} (hc : cd pc = op_lbin (fun x y => x ^^^ y)) (hp : pc + 1 = pc2) (k : jr e A (jm_sup cd call (pc2, L, .long (x ^^^ y) :: st, h))) : jr e A (jm_sup cd call (pc, L, .long y :: .long x :: st, h)) := r_go (by
  rw [hc, ← hp]
  rfl) k
theorem r_lshl {x : Int64} {y : Int} (hc : cd pc = op_lsh (fun x y => x <<< (y.toInt64 &&& 63))) (hp : pc + 1 = pc2) (k : jr e A (jm_sup cd call (pc2, L, .long (lSl x y) :: st, h))) : jr e A (jm_sup cd call (pc, L, gv y :: .long x :: st, h)) := r_go (by
  rw [hc, ← hp]
  rfl) k
theorem r_lshr {x : Int64} {y : Int} (hc : cd pc = op_lsh (fun x y => x >>> (y.toInt64 &&& 63))) (hp : pc + 1 = pc2) (k : jr e A (jm_sup cd call (pc2, L, .long (lSr x y) :: st, h))) : jr e A (jm_sup cd call (pc, L, gv y :: .long x :: st, h)) := r_go (by
  rw [hc, ← hp]
  rfl) k
theorem r_lushr {x : Int64} {y : Int} (hc : cd pc = op_lsh (fun x y => (x.toUInt64 >>> (y.toInt64.toUInt64 &&& Int64.toUInt64 63)).toInt64)) (hp : pc + 1 = pc2) (k : jr e A (jm_sup cd call (pc2, L, .long (lSu x y) :: st, h))) : jr e A (jm_sup cd call (pc, L, gv y :: .long x :: st, h)) := r_go (by
  rw [hc, ← hp]
  rfl) k
theorem r_i2l {x : Int} (hc : cd pc = op_i2l) (hp : pc + 1 = pc2) (k : jr e A (jm_sup cd call (pc2, L, .long (iL x) :: st, h))) : jr e A (jm_sup cd call (pc, L, gv x :: st, h)) := r_go (by
  rw [hc, ← hp]
  rfl) k
theorem r_l2i {x : Int64} (hc : cd pc = op_l2i) (hp : pc + 1 = pc2) (k : jr e A (jm_sup cd call (pc2, L, gv (lI x) :: st, h))) : jr e A (jm_sup cd call (pc, L, .long x :: st, h)) := r_go (by
  rw [hc, ← hp]
  show jm_go _ _ _ _ = some (.inl (pc + 1, L, gv (lI x) :: st, h))
  unfold gv lI
  rw [Int32.ofInt_toInt]
  rfl) k
theorem r_goto (hc : cd pc = op_goto t) (k : jr e A (jm_sup cd call (t, L, st, h))) : jr e A (jm_sup cd call (pc, L, st, h)) := r_go (by
  rw [hc]
  rfl) k
theorem r_ifeq {x : Int} [inst : Decidable (x = 0)] (hc : cd pc = op_ifeq t) (hx : rg x) (hp : pc + 3 = pc2) (k1 : x = 0 → jr e A (jm_sup cd call (t, L, st, h))) (k2 : ¬ (x = 0) → jr e B (jm_sup cd call (pc2, L, st, h))) : jr e (if x = 0 then A else B) (jm_sup cd call (pc, L, gv x :: st, h)) := by
  subst hp
  by_cases hq : x = 0
  · rw [if_pos hq]
    refine r_go (pc2 := t) ?_ (k1 hq)
    rw [hc]
    unfold op_ifeq
    dsimp only
    rw [if_pos (by rw [rg_0]; exact (rg_eq hx rg_z).mpr hq)]
    rfl
  · rw [if_neg hq]
    refine r_go (pc2 := pc + 3) ?_ (k2 hq)
    rw [hc]
    unfold op_ifeq
    dsimp only
    rw [if_neg (by rw [rg_0]; exact fun q => hq ((rg_eq hx rg_z).mp q))]
    rfl
theorem r_ifne {x : Int} [inst : Decidable (x = 0)] (hc : cd pc = op_ifne t) (hx : rg x) (hp : pc + 3 = pc2) (k1 : x = 0 → jr e A (jm_sup cd call (pc2, L, st, h))) (k2 : ¬ (x = 0) → jr e B (jm_sup cd call (t, L, st, h))) : jr e (if x = 0 then A else B) (jm_sup cd call (pc, L, gv x :: st, h)) := by
  subst hp
  by_cases hq : x = 0
  · rw [if_pos hq]
    refine r_go (pc2 := pc + 3) ?_ (k1 hq)
    rw [hc]
    unfold op_ifne
    dsimp only
    rw [if_pos (by rw [rg_0]; exact (rg_eq hx rg_z).mpr hq)]
    rfl
  · rw [if_neg hq]
    refine r_go (pc2 := t) ?_ (k2 hq)
    rw [hc]
    unfold op_ifne
    dsimp only
    rw [if_neg (by rw [rg_0]; exact fun q => hq ((rg_eq hx rg_z).mp q))]
    rfl
theorem r_iflt {x : Int} [inst : Decidable (x < 0)] (hc : cd pc = op_iflt t) (hx : rg x) (hp : pc + 3 = pc2) (k1 : x < 0 → jr e A (jm_sup cd call (t, L, st, h))) (k2 : ¬ (x < 0) → jr e B (jm_sup cd call (pc2, L, st, h))) : jr e (if x < 0 then A else B) (jm_sup cd call (pc, L, gv x :: st, h)) := by
  subst hp
  by_cases hq : x < 0
  · rw [if_pos hq]
    refine r_go (pc2 := t) ?_ (k1 hq)
    rw [hc]
    unfold op_iflt
    dsimp only
    rw [if_pos (by rw [rg_0]; exact (rg_lt hx rg_z).mpr hq)]
    rfl
  · rw [if_neg hq]
    refine r_go (pc2 := pc + 3) ?_ (k2 hq)
    rw [hc]
    unfold op_iflt
    dsimp only
    rw [if_neg (by rw [rg_0]; exact fun q => hq ((rg_lt hx rg_z).mp q))]
    rfl
theorem r_ifge {x : Int} [inst : Decidable (x < 0)] (hc : cd pc = op_ifge t) (hx : rg x) (hp : pc + 3 = pc2) (k1 : x < 0 → jr e A (jm_sup cd call (pc2, L, st, h))) (k2 : ¬ (x < 0) → jr e B (jm_sup cd call (t, L, st, h))) : jr e (if x < 0 then A else B) (jm_sup cd call (pc, L, gv x :: st, h)) := by
  subst hp
  by_cases hq : x < 0
  · rw [if_pos hq]
    refine r_go (pc2 := pc + 3) ?_ (k1 hq)
    rw [hc]
    unfold op_ifge
    dsimp only
    rw [if_neg (by rw [rg_0]; exact fun q => absurd ((rg_le rg_z hx).mp q) (by omega))]
    rfl
  · rw [if_neg hq]
    refine r_go (pc2 := t) ?_ (k2 hq)
    rw [hc]
    unfold op_ifge
    dsimp only
    rw [if_pos (by rw [rg_0]; exact (rg_le rg_z hx).mpr (by omega))]
    rfl
theorem r_ifgt {x : Int} [inst : Decidable (x ≤ 0)] (hc : cd pc = op_ifgt t) (hx : rg x) (hp : pc + 3 = pc2) (k1 : x ≤ 0 → jr e A (jm_sup cd call (pc2, L, st, h))) (k2 : ¬ (x ≤ 0) → jr e B (jm_sup cd call (t, L, st, h))) : jr e (if x ≤ 0 then A else B) (jm_sup cd call (pc, L, gv x :: st, h)) := by
  subst hp
  by_cases hq : x ≤ 0
  · rw [if_pos hq]
    refine r_go (pc2 := pc + 3) ?_ (k1 hq)
    rw [hc]
    unfold op_ifgt
    dsimp only
    rw [if_neg (by rw [rg_0]; exact fun q => absurd ((rg_lt rg_z hx).mp q) (by omega))]
    rfl
  · rw [if_neg hq]
    refine r_go (pc2 := t) ?_ (k2 hq)
    rw [hc]
    unfold op_ifgt
    dsimp only
    rw [if_pos (by rw [rg_0]; exact (rg_lt rg_z hx).mpr (by omega))]
    rfl
theorem r_ifle {x : Int} [inst : Decidable (x ≤ 0)] (hc : cd pc = op_ifle t) (hx : rg x) (hp : pc + 3 = pc2) (k1 : x ≤ 0 → jr e A (jm_sup cd call (t, L, st, h))) (k2 : ¬ (x ≤ 0) → jr e B (jm_sup cd call (pc2, L, st, h))) : jr e (if x ≤ 0 then A else B) (jm_sup cd call (pc, L, gv x :: st, h)) := by
  subst hp
  by_cases hq : x ≤ 0
  · rw [if_pos hq]
    refine r_go (pc2 := t) ?_ (k1 hq)
    rw [hc]
    unfold op_ifle
    dsimp only
    rw [if_pos (by rw [rg_0]; exact (rg_le hx rg_z).mpr hq)]
    rfl
  · rw [if_neg hq]
    refine r_go (pc2 := pc + 3) ?_ (k2 hq)
    rw [hc]
    unfold op_ifle
    dsimp only
    rw [if_neg (by rw [rg_0]; exact fun q => hq ((rg_le hx rg_z).mp q))]
    rfl
theorem r_ceq {x y : Int} [inst : Decidable (x = y)] (hc : cd pc = op_ceq t) (hx : rg x) (hy : rg y) (hp : pc + 3 = pc2) (k1 : x = y → jr e A (jm_sup cd call (t, L, st, h))) (k2 : ¬ (x = y) → jr e B (jm_sup cd call (pc2, L, st, h))) : jr e (if x = y then A else B) (jm_sup cd call (pc, L, gv y :: gv x :: st, h)) := by
  subst hp
  by_cases hq : x = y
  · rw [if_pos hq]
    refine r_go (pc2 := t) ?_ (k1 hq)
    rw [hc]
    unfold op_ceq
    dsimp only
    rw [if_pos ((rg_eq hx hy).mpr hq)]
    rfl
  · rw [if_neg hq]
    refine r_go (pc2 := pc + 3) ?_ (k2 hq)
    rw [hc]
    unfold op_ceq
    dsimp only
    rw [if_neg (fun q => hq ((rg_eq hx hy).mp q))]
    rfl
theorem r_cne {x y : Int} [inst : Decidable (x = y)] (hc : cd pc = op_cne t) (hx : rg x) (hy : rg y) (hp : pc + 3 = pc2) (k1 : x = y → jr e A (jm_sup cd call (pc2, L, st, h))) (k2 : ¬ (x = y) → jr e B (jm_sup cd call (t, L, st, h))) : jr e (if x = y then A else B) (jm_sup cd call (pc, L, gv y :: gv x :: st, h)) := by
  subst hp
  by_cases hq : x = y
  · rw [if_pos hq]
    refine r_go (pc2 := pc + 3) ?_ (k1 hq)
    rw [hc]
    unfold op_cne
    dsimp only
    rw [if_pos ((rg_eq hx hy).mpr hq)]
    rfl
  · rw [if_neg hq]
    refine r_go (pc2 := t) ?_ (k2 hq)
    rw [hc]
    unfold op_cne
    dsimp only
    rw [if_neg (fun q => hq ((rg_eq hx hy).mp q))]
    rfl
theorem r_clt {x y : Int} [inst : Decidable (x < y)] (hc : cd pc = op_clt t) (hx : rg x) (hy : rg y) (hp : pc + 3 = pc2) (k1 : x < y → jr e A (jm_sup cd call (t, L, st, h))) (k2 : ¬ (x < y) → jr e B (jm_sup cd call (pc2, L, st, h))) : jr e (if x < y then A else B) (jm_sup cd call (pc, L, gv y :: gv x :: st, h)) := by
  subst hp
  by_cases hq : x < y
  · rw [if_pos hq]
    refine r_go (pc2 := t) ?_ (k1 hq)
    rw [hc]
    unfold op_clt
    dsimp only
    rw [if_pos ((rg_lt hx hy).mpr hq)]
    rfl
  · rw [if_neg hq]
    refine r_go (pc2 := pc + 3) ?_ (k2 hq)
    rw [hc]
    unfold op_clt
    dsimp only
    rw [if_neg (fun q => hq ((rg_lt hx hy).mp q))]
    rfl
theorem r_cge {x y : Int} [inst : Decidable (x < y)] (hc : cd pc = op_cge t) (hx : rg x) (hy : rg y) (hp : pc + 3 = pc2) (k1 : x < y → jr e A (jm_sup cd call (pc2, L, st, h))) (k2 : ¬ (x < y) → jr e B (jm_sup cd call (t, L, st, h))) : jr e (if x < y then A else B) (jm_sup cd call (pc, L, gv y :: gv x :: st, h)) := by
  subst hp
  by_cases hq : x < y
  · rw [if_pos hq]
    refine r_go (pc2 := pc + 3) ?_ (k1 hq)
    rw [hc]
    unfold op_cge
    dsimp only
    rw [if_neg (fun q => absurd ((rg_le hy hx).mp q) (by omega))]
    rfl
  · rw [if_neg hq]
    refine r_go (pc2 := t) ?_ (k2 hq)
    rw [hc]
    unfold op_cge
    dsimp only
    rw [if_pos ((rg_le hy hx).mpr (by omega))]
    rfl
theorem r_cgt {x y : Int} [inst : Decidable (x ≤ y)] (hc : cd pc = op_cgt t) (hx : rg x) (hy : rg y) (hp : pc + 3 = pc2) (k1 : x ≤ y → jr e A (jm_sup cd call (pc2, L, st, h))) (k2 : ¬ (x ≤ y) → jr e B (jm_sup cd call (t, L, st, h))) : jr e (if x ≤ y then A else B) (jm_sup cd call (pc, L, gv y :: gv x :: st, h)) := by
  subst hp
  by_cases hq : x ≤ y
  · rw [if_pos hq]
    refine r_go (pc2 := pc + 3) ?_ (k1 hq)
    rw [hc]
    unfold op_cgt
    dsimp only
    rw [if_neg (fun q => absurd ((rg_lt hy hx).mp q) (by omega))]
    rfl
  · rw [if_neg hq]
    refine r_go (pc2 := t) ?_ (k2 hq)
    rw [hc]
    unfold op_cgt
    dsimp only
    rw [if_pos ((rg_lt hy hx).mpr (by omega))]
    rfl
theorem r_cle {x y : Int} [inst : Decidable (x ≤ y)] (hc : cd pc = op_cle t) (hx : rg x) (hy : rg y) (hp : pc + 3 = pc2) (k1 : x ≤ y → jr e A (jm_sup cd call (t, L, st, h))) (k2 : ¬ (x ≤ y) → jr e B (jm_sup cd call (pc2, L, st, h))) : jr e (if x ≤ y then A else B) (jm_sup cd call (pc, L, gv y :: gv x :: st, h)) := by
  subst hp
  by_cases hq : x ≤ y
  · rw [if_pos hq]
    refine r_go (pc2 := t) ?_ (k1 hq)
    rw [hc]
    unfold op_cle
    dsimp only
    rw [if_pos ((rg_le hx hy).mpr hq)]
    rfl
  · rw [if_neg hq]
    refine r_go (pc2 := pc + 3) ?_ (k2 hq)
    rw [hc]
    unfold op_cle
    dsimp only
    rw [if_neg (fun q => hq ((rg_le hx hy).mp q))]
    rfl
end
/-! The shape: 111 cells that stay, then eight cells a bit. -/
def st_T (a : Nat) : Nat := [10, 8, 12, 7, 13, 13, 13, 13, 13, 13, 3, 16, 13, 13, 4, 13, 13, 13, 13, 13, 13, 13, 9, 14, 13, 5, 13, 0, 14, 13, 13, 13, 2, 13, 13, 13, 13, 13, 13, 13, 6, 13, 13, 15, 11, 13, 13, 13, 13, 13, 13, 13, 13, 13, 13, 13, 13, 13, 13, 13, 13, 15, 13, 13, 13, 13, 13, 13, 13, 15, 15, 15, 13, 13, 13, 13, 13, 13, 13, 13, 13, 13, 15, 13, 13, 13, 13, 13, 13, 13, 13, 13, 13, 13, 13, 13, 13, 13, 13, 13, 13, 15, 15, 13, 13, 13, 13, 13, 13, 13, 13].getD a 0
def st_L (a : Nat) : Nat := [0, 0, 240, 0, 8, 8, 8, 5, 5, 5, 0, 30, 100, 240, 0, 60, 60, 60, 60, 30, 30, 30, 0, 30, 60, 0, 484, 0, 192, 192, 3, 3, 0, 100, 100, 100, 60, 60, 7168, 6, 0, 241, 241, 241, 0, 240, 30, 240, 240, 240, 30, 150, 150, 150, 30, 30, 30, 30, 30, 48000, 48000, 48000, 100, 57600, 57600, 60, 60, 60, 60, 60, 30, 30, 30, 30, 30, 60, 240, 240, 30, 30, 30, 30, 60, 30, 60, 30, 30, 30, 256, 256, 3, 3, 3, 3, 3, 3, 3, 3, 3, 3, 3, 30, 30, 30, 100, 100, 100, 60, 60, 7168, 6].getD a 0
def st_R (a : Nat) : List Nat := match a with
  | 0 => [1, 3, 10, 14, 22, 25, 27, 32, 40]
  | 1 => [0, 2]
  | 3 => [1, 0, 0, 0, 4, 5, 6, 0, 7, 8, 9]
  | 10 => [11, 0, 0, 12, 13]
  | 14 => [15, 16, 17, 18, 0, 0, 19, 20, 21]
  | 22 => [10, 14, 23, 0, 0, 0, 0, 0, 0, 24]
  | 25 => [26]
  | 27 => [10, 28, 29, 30, 31]
  | 32 => [0, 33, 34, 35, 36, 37, 38, 39]
  | 40 => [10, 14, 32, 41, 42, 43]
  | 44 => [0, 45, 0, 0, 46, 47, 48, 49, 50, 51, 52, 53, 54, 55, 56, 57, 58, 59, 60, 61, 0, 62, 63, 64, 0, 65, 66, 67, 68, 69, 70, 71, 72, 73, 74, 0, 0, 0, 0, 75, 0, 0, 0, 76, 77, 78, 79, 80, 81, 0, 0, 0, 82, 83, 84, 0, 85, 86, 87, 0, 0, 0, 0, 0, 88, 89, 0, 0, 90, 91, 92, 93, 0, 0, 94, 95, 96, 0, 97, 98, 99, 100, 101, 102, 0, 103, 0, 0, 104, 105, 106, 107, 108, 109, 110]
  | _ => []
def st_A (a k : Nat) : Nat := (st_R a).getD k 0
def bt_T (c : Nat) : Nat := [1, 14, 13, 13, 13, 13, 13, 13].getD c 0
def bt_L (c : Nat) : Nat := [0, 160, 8, 8, 8, 5, 5, 5].getD c 0
/-- of a bit: which field leads to which of its cells -/
def bt_A (k : Nat) : Nat := [0, 0, 0, 0, 2, 3, 4, 0, 5, 6, 7, 0, 0, 1].getD k 0
def bA (i : Nat) : Nat := 111 + 8 * i
/-- n bits stand in the row of bits, m bits are made -/
def gm_sh (s : gm_S) (n m : Nat) : Prop := (n ≤ m ∧ n ≤ 30 ∧ 111 + 8 * m ≤ s.1) ∧ (∀ a, a < 111 → s.2.2.1 a = st_T a ∧ s.2.2.2.1 a = st_L a) ∧ (∀ a k, st_A a k ≠ 0 → s.2.2.2.2 a k = some (st_A a k)) ∧ (∀ i, i < m → ∀ c, c < 8 → s.2.2.1 (bA i + c) = bt_T c ∧ s.2.2.2.1 (bA i + c) = bt_L c) ∧ (∀ i, i < m → ∀ k, bt_A k ≠ 0 → s.2.2.2.2 (bA i) k = some (bA i + bt_A k)) ∧ ∀ i, i < n → s.2.2.2.2 11 i = some (bA i)
theorem sh_T {s : gm_S} {n m : Nat} (hs : gm_sh s n m) {a tag : Nat} (ha : Nat.blt a 111 = true) (ht : st_T a = tag) : a < s.1 ∧ s.2.2.1 a = tag := by
  have h1 : a < 111 := Nat.le_of_ble_eq_true ha
  exact ⟨by have := hs.1.2.2; omega, by rw [(hs.2.1 a h1).1, ht]⟩
theorem sh_L {s : gm_S} {n m : Nat} (hs : gm_sh s n m) {a len : Nat} (ha : Nat.blt a 111 = true) (ht : st_L a = len) : s.2.2.2.1 a = len := by
  have h1 : a < 111 := Nat.le_of_ble_eq_true ha
  rw [(hs.2.1 a h1).2, ht]
theorem sh_A {s : gm_S} {n m : Nat} (hs : gm_sh s n m) {a k q : Nat} (h1 : st_A a k = q) (h2 : Nat.blt 0 q = true) : s.2.2.2.2 a k = some q := by
  have h3 : 0 < q := Nat.le_of_ble_eq_true h2
  rw [hs.2.2.1 a k (by omega), h1]
theorem sh_bT {s : gm_S} {n m : Nat} (hs : gm_sh s n m) {i : Nat} (hi : i < m) {c tag : Nat} (hc : Nat.blt c 8 = true) (ht : bt_T c = tag) : bA i + c < s.1 ∧ s.2.2.1 (bA i + c) = tag := by
  have h1 : c < 8 := Nat.le_of_ble_eq_true hc
  exact ⟨by have := hs.1.2.2; unfold bA; omega, by rw [(hs.2.2.2.1 i hi c h1).1, ht]⟩
theorem sh_b0 {s : gm_S} {n m : Nat} (hs : gm_sh s n m) {i : Nat} (hi : i < m) : bA i < s.1 ∧ s.2.2.1 (bA i) = 1 := sh_bT hs hi (c := 0) rfl rfl
theorem sh_bL {s : gm_S} {n m : Nat} (hs : gm_sh s n m) {i : Nat} (hi : i < m) {c len : Nat} (hc : Nat.blt c 8 = true) (ht : bt_L c = len) : s.2.2.2.1 (bA i + c) = len := by
  have h1 : c < 8 := Nat.le_of_ble_eq_true hc
  rw [(hs.2.2.2.1 i hi c h1).2, ht]
theorem sh_bA {s : gm_S} {n m : Nat} (hs : gm_sh s n m) {i : Nat} (hi : i < m) {k c : Nat} (h1 : bt_A k = c) (h2 : Nat.blt 0 c = true) : s.2.2.2.2 (bA i) k = some (bA i + c) := by
  have h3 : 0 < c := Nat.le_of_ble_eq_true h2
  rw [hs.2.2.2.2.1 i hi k (by omega), h1]
theorem gm_hwI {s : gm_S} {g : gm_T} {r k : Nat} {v : Int} : jm_wI (gm_h s g) r k (Int32.ofInt v) = gm_h s (gm_wI g r k v) := by
  unfold jm_wI gm_h gm_wI jm_u
  dsimp only
  congr 6
  funext b j
  split
  · split <;> rfl
  · rfl
theorem gm_hwJ {s : gm_S} {g : gm_T} {r k : Nat} {v : Int64} : jm_wJ (gm_h s g) r k v = gm_h s (gm_wJ g r k v) := rfl
theorem rgk {x : Int} (h : (decide (-2147483648 ≤ x) && decide (x ≤ 2147483647)) = true) : rg x := by
  rw [Bool.and_eq_true] at h
  exact ⟨of_decide_eq_true h.1, of_decide_eq_true h.2⟩
theorem rg_ix {x : Int} {len : Nat} (h : 0 ≤ x ∧ x < (len : Int)) (hn : Nat.ble len 1000000 = true) : rg x := by
  have := Nat.le_of_ble_eq_true hn
  exact ⟨by omega, by omega⟩
section
variable {α : Type} {e : α → Option jm_R → Prop} {A B : Option α} {cd : Nat → jm_O} {call : jm_C} {pc pc2 t : Nat} {L L2 : jm_Lo} {st : List Value} {s : gm_S} {g : gm_T} {h : jm_H}
theorem r_getI {ci f r : Nat} (hc : cd pc = op_getI ci f) (hp : pc + 3 = pc2) (ht : r < s.1 ∧ s.2.2.1 r = ci) (k : jr e A (jm_sup cd call (pc2, L, gv (gm_I g r f) :: st, gm_h s g))) : jr e A (jm_sup cd call (pc, L, .ref r :: st, gm_h s g)) := r_go (by
  rw [hc, ← hp]
  unfold op_getI
  dsimp only
  rw [if_pos (show r < jm_N (gm_h s g) ∧ jm_T (gm_h s g) r = ci from ht)]
  rfl) k
theorem r_getJ {ci f r : Nat} (hc : cd pc = op_getJ ci f) (hp : pc + 3 = pc2) (ht : r < s.1 ∧ s.2.2.1 r = ci) (k : jr e A (jm_sup cd call (pc2, L, .long (gm_J g r f) :: st, gm_h s g))) : jr e A (jm_sup cd call (pc, L, .ref r :: st, gm_h s g)) := r_go (by
  rw [hc, ← hp]
  unfold op_getJ
  dsimp only
  rw [if_pos (show r < jm_N (gm_h s g) ∧ jm_T (gm_h s g) r = ci from ht)]
  rfl) k
theorem r_getA {ci f r q : Nat} (hc : cd pc = op_getA ci f) (hp : pc + 3 = pc2) (ht : r < s.1 ∧ s.2.2.1 r = ci) (ha : s.2.2.2.2 r f = some q) (k : jr e A (jm_sup cd call (pc2, L, .ref q :: st, gm_h s g))) : jr e A (jm_sup cd call (pc, L, .ref r :: st, gm_h s g)) := r_go (by
  rw [hc, ← hp]
  unfold op_getA
  dsimp only
  rw [if_pos (show r < jm_N (gm_h s g) ∧ jm_T (gm_h s g) r = ci from ht), show jm_A (gm_h s g) r f = some q from ha]
  rfl) k
theorem r_putI {ci f r : Nat} {v : Int} {K : gm_T → Option α} (hc : cd pc = op_putI ci f) (hp : pc + 3 = pc2) (ht : r < s.1 ∧ s.2.2.1 r = ci) (k : ∀ g2, jr e (K g2) (jm_sup cd call (pc2, L, st, gm_h s g2))) : jr e (jl (gm_wI g r f v) K) (jm_sup cd call (pc, L, gv v :: .ref r :: st, gm_h s g)) := r_go (by
  rw [hc, ← hp]
  unfold op_putI
  dsimp only
  rw [if_pos (show r < jm_N (gm_h s g) ∧ jm_T (gm_h s g) r = ci from ht), gm_hwI]
  rfl) (k _)
theorem z1_and {v : Int} (hv : v = 0 ∨ v = 1) : Int32.ofInt v &&& 1 = Int32.ofInt v := by
  rcases hv with rfl | rfl <;> decide
theorem r_putZ {ci f r : Nat} {v : Int} {K : gm_T → Option α} (hc : cd pc = op_putZ ci f) (hp : pc + 3 = pc2) (ht : r < s.1 ∧ s.2.2.1 r = ci) (hv : v = 0 ∨ v = 1) (k : ∀ g2, jr e (K g2) (jm_sup cd call (pc2, L, st, gm_h s g2))) : jr e (jl (gm_wI g r f v) K) (jm_sup cd call (pc, L, gv v :: .ref r :: st, gm_h s g)) := r_go (by
  rw [hc, ← hp]
  unfold op_putZ
  dsimp only
  rw [if_pos (show r < jm_N (gm_h s g) ∧ jm_T (gm_h s g) r = ci from ht), if_pos (z1_and hv), gm_hwI]
  rfl) (k _)
theorem r_putJ {ci f r : Nat} {v : Int64} {K : gm_T → Option α} (hc : cd pc = op_putJ ci f) (hp : pc + 3 = pc2) (ht : r < s.1 ∧ s.2.2.1 r = ci) (k : ∀ g2, jr e (K g2) (jm_sup cd call (pc2, L, st, gm_h s g2))) : jr e (jl (gm_wJ g r f v) K) (jm_sup cd call (pc, L, .long v :: .ref r :: st, gm_h s g)) := r_go (by
  rw [hc, ← hp]
  unfold op_putJ
  dsimp only
  rw [if_pos (show r < jm_N (gm_h s g) ∧ jm_T (gm_h s g) r = ci from ht)]
  rfl) (k _)
theorem r_iald {ci r len : Nat} {i : Int} (hc : cd pc = op_iald ci) (hp : pc + 1 = pc2) (ht : r < s.1 ∧ s.2.2.1 r = ci) (hl : s.2.2.2.1 r = len) (hn : Nat.ble len 1000000 = true) (hi : 0 ≤ i ∧ i < (len : Int)) (k : jr e A (jm_sup cd call (pc2, L, gv (gm_I g r i.toNat) :: st, gm_h s g))) : jr e A (jm_sup cd call (pc, L, gv i :: .ref r :: st, gm_h s g)) := r_go (by
  obtain ⟨q1, q2, q3⟩ := rg_nat hi.1 hi.2 hn
  rw [hc, ← hp]
  unfold op_iald
  dsimp only
  rw [if_pos (show (r < jm_N (gm_h s g) ∧ jm_T (gm_h s g) r = ci) ∧ (0 ≤ Int32.ofInt i ∧ (Int32.ofInt i).toNatClampNeg < jm_L (gm_h s g) r) from ⟨ht, q1, by rw [q2]; exact Nat.lt_of_lt_of_eq q3 hl.symm⟩), q2]
  rfl) k
theorem r_lald {r len : Nat} {i : Int} (hc : cd pc = op_lald) (hp : pc + 1 = pc2) (ht : r < s.1 ∧ s.2.2.1 r = 14) (hl : s.2.2.2.1 r = len) (hn : Nat.ble len 1000000 = true) (hi : 0 ≤ i ∧ i < (len : Int)) (k : jr e A (jm_sup cd call (pc2, L, .long (gm_J g r i.toNat) :: st, gm_h s g))) : jr e A (jm_sup cd call (pc, L, gv i :: .ref r :: st, gm_h s g)) := r_go (by
  obtain ⟨q1, q2, q3⟩ := rg_nat hi.1 hi.2 hn
  rw [hc, ← hp]
  unfold op_lald
  dsimp only
  rw [if_pos (show (r < jm_N (gm_h s g) ∧ jm_T (gm_h s g) r = 14) ∧ (0 ≤ Int32.ofInt i ∧ (Int32.ofInt i).toNatClampNeg < jm_L (gm_h s g) r) from ⟨ht, q1, by rw [q2]; exact Nat.lt_of_lt_of_eq q3 hl.symm⟩), q2]
  rfl) k
theorem r_iast {r len : Nat} {i : Int} {v : Int} {K : gm_T → Option α} (hc : cd pc = op_iast) (hp : pc + 1 = pc2) (ht : r < s.1 ∧ s.2.2.1 r = 13) (hl : s.2.2.2.1 r = len) (hn : Nat.ble len 1000000 = true) (hi : 0 ≤ i ∧ i < (len : Int)) (k : ∀ g2, jr e (K g2) (jm_sup cd call (pc2, L, st, gm_h s g2))) : jr e (jl (gm_wI g r i.toNat v) K) (jm_sup cd call (pc, L, gv v :: gv i :: .ref r :: st, gm_h s g)) := r_go (by
  obtain ⟨q1, q2, q3⟩ := rg_nat hi.1 hi.2 hn
  rw [hc, ← hp]
  unfold op_iast
  dsimp only
  rw [if_pos (show (r < jm_N (gm_h s g) ∧ jm_T (gm_h s g) r = 13) ∧ (0 ≤ Int32.ofInt i ∧ (Int32.ofInt i).toNatClampNeg < jm_L (gm_h s g) r) from ⟨ht, q1, by rw [q2]; exact Nat.lt_of_lt_of_eq q3 hl.symm⟩), q2]
  rw [gm_hwI]
  rfl) (k _)
theorem r_zast {r len : Nat} {i : Int} {v : Int} {K : gm_T → Option α} (hc : cd pc = op_zast) (hp : pc + 1 = pc2) (ht : r < s.1 ∧ s.2.2.1 r = 15) (hl : s.2.2.2.1 r = len) (hn : Nat.ble len 1000000 = true) (hi : 0 ≤ i ∧ i < (len : Int)) (hv : v = 0 ∨ v = 1) (k : ∀ g2, jr e (K g2) (jm_sup cd call (pc2, L, st, gm_h s g2))) : jr e (jl (gm_wI g r i.toNat v) K) (jm_sup cd call (pc, L, gv v :: gv i :: .ref r :: st, gm_h s g)) := r_go (by
  obtain ⟨q1, q2, q3⟩ := rg_nat hi.1 hi.2 hn
  rw [hc, ← hp]
  unfold op_zast
  dsimp only
  rw [if_pos (show (r < jm_N (gm_h s g) ∧ jm_T (gm_h s g) r = 15) ∧ (0 ≤ Int32.ofInt i ∧ (Int32.ofInt i).toNatClampNeg < jm_L (gm_h s g) r) from ⟨ht, q1, by rw [q2]; exact Nat.lt_of_lt_of_eq q3 hl.symm⟩), q2]
  rw [z1_and hv, gm_hwI]
  rfl) (k _)
theorem r_bast {r len : Nat} {i : Int} {v : Int} {K : gm_T → Option α} (hc : cd pc = op_bast) (hp : pc + 1 = pc2) (ht : r < s.1 ∧ s.2.2.1 r = 12) (hl : s.2.2.2.1 r = len) (hn : Nat.ble len 1000000 = true) (hi : 0 ≤ i ∧ i < (len : Int)) (k : ∀ g2, jr e (K g2) (jm_sup cd call (pc2, L, st, gm_h s g2))) : jr e (jl (gm_wI g r i.toNat (z8 v)) K) (jm_sup cd call (pc, L, gv v :: gv i :: .ref r :: st, gm_h s g)) := r_go (by
  obtain ⟨q1, q2, q3⟩ := rg_nat hi.1 hi.2 hn
  rw [hc, ← hp]
  unfold op_bast
  dsimp only
  rw [if_pos (show (r < jm_N (gm_h s g) ∧ jm_T (gm_h s g) r = 12) ∧ (0 ≤ Int32.ofInt i ∧ (Int32.ofInt i).toNatClampNeg < jm_L (gm_h s g) r) from ⟨ht, q1, by rw [q2]; exact Nat.lt_of_lt_of_eq q3 hl.symm⟩), q2]
  rw [← gm_hwI]
  unfold z8
  rw [Int32.ofInt_toInt]
  rfl) (k _)
theorem r_last {r len : Nat} {i : Int} {v : Int64} {K : gm_T → Option α} (hc : cd pc = op_last) (hp : pc + 1 = pc2) (ht : r < s.1 ∧ s.2.2.1 r = 14) (hl : s.2.2.2.1 r = len) (hn : Nat.ble len 1000000 = true) (hi : 0 ≤ i ∧ i < (len : Int)) (k : ∀ g2, jr e (K g2) (jm_sup cd call (pc2, L, st, gm_h s g2))) : jr e (jl (gm_wJ g r i.toNat v) K) (jm_sup cd call (pc, L, .long v :: gv i :: .ref r :: st, gm_h s g)) := r_go (by
  obtain ⟨q1, q2, q3⟩ := rg_nat hi.1 hi.2 hn
  rw [hc, ← hp]
  unfold op_last
  dsimp only
  rw [if_pos (show (r < jm_N (gm_h s g) ∧ jm_T (gm_h s g) r = 14) ∧ (0 ≤ Int32.ofInt i ∧ (Int32.ofInt i).toNatClampNeg < jm_L (gm_h s g) r) from ⟨ht, q1, by rw [q2]; exact Nat.lt_of_lt_of_eq q3 hl.symm⟩), q2]
  rfl) (k _)
theorem r_aald {n m : Nat} {i : Int} (hc : cd pc = op_aald) (hp : pc + 1 = pc2) (hs : gm_sh s n m) (hi : 0 ≤ i ∧ i < (n : Int)) (k : jr e A (jm_sup cd call (pc2, L, .ref (bA i.toNat) :: st, gm_h s g))) : jr e A (jm_sup cd call (pc, L, gv i :: .ref 11 :: st, gm_h s g)) := r_go (by
  have h30 : n ≤ 30 := hs.1.2.1
  obtain ⟨q1, q2, q3⟩ := rg_nat (n := 30) hi.1 (by omega) rfl
  rw [hc, ← hp]
  unfold op_aald
  dsimp only
  rw [if_pos (show (11 < jm_N (gm_h s g) ∧ jm_T (gm_h s g) 11 = 16) ∧ (0 ≤ Int32.ofInt i ∧ (Int32.ofInt i).toNatClampNeg < jm_L (gm_h s g) 11) from ⟨sh_T hs rfl rfl, q1, by rw [q2]; exact Nat.lt_of_lt_of_eq q3 (show s.2.2.2.1 11 = 30 from sh_L hs rfl rfl).symm⟩), q2, show jm_A (gm_h s g) 11 i.toNat = some (bA i.toNat) from hs.2.2.2.2.2 i.toNat (by omega)]
  rfl) k
theorem r_end {r : jm_R} {a : α} (hg : cd pc call pc L st h = some (.inr r)) (hr : e a (some r)) : jr e (some a) (jm_sup cd call (pc, L, st, h)) := jr_leaf (by
  rw [jm_sup_end hg]
  exact hr)
theorem r_iret {x : Int} {a : α} (hc : cd pc = op_iret) (hr : e a (some (some (gv x), h))) : jr e (some a) (jm_sup cd call (pc, L, [gv x], h)) := r_end (by
  rw [hc]
  rfl) hr
theorem r_zret {x : Int} {a : α} (hc : cd pc = op_zret) (hv : x = 0 ∨ x = 1) (hr : e a (some (some (gv x), h))) : jr e (some a) (jm_sup cd call (pc, L, [gv x], h)) := r_end (by
  rw [hc]
  unfold op_zret
  dsimp only
  rw [if_pos (z1_and hv)]) hr
theorem r_lret {x : Int64} {a : α} (hc : cd pc = op_lret) (hr : e a (some (some (.long x), h))) : jr e (some a) (jm_sup cd call (pc, L, [.long x], h)) := r_end (by
  rw [hc]
  rfl) hr
theorem r_vret {a : α} (hc : cd pc = op_vret) (hr : e a (some (none, h))) : jr e (some a) (jm_sup cd call (pc, L, [], h)) := r_end (by
  rw [hc]
  rfl) hr
theorem r_istoreL {i n : Nat} {x : Int} {L3 : Int → jm_Lo} {K : Int → Option α} (hc : cd pc = op_istore i n) (hp : pc + n = pc2) (hL : ∀ v, jm_st1 L i (gv v) = some (L3 v)) (k : ∀ v, jr e (K v) (jm_sup cd call (pc2, L3 v, st, h))) : jr e (jl x K) (jm_sup cd call (pc, L, gv x :: st, h)) := r_go (by
  rw [hc, ← hp]
  unfold op_istore
  dsimp only
  rw [hL]
  rfl) (k _)
theorem r_lstoreL {i n : Nat} {x : Int64} {L3 : Int64 → jm_Lo} {K : Int64 → Option α} (hc : cd pc = op_lstore i n) (hp : pc + n = pc2) (hL : ∀ v, jm_st2 L i (.long v) = some (L3 v)) (k : ∀ v, jr e (K v) (jm_sup cd call (pc2, L3 v, st, h))) : jr e (jl x K) (jm_sup cd call (pc, L, .long x :: st, h)) := r_go (by
  rw [hc, ← hp]
  unfold op_lstore
  dsimp only
  rw [hL]
  rfl) (k _)
theorem r_iincL {i : Nat} {x kk : Int} {k0 : Int32} {L3 : Int → jm_Lo} {K : Int → Option α} (hc : cd pc = op_iinc i k0) (hk : k0 = Int32.ofInt kk) (hp : pc + 3 = pc2) (hL : L.getD i none = some (gv x)) (hs : ∀ v, jm_st1 L i (gv v) = some (L3 v)) (k : ∀ v, jr e (K v) (jm_sup cd call (pc2, L3 v, st, h))) : jr e (jl (x + kk) K) (jm_sup cd call (pc, L, st, h)) := r_go (by
  rw [hc, ← hp]
  unfold op_iinc
  rw [hL]
  dsimp only
  rw [hk, ← Int32.ofInt_add, hs]
  rfl) (k _)
theorem r_callSI {M n : Nat} {args st2 : List Value} {F : Option (Int × gm_T)} {K : Int → gm_T → Option α} (hc : cd pc = op_callS M n) (hp : pc + 3 = pc2) (ha : (st.take n).reverse = args) (hd : st.drop n = st2) (hn : Nat.ble n st.length = true) (hq : Nat.ble (st2.map fun v => v.category).sum 8 = true) (hF : jr (eI s) F (call M args (gm_h s g))) (k : ∀ v g2, jr e (K v g2) (jm_sup cd call (pc2, L, gv v :: st2, gm_h s g2))) : jr e (jb2 F K) (jm_sup cd call (pc, L, st, gm_h s g)) := by
  subst ha hd
  intro a h1
  cases hF2 : F with
  | none => rw [hF2] at h1; cases h1
  | some q =>
    rw [hF2] at h1
    have h2 : call M (st.take n).reverse (gm_h s g) = some (some (gv q.1), gm_h s q.2) := hF _ hF2
    refine r_go (st2 := gv q.1 :: st.drop n) (h2 := gm_h s q.2) ?_ (k q.1 q.2) a h1
    rw [hc, ← hp]
    unfold op_callS
    rw [if_pos (by first | exact ⟨Nat.le_of_ble_eq_true hn, Nat.le_of_ble_eq_true hq⟩ | exact ⟨⟨Nat.le_of_ble_eq_true hn, Nat.le_of_ble_eq_true hq⟩, hrc⟩), h2]
    rfl
theorem r_callSJ {M n : Nat} {args st2 : List Value} {F : Option (Int64 × gm_T)} {K : Int64 → gm_T → Option α} (hc : cd pc = op_callS M n) (hp : pc + 3 = pc2) (ha : (st.take n).reverse = args) (hd : st.drop n = st2) (hn : Nat.ble n st.length = true) (hq : Nat.ble (st2.map fun v => v.category).sum 8 = true) (hF : jr (eJ s) F (call M args (gm_h s g))) (k : ∀ v g2, jr e (K v g2) (jm_sup cd call (pc2, L, .long v :: st2, gm_h s g2))) : jr e (jb2 F K) (jm_sup cd call (pc, L, st, gm_h s g)) := by
  subst ha hd
  intro a h1
  cases hF2 : F with
  | none => rw [hF2] at h1; cases h1
  | some q =>
    rw [hF2] at h1
    have h2 : call M (st.take n).reverse (gm_h s g) = some (some (.long q.1), gm_h s q.2) := hF _ hF2
    refine r_go (st2 := .long q.1 :: st.drop n) (h2 := gm_h s q.2) ?_ (k q.1 q.2) a h1
    rw [hc, ← hp]
    unfold op_callS
    rw [if_pos (by first | exact ⟨Nat.le_of_ble_eq_true hn, Nat.le_of_ble_eq_true hq⟩ | exact ⟨⟨Nat.le_of_ble_eq_true hn, Nat.le_of_ble_eq_true hq⟩, hrc⟩), h2]
    rfl
theorem r_callSV {M n : Nat} {args st2 : List Value} {F : Option (gm_T)} {K : gm_T → Option α} (hc : cd pc = op_callS M n) (hp : pc + 3 = pc2) (ha : (st.take n).reverse = args) (hd : st.drop n = st2) (hn : Nat.ble n st.length = true) (hq : Nat.ble (st2.map fun v => v.category).sum 8 = true) (hF : jr (eV s) F (call M args (gm_h s g))) (k : ∀ g2, jr e (K g2) (jm_sup cd call (pc2, L, st2, gm_h s g2))) : jr e (jb1 F K) (jm_sup cd call (pc, L, st, gm_h s g)) := by
  subst ha hd
  intro a h1
  cases hF2 : F with
  | none => rw [hF2] at h1; cases h1
  | some q =>
    rw [hF2] at h1
    have h2 : call M (st.take n).reverse (gm_h s g) = some (none, gm_h s q) := hF _ hF2
    refine r_go (st2 := st.drop n) (h2 := gm_h s q) ?_ (k q) a h1
    rw [hc, ← hp]
    unfold op_callS
    rw [if_pos (by first | exact ⟨Nat.le_of_ble_eq_true hn, Nat.le_of_ble_eq_true hq⟩ | exact ⟨⟨Nat.le_of_ble_eq_true hn, Nat.le_of_ble_eq_true hq⟩, hrc⟩), h2]
    rfl
theorem r_callSP {M n : Nat} {args st2 : List Value} {F : Option (Int)} {K : Int → Option α} (hc : cd pc = op_callS M n) (hp : pc + 3 = pc2) (ha : (st.take n).reverse = args) (hd : st.drop n = st2) (hn : Nat.ble n st.length = true) (hq : Nat.ble (st2.map fun v => v.category).sum 8 = true) (hF : jr (pI s g) F (call M args (gm_h s g))) (k : ∀ v, jr e (K v) (jm_sup cd call (pc2, L, gv v :: st2, gm_h s g))) : jr e (jb1 F K) (jm_sup cd call (pc, L, st, gm_h s g)) := by
  subst ha hd
  intro a h1
  cases hF2 : F with
  | none => rw [hF2] at h1; cases h1
  | some q =>
    rw [hF2] at h1
    have h2 : call M (st.take n).reverse (gm_h s g) = some (some (gv q), gm_h s g) := hF _ hF2
    refine r_go (st2 := gv q :: st.drop n) (h2 := gm_h s g) ?_ (k q) a h1
    rw [hc, ← hp]
    unfold op_callS
    rw [if_pos (by first | exact ⟨Nat.le_of_ble_eq_true hn, Nat.le_of_ble_eq_true hq⟩ | exact ⟨⟨Nat.le_of_ble_eq_true hn, Nat.le_of_ble_eq_true hq⟩, hrc⟩), h2]
    rfl
theorem r_callSL {M n : Nat} {args st2 : List Value} {F : Option (Int64)} {K : Int64 → Option α} (hc : cd pc = op_callS M n) (hp : pc + 3 = pc2) (ha : (st.take n).reverse = args) (hd : st.drop n = st2) (hn : Nat.ble n st.length = true) (hq : Nat.ble (st2.map fun v => v.category).sum 8 = true) (hF : jr (pJ s g) F (call M args (gm_h s g))) (k : ∀ v, jr e (K v) (jm_sup cd call (pc2, L, .long v :: st2, gm_h s g))) : jr e (jb1 F K) (jm_sup cd call (pc, L, st, gm_h s g)) := by
  subst ha hd
  intro a h1
  cases hF2 : F with
  | none => rw [hF2] at h1; cases h1
  | some q =>
    rw [hF2] at h1
    have h2 : call M (st.take n).reverse (gm_h s g) = some (some (.long q), gm_h s g) := hF _ hF2
    refine r_go (st2 := .long q :: st.drop n) (h2 := gm_h s g) ?_ (k q) a h1
    rw [hc, ← hp]
    unfold op_callS
    rw [if_pos (by first | exact ⟨Nat.le_of_ble_eq_true hn, Nat.le_of_ble_eq_true hq⟩ | exact ⟨⟨Nat.le_of_ble_eq_true hn, Nat.le_of_ble_eq_true hq⟩, hrc⟩), h2]
    rfl
theorem r_callTI {M n : Nat} {args st2 : List Value} {F : Option (Int × gm_T)} {K : Int → gm_T → Option α} (hc : cd pc = op_callT M n) (hp : pc + 3 = pc2) (ha : (st.take n).reverse = args) (hd : st.drop n = st2) (hn : Nat.ble n st.length = true) (hq : Nat.ble (st2.map fun v => v.category).sum 16 = true) (hF : jr (eI s) F (call M args (gm_h s g))) (k : ∀ v g2, jr e (K v g2) (jm_sup cd call (pc2, L, gv v :: st2, gm_h s g2))) : jr e (jb2 F K) (jm_sup cd call (pc, L, st, gm_h s g)) := by
  subst ha hd
  intro a h1
  cases hF2 : F with
  | none => rw [hF2] at h1; cases h1
  | some q =>
    rw [hF2] at h1
    have h2 : call M (st.take n).reverse (gm_h s g) = some (some (gv q.1), gm_h s q.2) := hF _ hF2
    refine r_go (st2 := gv q.1 :: st.drop n) (h2 := gm_h s q.2) ?_ (k q.1 q.2) a h1
    rw [hc, ← hp]
    unfold op_callT
    rw [if_pos (by first | exact ⟨Nat.le_of_ble_eq_true hn, Nat.le_of_ble_eq_true hq⟩ | exact ⟨⟨Nat.le_of_ble_eq_true hn, Nat.le_of_ble_eq_true hq⟩, hrc⟩), h2]
    rfl
theorem r_callTJ {M n : Nat} {args st2 : List Value} {F : Option (Int64 × gm_T)} {K : Int64 → gm_T → Option α} (hc : cd pc = op_callT M n) (hp : pc + 3 = pc2) (ha : (st.take n).reverse = args) (hd : st.drop n = st2) (hn : Nat.ble n st.length = true) (hq : Nat.ble (st2.map fun v => v.category).sum 16 = true) (hF : jr (eJ s) F (call M args (gm_h s g))) (k : ∀ v g2, jr e (K v g2) (jm_sup cd call (pc2, L, .long v :: st2, gm_h s g2))) : jr e (jb2 F K) (jm_sup cd call (pc, L, st, gm_h s g)) := by
  subst ha hd
  intro a h1
  cases hF2 : F with
  | none => rw [hF2] at h1; cases h1
  | some q =>
    rw [hF2] at h1
    have h2 : call M (st.take n).reverse (gm_h s g) = some (some (.long q.1), gm_h s q.2) := hF _ hF2
    refine r_go (st2 := .long q.1 :: st.drop n) (h2 := gm_h s q.2) ?_ (k q.1 q.2) a h1
    rw [hc, ← hp]
    unfold op_callT
    rw [if_pos (by first | exact ⟨Nat.le_of_ble_eq_true hn, Nat.le_of_ble_eq_true hq⟩ | exact ⟨⟨Nat.le_of_ble_eq_true hn, Nat.le_of_ble_eq_true hq⟩, hrc⟩), h2]
    rfl
theorem r_callTV {M n : Nat} {args st2 : List Value} {F : Option (gm_T)} {K : gm_T → Option α} (hc : cd pc = op_callT M n) (hp : pc + 3 = pc2) (ha : (st.take n).reverse = args) (hd : st.drop n = st2) (hn : Nat.ble n st.length = true) (hq : Nat.ble (st2.map fun v => v.category).sum 16 = true) (hF : jr (eV s) F (call M args (gm_h s g))) (k : ∀ g2, jr e (K g2) (jm_sup cd call (pc2, L, st2, gm_h s g2))) : jr e (jb1 F K) (jm_sup cd call (pc, L, st, gm_h s g)) := by
  subst ha hd
  intro a h1
  cases hF2 : F with
  | none => rw [hF2] at h1; cases h1
  | some q =>
    rw [hF2] at h1
    have h2 : call M (st.take n).reverse (gm_h s g) = some (none, gm_h s q) := hF _ hF2
    refine r_go (st2 := st.drop n) (h2 := gm_h s q) ?_ (k q) a h1
    rw [hc, ← hp]
    unfold op_callT
    rw [if_pos (by first | exact ⟨Nat.le_of_ble_eq_true hn, Nat.le_of_ble_eq_true hq⟩ | exact ⟨⟨Nat.le_of_ble_eq_true hn, Nat.le_of_ble_eq_true hq⟩, hrc⟩), h2]
    rfl
theorem r_callTP {M n : Nat} {args st2 : List Value} {F : Option (Int)} {K : Int → Option α} (hc : cd pc = op_callT M n) (hp : pc + 3 = pc2) (ha : (st.take n).reverse = args) (hd : st.drop n = st2) (hn : Nat.ble n st.length = true) (hq : Nat.ble (st2.map fun v => v.category).sum 16 = true) (hF : jr (pI s g) F (call M args (gm_h s g))) (k : ∀ v, jr e (K v) (jm_sup cd call (pc2, L, gv v :: st2, gm_h s g))) : jr e (jb1 F K) (jm_sup cd call (pc, L, st, gm_h s g)) := by
  subst ha hd
  intro a h1
  cases hF2 : F with
  | none => rw [hF2] at h1; cases h1
  | some q =>
    rw [hF2] at h1
    have h2 : call M (st.take n).reverse (gm_h s g) = some (some (gv q), gm_h s g) := hF _ hF2
    refine r_go (st2 := gv q :: st.drop n) (h2 := gm_h s g) ?_ (k q) a h1
    rw [hc, ← hp]
    unfold op_callT
    rw [if_pos (by first | exact ⟨Nat.le_of_ble_eq_true hn, Nat.le_of_ble_eq_true hq⟩ | exact ⟨⟨Nat.le_of_ble_eq_true hn, Nat.le_of_ble_eq_true hq⟩, hrc⟩), h2]
    rfl
theorem r_callTL {M n : Nat} {args st2 : List Value} {F : Option (Int64)} {K : Int64 → Option α} (hc : cd pc = op_callT M n) (hp : pc + 3 = pc2) (ha : (st.take n).reverse = args) (hd : st.drop n = st2) (hn : Nat.ble n st.length = true) (hq : Nat.ble (st2.map fun v => v.category).sum 16 = true) (hF : jr (pJ s g) F (call M args (gm_h s g))) (k : ∀ v, jr e (K v) (jm_sup cd call (pc2, L, .long v :: st2, gm_h s g))) : jr e (jb1 F K) (jm_sup cd call (pc, L, st, gm_h s g)) := by
  subst ha hd
  intro a h1
  cases hF2 : F with
  | none => rw [hF2] at h1; cases h1
  | some q =>
    rw [hF2] at h1
    have h2 : call M (st.take n).reverse (gm_h s g) = some (some (.long q), gm_h s g) := hF _ hF2
    refine r_go (st2 := .long q :: st.drop n) (h2 := gm_h s g) ?_ (k q) a h1
    rw [hc, ← hp]
    unfold op_callT
    rw [if_pos (by first | exact ⟨Nat.le_of_ble_eq_true hn, Nat.le_of_ble_eq_true hq⟩ | exact ⟨⟨Nat.le_of_ble_eq_true hn, Nat.le_of_ble_eq_true hq⟩, hrc⟩), h2]
    rfl
theorem r_callVI {M n ci : Nat} {args st2 : List Value} {F : Option (Int × gm_T)} {K : Int → gm_T → Option α} (hc : cd pc = op_callV ci M n) (hp : pc + 3 = pc2) (ha : (st.take n).reverse = args) (hd : st.drop n = st2) (hn : Nat.ble n st.length = true) (hq : Nat.ble (st2.map fun v => v.category).sum 8 = true) (hrc : jm_rc (gm_h s g) ci (st.take n).getLast? = true) (hF : jr (eI s) F (call M args (gm_h s g))) (k : ∀ v g2, jr e (K v g2) (jm_sup cd call (pc2, L, gv v :: st2, gm_h s g2))) : jr e (jb2 F K) (jm_sup cd call (pc, L, st, gm_h s g)) := by
  subst ha hd
  intro a h1
  cases hF2 : F with
  | none => rw [hF2] at h1; cases h1
  | some q =>
    rw [hF2] at h1
    have h2 : call M (st.take n).reverse (gm_h s g) = some (some (gv q.1), gm_h s q.2) := hF _ hF2
    refine r_go (st2 := gv q.1 :: st.drop n) (h2 := gm_h s q.2) ?_ (k q.1 q.2) a h1
    rw [hc, ← hp]
    unfold op_callV
    rw [if_pos (by first | exact ⟨Nat.le_of_ble_eq_true hn, Nat.le_of_ble_eq_true hq⟩ | exact ⟨⟨Nat.le_of_ble_eq_true hn, Nat.le_of_ble_eq_true hq⟩, hrc⟩), h2]
    rfl
theorem r_callVJ {M n ci : Nat} {args st2 : List Value} {F : Option (Int64 × gm_T)} {K : Int64 → gm_T → Option α} (hc : cd pc = op_callV ci M n) (hp : pc + 3 = pc2) (ha : (st.take n).reverse = args) (hd : st.drop n = st2) (hn : Nat.ble n st.length = true) (hq : Nat.ble (st2.map fun v => v.category).sum 8 = true) (hrc : jm_rc (gm_h s g) ci (st.take n).getLast? = true) (hF : jr (eJ s) F (call M args (gm_h s g))) (k : ∀ v g2, jr e (K v g2) (jm_sup cd call (pc2, L, .long v :: st2, gm_h s g2))) : jr e (jb2 F K) (jm_sup cd call (pc, L, st, gm_h s g)) := by
  subst ha hd
  intro a h1
  cases hF2 : F with
  | none => rw [hF2] at h1; cases h1
  | some q =>
    rw [hF2] at h1
    have h2 : call M (st.take n).reverse (gm_h s g) = some (some (.long q.1), gm_h s q.2) := hF _ hF2
    refine r_go (st2 := .long q.1 :: st.drop n) (h2 := gm_h s q.2) ?_ (k q.1 q.2) a h1
    rw [hc, ← hp]
    unfold op_callV
    rw [if_pos (by first | exact ⟨Nat.le_of_ble_eq_true hn, Nat.le_of_ble_eq_true hq⟩ | exact ⟨⟨Nat.le_of_ble_eq_true hn, Nat.le_of_ble_eq_true hq⟩, hrc⟩), h2]
    rfl
theorem r_callVV {M n ci : Nat} {args st2 : List Value} {F : Option (gm_T)} {K : gm_T → Option α} (hc : cd pc = op_callV ci M n) (hp : pc + 3 = pc2) (ha : (st.take n).reverse = args) (hd : st.drop n = st2) (hn : Nat.ble n st.length = true) (hq : Nat.ble (st2.map fun v => v.category).sum 8 = true) (hrc : jm_rc (gm_h s g) ci (st.take n).getLast? = true) (hF : jr (eV s) F (call M args (gm_h s g))) (k : ∀ g2, jr e (K g2) (jm_sup cd call (pc2, L, st2, gm_h s g2))) : jr e (jb1 F K) (jm_sup cd call (pc, L, st, gm_h s g)) := by
  subst ha hd
  intro a h1
  cases hF2 : F with
  | none => rw [hF2] at h1; cases h1
  | some q =>
    rw [hF2] at h1
    have h2 : call M (st.take n).reverse (gm_h s g) = some (none, gm_h s q) := hF _ hF2
    refine r_go (st2 := st.drop n) (h2 := gm_h s q) ?_ (k q) a h1
    rw [hc, ← hp]
    unfold op_callV
    rw [if_pos (by first | exact ⟨Nat.le_of_ble_eq_true hn, Nat.le_of_ble_eq_true hq⟩ | exact ⟨⟨Nat.le_of_ble_eq_true hn, Nat.le_of_ble_eq_true hq⟩, hrc⟩), h2]
    rfl
theorem r_callVP {M n ci : Nat} {args st2 : List Value} {F : Option (Int)} {K : Int → Option α} (hc : cd pc = op_callV ci M n) (hp : pc + 3 = pc2) (ha : (st.take n).reverse = args) (hd : st.drop n = st2) (hn : Nat.ble n st.length = true) (hq : Nat.ble (st2.map fun v => v.category).sum 8 = true) (hrc : jm_rc (gm_h s g) ci (st.take n).getLast? = true) (hF : jr (pI s g) F (call M args (gm_h s g))) (k : ∀ v, jr e (K v) (jm_sup cd call (pc2, L, gv v :: st2, gm_h s g))) : jr e (jb1 F K) (jm_sup cd call (pc, L, st, gm_h s g)) := by
  subst ha hd
  intro a h1
  cases hF2 : F with
  | none => rw [hF2] at h1; cases h1
  | some q =>
    rw [hF2] at h1
    have h2 : call M (st.take n).reverse (gm_h s g) = some (some (gv q), gm_h s g) := hF _ hF2
    refine r_go (st2 := gv q :: st.drop n) (h2 := gm_h s g) ?_ (k q) a h1
    rw [hc, ← hp]
    unfold op_callV
    rw [if_pos (by first | exact ⟨Nat.le_of_ble_eq_true hn, Nat.le_of_ble_eq_true hq⟩ | exact ⟨⟨Nat.le_of_ble_eq_true hn, Nat.le_of_ble_eq_true hq⟩, hrc⟩), h2]
    rfl
theorem r_callVL {M n ci : Nat} {args st2 : List Value} {F : Option (Int64)} {K : Int64 → Option α} (hc : cd pc = op_callV ci M n) (hp : pc + 3 = pc2) (ha : (st.take n).reverse = args) (hd : st.drop n = st2) (hn : Nat.ble n st.length = true) (hq : Nat.ble (st2.map fun v => v.category).sum 8 = true) (hrc : jm_rc (gm_h s g) ci (st.take n).getLast? = true) (hF : jr (pJ s g) F (call M args (gm_h s g))) (k : ∀ v, jr e (K v) (jm_sup cd call (pc2, L, .long v :: st2, gm_h s g))) : jr e (jb1 F K) (jm_sup cd call (pc, L, st, gm_h s g)) := by
  subst ha hd
  intro a h1
  cases hF2 : F with
  | none => rw [hF2] at h1; cases h1
  | some q =>
    rw [hF2] at h1
    have h2 : call M (st.take n).reverse (gm_h s g) = some (some (.long q), gm_h s g) := hF _ hF2
    refine r_go (st2 := .long q :: st.drop n) (h2 := gm_h s g) ?_ (k q) a h1
    rw [hc, ← hp]
    unfold op_callV
    rw [if_pos (by first | exact ⟨Nat.le_of_ble_eq_true hn, Nat.le_of_ble_eq_true hq⟩ | exact ⟨⟨Nat.le_of_ble_eq_true hn, Nat.le_of_ble_eq_true hq⟩, hrc⟩), h2]
    rfl
theorem rc_of {ci r : Nat} (ht : r < s.1 ∧ s.2.2.1 r = ci) : jm_rc (gm_h s g) ci (some (.ref r)) = true := by
  unfold jm_rc
  dsimp only
  rw [Bool.and_eq_true]
  exact ⟨decide_eq_true ht.1, decide_eq_true ht.2⟩
theorem r_b1 {α1 : Type} {D : Option (α1)} {K : α1 → Option α} {R1 : α1 → Option jm_R → Prop} {c : Option jm_R} (hD : jr R1 D c) (hK : ∀ a1 c2, R1 a1 c2 → jr e (K a1) c2) : jr e (jb1 D K) c := fun a h1 => by
  cases hD2 : D with
  | none => rw [hD2] at h1; cases h1
  | some q => rw [hD2] at h1; exact hK q c (hD q hD2) a h1
theorem r_c1 {α1 ρ : Type} {D : Option ((α1) ⊕ ρ)} {kr : ρ → Option α} {K : α1 → Option α} {R1 : (α1) ⊕ ρ → Option jm_R → Prop} {c : Option jm_R} (hD : jr R1 D c) (hr : ∀ r c2, R1 (.inr r) c2 → jr e (kr r) c2) (hK : ∀ a1 c2, R1 (.inl a1) c2 → jr e (K a1) c2) : jr e (jc1 D kr K) c := fun a h1 => by
  cases hD2 : D with
  | none => rw [hD2] at h1; cases h1
  | some q =>
    rw [hD2] at h1
    cases q with
    | inl q => exact hK q c (hD _ hD2) a h1
    | inr r => exact hr r c (hD _ hD2) a h1
theorem r_b2 {α1 α2 : Type} {D : Option (α1 × α2)} {K : α1 → α2 → Option α} {R1 : (α1 × α2) → Option jm_R → Prop} {c : Option jm_R} (hD : jr R1 D c) (hK : ∀ a1 a2 c2, R1 (a1, a2) c2 → jr e (K a1 a2) c2) : jr e (jb2 D K) c := fun a h1 => by
  cases hD2 : D with
  | none => rw [hD2] at h1; cases h1
  | some q => rw [hD2] at h1; exact hK q.1 q.2 c (hD q hD2) a h1
theorem r_c2 {α1 α2 ρ : Type} {D : Option ((α1 × α2) ⊕ ρ)} {kr : ρ → Option α} {K : α1 → α2 → Option α} {R1 : (α1 × α2) ⊕ ρ → Option jm_R → Prop} {c : Option jm_R} (hD : jr R1 D c) (hr : ∀ r c2, R1 (.inr r) c2 → jr e (kr r) c2) (hK : ∀ a1 a2 c2, R1 (.inl (a1, a2)) c2 → jr e (K a1 a2) c2) : jr e (jc2 D kr K) c := fun a h1 => by
  cases hD2 : D with
  | none => rw [hD2] at h1; cases h1
  | some q =>
    rw [hD2] at h1
    cases q with
    | inl q => exact hK q.1 q.2 c (hD _ hD2) a h1
    | inr r => exact hr r c (hD _ hD2) a h1
theorem r_b3 {α1 α2 α3 : Type} {D : Option (α1 × α2 × α3)} {K : α1 → α2 → α3 → Option α} {R1 : (α1 × α2 × α3) → Option jm_R → Prop} {c : Option jm_R} (hD : jr R1 D c) (hK : ∀ a1 a2 a3 c2, R1 (a1, a2, a3) c2 → jr e (K a1 a2 a3) c2) : jr e (jb3 D K) c := fun a h1 => by
  cases hD2 : D with
  | none => rw [hD2] at h1; cases h1
  | some q => rw [hD2] at h1; exact hK q.1 q.2.1 q.2.2 c (hD q hD2) a h1
theorem r_c3 {α1 α2 α3 ρ : Type} {D : Option ((α1 × α2 × α3) ⊕ ρ)} {kr : ρ → Option α} {K : α1 → α2 → α3 → Option α} {R1 : (α1 × α2 × α3) ⊕ ρ → Option jm_R → Prop} {c : Option jm_R} (hD : jr R1 D c) (hr : ∀ r c2, R1 (.inr r) c2 → jr e (kr r) c2) (hK : ∀ a1 a2 a3 c2, R1 (.inl (a1, a2, a3)) c2 → jr e (K a1 a2 a3) c2) : jr e (jc3 D kr K) c := fun a h1 => by
  cases hD2 : D with
  | none => rw [hD2] at h1; cases h1
  | some q =>
    rw [hD2] at h1
    cases q with
    | inl q => exact hK q.1 q.2.1 q.2.2 c (hD _ hD2) a h1
    | inr r => exact hr r c (hD _ hD2) a h1
theorem r_b4 {α1 α2 α3 α4 : Type} {D : Option (α1 × α2 × α3 × α4)} {K : α1 → α2 → α3 → α4 → Option α} {R1 : (α1 × α2 × α3 × α4) → Option jm_R → Prop} {c : Option jm_R} (hD : jr R1 D c) (hK : ∀ a1 a2 a3 a4 c2, R1 (a1, a2, a3, a4) c2 → jr e (K a1 a2 a3 a4) c2) : jr e (jb4 D K) c := fun a h1 => by
  cases hD2 : D with
  | none => rw [hD2] at h1; cases h1
  | some q => rw [hD2] at h1; exact hK q.1 q.2.1 q.2.2.1 q.2.2.2 c (hD q hD2) a h1
theorem r_c4 {α1 α2 α3 α4 ρ : Type} {D : Option ((α1 × α2 × α3 × α4) ⊕ ρ)} {kr : ρ → Option α} {K : α1 → α2 → α3 → α4 → Option α} {R1 : (α1 × α2 × α3 × α4) ⊕ ρ → Option jm_R → Prop} {c : Option jm_R} (hD : jr R1 D c) (hr : ∀ r c2, R1 (.inr r) c2 → jr e (kr r) c2) (hK : ∀ a1 a2 a3 a4 c2, R1 (.inl (a1, a2, a3, a4)) c2 → jr e (K a1 a2 a3 a4) c2) : jr e (jc4 D kr K) c := fun a h1 => by
  cases hD2 : D with
  | none => rw [hD2] at h1; cases h1
  | some q =>
    rw [hD2] at h1
    cases q with
    | inl q => exact hK q.1 q.2.1 q.2.2.1 q.2.2.2 c (hD _ hD2) a h1
    | inr r => exact hr r c (hD _ hD2) a h1
theorem r_b5 {α1 α2 α3 α4 α5 : Type} {D : Option (α1 × α2 × α3 × α4 × α5)} {K : α1 → α2 → α3 → α4 → α5 → Option α} {R1 : (α1 × α2 × α3 × α4 × α5) → Option jm_R → Prop} {c : Option jm_R} (hD : jr R1 D c) (hK : ∀ a1 a2 a3 a4 a5 c2, R1 (a1, a2, a3, a4, a5) c2 → jr e (K a1 a2 a3 a4 a5) c2) : jr e (jb5 D K) c := fun a h1 => by
  cases hD2 : D with
  | none => rw [hD2] at h1; cases h1
  | some q => rw [hD2] at h1; exact hK q.1 q.2.1 q.2.2.1 q.2.2.2.1 q.2.2.2.2 c (hD q hD2) a h1
theorem r_c5 {α1 α2 α3 α4 α5 ρ : Type} {D : Option ((α1 × α2 × α3 × α4 × α5) ⊕ ρ)} {kr : ρ → Option α} {K : α1 → α2 → α3 → α4 → α5 → Option α} {R1 : (α1 × α2 × α3 × α4 × α5) ⊕ ρ → Option jm_R → Prop} {c : Option jm_R} (hD : jr R1 D c) (hr : ∀ r c2, R1 (.inr r) c2 → jr e (kr r) c2) (hK : ∀ a1 a2 a3 a4 a5 c2, R1 (.inl (a1, a2, a3, a4, a5)) c2 → jr e (K a1 a2 a3 a4 a5) c2) : jr e (jc5 D kr K) c := fun a h1 => by
  cases hD2 : D with
  | none => rw [hD2] at h1; cases h1
  | some q =>
    rw [hD2] at h1
    cases q with
    | inl q => exact hK q.1 q.2.1 q.2.2.1 q.2.2.2.1 q.2.2.2.2 c (hD _ hD2) a h1
    | inr r => exact hr r c (hD _ hD2) a h1
theorem r_b6 {α1 α2 α3 α4 α5 α6 : Type} {D : Option (α1 × α2 × α3 × α4 × α5 × α6)} {K : α1 → α2 → α3 → α4 → α5 → α6 → Option α} {R1 : (α1 × α2 × α3 × α4 × α5 × α6) → Option jm_R → Prop} {c : Option jm_R} (hD : jr R1 D c) (hK : ∀ a1 a2 a3 a4 a5 a6 c2, R1 (a1, a2, a3, a4, a5, a6) c2 → jr e (K a1 a2 a3 a4 a5 a6) c2) : jr e (jb6 D K) c := fun a h1 => by
  cases hD2 : D with
  | none => rw [hD2] at h1; cases h1
  | some q => rw [hD2] at h1; exact hK q.1 q.2.1 q.2.2.1 q.2.2.2.1 q.2.2.2.2.1 q.2.2.2.2.2 c (hD q hD2) a h1
theorem r_c6 {α1 α2 α3 α4 α5 α6 ρ : Type} {D : Option ((α1 × α2 × α3 × α4 × α5 × α6) ⊕ ρ)} {kr : ρ → Option α} {K : α1 → α2 → α3 → α4 → α5 → α6 → Option α} {R1 : (α1 × α2 × α3 × α4 × α5 × α6) ⊕ ρ → Option jm_R → Prop} {c : Option jm_R} (hD : jr R1 D c) (hr : ∀ r c2, R1 (.inr r) c2 → jr e (kr r) c2) (hK : ∀ a1 a2 a3 a4 a5 a6 c2, R1 (.inl (a1, a2, a3, a4, a5, a6)) c2 → jr e (K a1 a2 a3 a4 a5 a6) c2) : jr e (jc6 D kr K) c := fun a h1 => by
  cases hD2 : D with
  | none => rw [hD2] at h1; cases h1
  | some q =>
    rw [hD2] at h1
    cases q with
    | inl q => exact hK q.1 q.2.1 q.2.2.1 q.2.2.2.1 q.2.2.2.2.1 q.2.2.2.2.2 c (hD _ hD2) a h1
    | inr r => exact hr r c (hD _ hD2) a h1
theorem r_b7 {α1 α2 α3 α4 α5 α6 α7 : Type} {D : Option (α1 × α2 × α3 × α4 × α5 × α6 × α7)} {K : α1 → α2 → α3 → α4 → α5 → α6 → α7 → Option α} {R1 : (α1 × α2 × α3 × α4 × α5 × α6 × α7) → Option jm_R → Prop} {c : Option jm_R} (hD : jr R1 D c) (hK : ∀ a1 a2 a3 a4 a5 a6 a7 c2, R1 (a1, a2, a3, a4, a5, a6, a7) c2 → jr e (K a1 a2 a3 a4 a5 a6 a7) c2) : jr e (jb7 D K) c := fun a h1 => by
  cases hD2 : D with
  | none => rw [hD2] at h1; cases h1
  | some q => rw [hD2] at h1; exact hK q.1 q.2.1 q.2.2.1 q.2.2.2.1 q.2.2.2.2.1 q.2.2.2.2.2.1 q.2.2.2.2.2.2 c (hD q hD2) a h1
theorem r_c7 {α1 α2 α3 α4 α5 α6 α7 ρ : Type} {D : Option ((α1 × α2 × α3 × α4 × α5 × α6 × α7) ⊕ ρ)} {kr : ρ → Option α} {K : α1 → α2 → α3 → α4 → α5 → α6 → α7 → Option α} {R1 : (α1 × α2 × α3 × α4 × α5 × α6 × α7) ⊕ ρ → Option jm_R → Prop} {c : Option jm_R} (hD : jr R1 D c) (hr : ∀ r c2, R1 (.inr r) c2 → jr e (kr r) c2) (hK : ∀ a1 a2 a3 a4 a5 a6 a7 c2, R1 (.inl (a1, a2, a3, a4, a5, a6, a7)) c2 → jr e (K a1 a2 a3 a4 a5 a6 a7) c2) : jr e (jc7 D kr K) c := fun a h1 => by
  cases hD2 : D with
  | none => rw [hD2] at h1; cases h1
  | some q =>
    rw [hD2] at h1
    cases q with
    | inl q => exact hK q.1 q.2.1 q.2.2.1 q.2.2.2.1 q.2.2.2.2.1 q.2.2.2.2.2.1 q.2.2.2.2.2.2 c (hD _ hD2) a h1
    | inr r => exact hr r c (hD _ hD2) a h1
def lC (x y : Int64) : Int := (lg_cmp x y).toInt
theorem r_lcmp {x y : Int64} (hc : cd pc = op_lcmp) (hp : pc + 1 = pc2) (k : jr e A (jm_sup cd call (pc2, L, gv (lC x y) :: st, h))) : jr e A (jm_sup cd call (pc, L, .long y :: .long x :: st, h)) := r_go (by
  rw [hc, ← hp]
  show jm_go _ _ _ _ = some (.inl (pc + 1, L, gv (lC x y) :: st, h))
  unfold gv lC
  rw [Int32.ofInt_toInt]
  rfl) k
def zmax (x y : Int) : Int := if x < y then y else x
def zmin (x y : Int) : Int := if y < x then y else x
def zabs (x : Int) : Int := if 0 ≤ x then x else -x
theorem r_mmax {x y : Int} (hc : cd pc = op_mmax) (hp : pc + 3 = pc2) (hq : Nat.ble (st.map fun v => v.category).sum 8 = true) (hx : rg x) (hy : rg y) (k : jr e A (jm_sup cd call (pc2, L, gv (zmax x y) :: st, h))) : jr e A (jm_sup cd call (pc, L, gv y :: gv x :: st, h)) := r_go (by
  rw [hc, ← hp]
  unfold op_mmax
  dsimp only
  rw [if_pos (Nat.le_of_ble_eq_true hq)]
  unfold gv zmax
  by_cases h1 : x < y
  · rw [if_pos h1, if_pos ((rg_lt hx hy).mpr h1)]; rfl
  · rw [if_neg h1, if_neg (fun q => h1 ((rg_lt hx hy).mp q))]; rfl) k
theorem r_mmin {x y : Int} (hc : cd pc = op_mmin) (hp : pc + 3 = pc2) (hq : Nat.ble (st.map fun v => v.category).sum 8 = true) (hx : rg x) (hy : rg y) (k : jr e A (jm_sup cd call (pc2, L, gv (zmin x y) :: st, h))) : jr e A (jm_sup cd call (pc, L, gv y :: gv x :: st, h)) := r_go (by
  rw [hc, ← hp]
  unfold op_mmin
  dsimp only
  rw [if_pos (Nat.le_of_ble_eq_true hq)]
  unfold gv zmin
  by_cases h1 : y < x
  · rw [if_pos h1, if_pos ((rg_lt hy hx).mpr h1)]; rfl
  · rw [if_neg h1, if_neg (fun q => h1 ((rg_lt hy hx).mp q))]; rfl) k
theorem r_mabs {x : Int} (hc : cd pc = op_mabs) (hp : pc + 3 = pc2) (hq : Nat.ble (st.map fun v => v.category).sum 8 = true) (hx : rg x) (k : jr e A (jm_sup cd call (pc2, L, gv (zabs x) :: st, h))) : jr e A (jm_sup cd call (pc, L, gv x :: st, h)) := r_go (by
  rw [hc, ← hp]
  unfold op_mabs
  dsimp only
  rw [if_pos (Nat.le_of_ble_eq_true hq)]
  unfold gv zabs
  by_cases h1 : 0 ≤ x
  · rw [if_pos h1, if_pos (by rw [rg_0]; exact (rg_le rg_z hx).mpr h1)]; rfl
  · rw [if_neg h1, if_neg (fun q => h1 ((rg_le rg_z hx).mp (by rw [rg_0] at q; exact q))), rg_0, ← Int32.ofInt_sub, Int.zero_sub]; rfl) k
theorem jr_ite {c : Option jm_R} {G : Prop} [inst : Decidable G] (h1 : G → jr e A c) (h2 : ¬ G → jr e B c) : jr e (if G then A else B) c := by
  split
  · rename_i h; exact h1 h
  · rename_i h; exact h2 h
theorem sw_yes {dt t2 : Nat} {x kk : Int} {v : Int32} {ps : List (Int32 × Nat)} (hv : v = Int32.ofInt kk) (hx : x = kk) : jm_sw dt (Int32.ofInt x) ((v, t2) :: ps) = t2 := by
  subst hx hv
  exact if_pos rfl
theorem sw_no {dt t2 t3 : Nat} {x kk : Int} {v : Int32} {ps : List (Int32 × Nat)} (hv : v = Int32.ofInt kk) (hx : rg x) (hk : rg kk) (hn : ¬ x = kk) (h : jm_sw dt (Int32.ofInt x) ps = t3) : jm_sw dt (Int32.ofInt x) ((v, t2) :: ps) = t3 := by
  subst hv
  rw [← h]
  exact if_neg (fun q => hn ((rg_eq hx hk).mp q))
theorem bn_lt {n m : Nat} {i : Int} (hs : gm_sh s n m) (h : 0 ≤ i ∧ i < (n : Int)) : i.toNat < m := by
  have := hs.1.1
  omega
theorem jm_st1j {i : Nat} {v : Value} {j : Option Value} (hj : jm_lg j = false) (h1 : L.getD (i - 1) none = j) (hl : (Nat.blt i L.length = true ∧ L.set i (some v) = L2)) : jm_st1 L i v = some L2 := by
  unfold jm_st1
  rw [if_pos ⟨Nat.le_of_ble_eq_true hl.1, Or.inr (by rw [h1]; exact hj)⟩, hl.2]
theorem jm_st2j {i : Nat} {v : Value} {j : Option Value} (hj : jm_lg j = false) (h1 : L.getD (i - 1) none = j) (hl : (Nat.blt (i + 1) L.length = true ∧ (L.set i (some v)).set (i + 1) none = L2)) : jm_st2 L i v = some L2 := by
  unfold jm_st2
  rw [if_pos ⟨Nat.le_of_ble_eq_true hl.1, Or.inr (by rw [h1]; exact hj)⟩, hl.2]
theorem r_sw {x : Int} {dt : Nat} {ps : List (Int32 × Nat)} (hc : cd pc = op_sw dt ps) (hw : jm_sw dt (Int32.ofInt x) ps = pc2) (k : jr e A (jm_sup cd call (pc2, L, st, h))) : jr e A (jm_sup cd call (pc, L, gv x :: st, h)) := r_go (by
  rw [hc, ← hw]
  rfl) k
theorem r_ent {M d : Nat} {cd : Nat → jm_O} {as : List Value} {h : jm_H} {n : Nat} {L0 : jm_Lo} (hcd : jm_CD M = cd) (hn : km_n M = n) (hq : Nat.ble (as.flatMap fun v => if v.category = 2 then [some v, (none : Option Value)] else [some v]).length n = true) (hL : jm_ent n as = L0) (k : jr e A (jm_sup cd (jm_cl jm_CD km_n d) (0, L0, [], h))) : jr e A (jm_cl jm_CD km_n (d + 1) M as h) := by
  unfold jm_cl
  rw [hn, hL, hcd, if_pos (Nat.le_of_ble_eq_true hq)]
  exact k
end
