/-! The making of a bit: eight new cells. -/
def bw_s (s : gm_S) (tag len sl : Nat) : gm_S := (s.1 + 1, s.2.1 + sl, (fun a => if a = s.1 then tag else s.2.2.1 a), (fun a => if a = s.1 then len else s.2.2.2.1 a), (fun a => if a = s.1 then (fun _ => none) else s.2.2.2.2 a))
def bw_g (g : gm_T) (r : Nat) (fi : Nat → Int) : gm_T := ((fun a => if a = r then fi else g.1 a), (fun a => if a = r then (fun _ => 0) else g.2 a))
def bw_a (s : gm_S) (r k v : Nat) : gm_S := (s.1, s.2.1, s.2.2.1, s.2.2.2.1, jm_u s.2.2.2.2 r k (some v))
theorem bw_al {s : gm_S} {g : gm_T} {tag len sl : Nat} {fi : Nat → Int} : jm_al (gm_h s g) tag len sl (fun k => Int32.ofInt (fi k)) = gm_h (bw_s s tag len sl) (bw_g g s.1 fi) := by
  have h : (fun a => if a = s.1 then (fun k => Int32.ofInt (fi k)) else fun k => Int32.ofInt (g.1 a k)) = (fun a k => Int32.ofInt ((if a = s.1 then fi else g.1 a) k)) := by
    funext a k
    by_cases q : a = s.1
    · rw [if_pos q, if_pos q]
    · rw [if_neg q, if_neg q]
  exact congrArg (fun z : Nat → Nat → Int32 => ((s.1 + 1, s.2.1 + sl, (fun a => if a = s.1 then tag else s.2.2.1 a), (fun a => if a = s.1 then len else s.2.2.2.1 a), z, (fun a => if a = s.1 then (fun _ => (0 : Int64)) else g.2 a), (fun a => if a = s.1 then (fun _ => (none : Option Nat)) else s.2.2.2.2 a)) : jm_H)) h
theorem bw_al0 {s : gm_S} {g : gm_T} {tag len sl : Nat} : jm_al (gm_h s g) tag len sl (fun _ => 0) = gm_h (bw_s s tag len sl) (bw_g g s.1 (fun _ => 0)) := by
  rw [← bw_al]
  exact congrArg (jm_al (gm_h s g) tag len sl) (funext fun _ => rg_0)
/-- how many slots the first j cells of a bit take -/
def bt_Z (j : Nat) : Nat := [0, 14, 174, 182, 190, 198, 203, 208, 213].getD j 0
def bw_p (s : gm_S) (n j Z : Nat) : Prop := gm_sh s n n ∧ (s.1 = bA n + j ∧ s.2.1 = Z + bt_Z j) ∧ (∀ c, c < j → s.2.2.1 (bA n + c) = bt_T c ∧ s.2.2.2.1 (bA n + c) = bt_L c) ∧ ∀ k, bt_A k ≠ 0 → bt_A k < j → s.2.2.2.2 (bA n) k = some (bA n + bt_A k)
def bw_F (Z : Nat) (s : gm_S) (m : Nat) : Prop := gm_sh s m m ∧ s.1 = bA m ∧ s.2.1 = Z + 213 * m
def bw_e (Z : Nat) (q : Int × gm_T) (c : Option jm_R) : Prop := ∃ s m, bw_F Z s m ∧ gm_I q.2 10 1 = (m : Int) ∧ c = some (some (gv q.1), gm_h s q.2)
theorem st_R0 {a : Nat} (h : 111 ≤ a) : st_R a = [] := by
  unfold st_R
  split <;> first | (exfalso; omega) | rfl
theorem st_lt {a k : Nat} (h : st_A a k ≠ 0) : a < 111 := by
  rcases Nat.lt_or_ge a 111 with q | q
  · exact q
  · exact absurd (by unfold st_A; rw [st_R0 q]; rfl) h
theorem bt_A14 {k : Nat} (h : bt_A k ≠ 0) : k < 14 := by
  rcases Nat.lt_or_ge k 14 with q | q
  · exact q
  · exact absurd (by unfold bt_A; rw [List.getD_eq_getElem?_getD, List.getElem?_eq_none (by exact q)]; rfl) h
theorem bt_A8 {k : Nat} : bt_A k < 8 := by
  by_cases h : bt_A k = 0
  · omega
  · exact (by decide : ∀ k, k < 14 → bt_A k < 8) k (bt_A14 h)
theorem bt_Ai {k f : Nat} (h : bt_A k ≠ 0) (e : bt_A k = bt_A f) : k = f := (by decide : ∀ k, k < 14 → ∀ f, f < 14 → bt_A k ≠ 0 → bt_A k = bt_A f → k = f) k (bt_A14 h) f (bt_A14 (by rw [← e]; exact h)) h e
theorem sh_ext {s t : gm_S} {n : Nat} (hs : gm_sh s n n) (h1 : s.1 ≤ t.1) (hT : ∀ a, a < bA n → t.2.2.1 a = s.2.2.1 a) (hL : ∀ a, a < bA n → t.2.2.2.1 a = s.2.2.2.1 a) (hA : ∀ a k, a < bA n → t.2.2.2.2 a k = s.2.2.2.2 a k) : gm_sh t n n := by
  obtain ⟨⟨a1, a2, a3⟩, b, c, d, e, f⟩ := hs
  have hb : ∀ a, a < 111 → a < bA n := fun a h => by unfold bA; omega
  have hc : ∀ i, i < n → ∀ c, c < 8 → bA i + c < bA n := fun i h c h' => by unfold bA; omega
  refine ⟨⟨a1, a2, Nat.le_trans a3 h1⟩, fun a h => ?_, fun a k h => ?_, fun i h c h' => ?_, fun i h k h' => ?_, fun i h => ?_⟩
  · rw [hT a (hb a h), hL a (hb a h)]; exact b a h
  · rw [hA a k (hb a (st_lt h))]; exact c a k h
  · rw [hT _ (hc i h c h'), hL _ (hc i h c h')]; exact d i h c h'
  · rw [hA (bA i) k (hc i h 0 (by omega))]; exact e i h k h'
  · rw [hA 11 i (hb 11 (by omega))]; exact f i h
theorem bw_p1 {Z : Nat} {s : gm_S} {n : Nat} (h : bw_F Z s n) : bw_p (bw_s s 1 0 14) n 1 (Z + 213 * n) := by
  obtain ⟨hs, h1, h2⟩ := h
  have ne : ∀ a, a < bA n → ¬ a = s.1 := fun a q => by omega
  refine ⟨sh_ext hs (Nat.le_succ _) (fun a q => if_neg (ne a q)) (fun a q => if_neg (ne a q)) (fun a k q => congrFun (if_neg (ne a q)) k), ⟨by show s.1 + 1 = _; omega, by show s.2.1 + 14 = _ + 14; omega⟩, fun c hc => ?_, fun k hk hk1 => by omega⟩
  have c0 : c = 0 := by omega
  subst c0
  exact ⟨if_pos h1.symm, if_pos h1.symm⟩
theorem bw_p2 {s : gm_S} {n j Z f sl : Nat} (h : bw_p s n j Z) (hj : Nat.blt 0 j = true) (h8 : Nat.blt j 8 = true) (hf : bt_A f = j) (hz : bt_Z j + sl = bt_Z (j + 1)) : bw_p (bw_a (bw_s s (bt_T j) (bt_L j) sl) (bA n) f (bA n + j)) n (j + 1) Z := by
  obtain ⟨hs, ⟨h1, h2⟩, h3, h4⟩ := h
  have hj0 : 0 < j := Nat.le_of_ble_eq_true hj
  have ne : ∀ a, a < bA n + j → ¬ a = s.1 := fun a q => by omega
  have hA : ∀ a k, ¬ a = bA n → ¬ a = s.1 → (bw_a (bw_s s (bt_T j) (bt_L j) sl) (bA n) f (bA n + j)).2.2.2.2 a k = s.2.2.2.2 a k := fun a k q1 q2 => by
    show jm_u _ _ _ _ a k = _
    unfold jm_u
    rw [if_neg q1]
    exact congrFun (if_neg q2) k
  refine ⟨sh_ext hs (Nat.le_succ _) (fun a q => if_neg (ne a (by omega))) (fun a q => if_neg (ne a (by omega))) (fun a k q => hA a k (by omega) (ne a (by omega))), ⟨by show s.1 + 1 = _; omega, by show s.2.1 + sl = _; omega⟩, fun c hc => ?_, fun k hk hk1 => ?_⟩
  · by_cases hcj : c = j
    · subst hcj
      exact ⟨if_pos h1.symm, if_pos h1.symm⟩
    · have q := ne (bA n + c) (by omega)
      have w := h3 c (by omega)
      exact ⟨(if_neg q).trans w.1, (if_neg q).trans w.2⟩
  · show jm_u _ _ _ _ (bA n) k = _
    unfold jm_u
    rw [if_pos rfl]
    by_cases hkf : k = f
    · rw [if_pos hkf, hkf, hf]
    · rw [if_neg hkf]
      have q1 : ¬ bt_A k = j := fun q => hkf (bt_Ai hk (by rw [q, hf]))
      exact (congrFun (if_neg (ne (bA n) (by omega))) k).trans (h4 k hk (by omega))
theorem bw_p8 {s : gm_S} {n Z : Nat} (h : bw_p s n 8 Z) : gm_sh s n (n + 1) := by
  obtain ⟨⟨⟨a1, a2, a3⟩, b, c, d, e, f⟩, ⟨h1, h2⟩, h3, h4⟩ := h
  refine ⟨⟨Nat.le_succ n, a2, by rw [h1]; unfold bA; omega⟩, b, c, fun i h c h' => ?_, fun i h k h' => ?_, f⟩
  · by_cases q : i = n
    · subst q; exact h3 c h'
    · exact d i (by omega) c h'
  · by_cases q : i = n
    · subst q; exact h4 k h' bt_A8
    · exact e i (by omega) k h'
theorem bw_p9 {s : gm_S} {n Z : Nat} (h : bw_p s n 8 (Z + 213 * n)) (hn : n < 30) : bw_F Z (bw_a s 11 n (bA n)) (n + 1) := by
  have h0 := bw_p8 h
  obtain ⟨⟨a1, a2, a3⟩, b, c, d, e, f⟩ := h0
  obtain ⟨_, ⟨h1, h2⟩, _, _⟩ := h
  have hA : ∀ a k, ¬ (a = 11 ∧ k = n) → (bw_a s 11 n (bA n)).2.2.2.2 a k = s.2.2.2.2 a k := fun a k q => by
    show jm_u _ _ _ _ a k = _
    unfold jm_u
    by_cases q1 : a = 11
    · rw [if_pos q1, if_neg (fun z => q ⟨q1, z⟩)]
    · rw [if_neg q1]
  have hR : st_A 11 n = 0 := rfl
  refine ⟨⟨⟨Nat.le_refl _, hn, a3⟩, b, fun a k q => ?_, d, fun i hi k q => ?_, fun i hi => ?_⟩, by show s.1 = _; rw [h1]; unfold bA; omega, by
    have z : bt_Z 8 = 213 := rfl
    show s.2.1 = _
    rw [h2, z]; omega⟩
  · rw [hA a k (fun z => q (by rw [z.1, z.2, hR]))]; exact c a k q
  · rw [hA _ k (fun z => by have := z.1; unfold bA at this; omega)]; exact e i hi k q
  · by_cases q : i = n
    · subst q
      show jm_u s.2.2.2.2 11 i (some (bA i)) 11 i = some (bA i)
      unfold jm_u
      rw [if_pos rfl, if_pos rfl]
    · rw [hA 11 i (fun z => q z.2)]; exact f i (by omega)
section
variable {α : Type} {e : α → Option jm_R → Prop} {A B : Option α} {cd : Nat → jm_O} {call : jm_C} {pc pc2 t : Nat} {L L2 : jm_Lo} {st : List Value} {s : gm_S} {g : gm_T} {h : jm_H}
theorem r_newB {ci nn r : Nat} {K : gm_T → Option α} (hc : cd pc = op_new ci nn) (hp : pc + 3 = pc2) (hr : s.1 = r) (k : ∀ g2, jr e (K g2) (jm_sup cd call (pc2, L, .ref r :: st, gm_h (bw_s s ci 0 nn) g2))) : jr e (jl (bw_g g r (fun _ => 0)) K) (jm_sup cd call (pc, L, st, gm_h s g)) := r_go (by
  rw [hc, ← hp, ← hr]
  unfold op_new
  rw [bw_al0]
  rfl) (k _)
theorem r_newaB {r : Nat} {K : gm_T → Option α} (hc : cd pc = op_newa 14 2) (hp : pc + 2 = pc2) (hr : s.1 = r) (k : ∀ g2, jr e (K g2) (jm_sup cd call (pc2, L, .ref r :: st, gm_h (bw_s s 14 160 160) g2))) : jr e (jl (bw_g g r (fun _ => 0)) K) (jm_sup cd call (pc, L, gv 160 :: st, gm_h s g)) := r_go (by
  rw [hc, ← hp, ← hr]
  unfold op_newa
  dsimp only
  rw [if_pos (by decide), show (Int32.ofInt 160).toNatClampNeg = 160 from by decide, bw_al0]
  rfl) (k _)
theorem r_cloneB {r q len : Nat} {K : gm_T → Option α} (hc : cd pc = op_clone) (hp : pc + 3 = pc2) (hr : s.1 = r) (ht : q < s.1 ∧ s.2.2.1 q = 13) (hL : s.2.2.2.1 q = len) (hq : Nat.ble (st.map fun v => v.category).sum 8 = true) (k : ∀ g2, jr e (K g2) (jm_sup cd call (pc2, L, .ref r :: st, gm_h (bw_s s 13 len len) g2))) : jr e (jl (bw_g g r (g.1 q)) K) (jm_sup cd call (pc, L, .ref q :: st, gm_h s g)) := r_go (by
  rw [hc, ← hp, ← hr]
  unfold op_clone
  dsimp only
  rw [if_pos (show (q < jm_N (gm_h s g) ∧ jm_T (gm_h s g) q = 13) ∧ _ from ⟨ht, Nat.le_of_ble_eq_true hq⟩), show jm_L (gm_h s g) q = len from hL, show jm_I (gm_h s g) q = (fun k => Int32.ofInt (g.1 q k)) from rfl, bw_al]
  rfl) (k _)
theorem r_castB {r : Nat} (hc : cd pc = op_castI) (hp : pc + 3 = pc2) (ht : r < s.1 ∧ s.2.2.1 r = 13) (k : jr e A (jm_sup cd call (pc2, L, .ref r :: st, gm_h s g))) : jr e A (jm_sup cd call (pc, L, .ref r :: st, gm_h s g)) := r_go (by
  rw [hc, ← hp]
  unfold op_castI
  dsimp only
  rw [if_pos (show r < jm_N (gm_h s g) ∧ jm_T (gm_h s g) r = 13 from ht)]
  rfl) k
theorem r_putAB {ci f r v : Nat} (hc : cd pc = op_putA ci f) (hp : pc + 3 = pc2) (ht : r < s.1 ∧ s.2.2.1 r = ci) (k : jr e A (jm_sup cd call (pc2, L, st, gm_h (bw_a s r f v) g))) : jr e A (jm_sup cd call (pc, L, .ref v :: .ref r :: st, gm_h s g)) := r_go (by
  rw [hc, ← hp]
  unfold op_putA
  dsimp only
  rw [if_pos (show r < jm_N (gm_h s g) ∧ jm_T (gm_h s g) r = ci from ht)]
  rfl) k
theorem r_objB {r : Nat} (hc : cd pc = op_objInit) (hp : pc + 3 = pc2) (hq : Nat.ble (st.map fun v => v.category).sum 8 = true) (k : jr e A (jm_sup cd call (pc2, L, st, h))) : jr e A (jm_sup cd call (pc, L, .ref r :: st, h)) := r_go (by
  rw [hc, ← hp]
  unfold op_objInit
  dsimp only
  rw [if_pos (Nat.le_of_ble_eq_true hq)]
  rfl) k
theorem r_aastB {n v : Nat} {i : Int} (hc : cd pc = op_aast) (hp : pc + 1 = pc2) (ht : 11 < s.1 ∧ s.2.2.1 11 = 16) (hL : s.2.2.2.1 11 = 30) (hv : v < s.1 ∧ s.2.2.1 v = 1) (hi : i = (n : Int)) (hn : n < 30) (k : jr e A (jm_sup cd call (pc2, L, st, gm_h (bw_a s 11 n v) g))) : jr e A (jm_sup cd call (pc, L, .ref v :: gv i :: .ref 11 :: st, gm_h s g)) := r_go (by
  obtain ⟨q1, q2, q3⟩ := rg_nat (i := i) (n := 30) (by omega) (by omega) rfl
  have q4 : i.toNat = n := by omega
  rw [q4] at q2 q3
  rw [hc, ← hp]
  unfold op_aast
  dsimp only
  rw [if_pos (show ((11 < jm_N (gm_h s g) ∧ jm_T (gm_h s g) 11 = 16) ∧ (0 ≤ Int32.ofInt i ∧ (Int32.ofInt i).toNatClampNeg < jm_L (gm_h s g) 11)) ∧ (v < jm_N (gm_h s g) ∧ jm_T (gm_h s g) v = 1) from ⟨⟨ht, q1, by rw [q2]; exact Nat.lt_of_lt_of_eq q3 (show s.2.2.2.1 11 = 30 from hL).symm⟩, hv⟩), q2]
  rfl) k
/-- a call that makes cells -/
theorem r_callVW {M n ci : Nat} {args st2 : List Value} {P : gm_S → Prop} {F : Option (gm_T)} {K : gm_T → Option α} (hc : cd pc = op_callV ci M n) (hp : pc + 3 = pc2) (ha : (st.take n).reverse = args) (hd : st.drop n = st2) (hn : Nat.ble n st.length = true) (hq : Nat.ble (st2.map fun v => v.category).sum 8 = true) (hrc : jm_rc (gm_h s g) ci (st.take n).getLast? = true) (hF : jr (fun g2 c => ∃ s2, P s2 ∧ c = some (none, gm_h s2 g2)) F (call M args (gm_h s g))) (k : ∀ s2 g2, P s2 → jr e (K g2) (jm_sup cd call (pc2, L, st2, gm_h s2 g2))) : jr e (jb1 F K) (jm_sup cd call (pc, L, st, gm_h s g)) := by
  subst ha hd
  intro a h1
  cases hF2 : F with
  | none => rw [hF2] at h1; cases h1
  | some q =>
    rw [hF2] at h1
    obtain ⟨s2, hP, h2⟩ := hF _ hF2
    refine r_go (st2 := st.drop n) (h2 := gm_h s2 q) ?_ (k s2 q hP) a h1
    rw [hc, ← hp]
    unfold op_callV
    rw [if_pos (by first | exact ⟨Nat.le_of_ble_eq_true hn, Nat.le_of_ble_eq_true hq⟩ | exact ⟨⟨Nat.le_of_ble_eq_true hn, Nat.le_of_ble_eq_true hq⟩, hrc⟩), h2]
    rfl
/-- a row of the sketch is cloned into a field of the bit: six instructions -/
theorem r_fldB {n j f q Z : Nat} {K : gm_T → Option α} (p : bw_p s n j Z) (c1 : cd pc = op_aload 0 1) (c2 : cd (pc + 1) = op_aload 1 1) (c3 : cd (pc + 2) = op_getA 7 f) (c4 : cd (pc + 5) = op_clone) (c5 : cd (pc + 8) = op_castI) (c6 : cd (pc + 11) = op_putA 1 f) (l0 : L.getD 0 none = some (.ref (bA n))) (l1 : L.getD 1 none = some (.ref 3)) (hj : Nat.blt 0 j = true) (h8 : Nat.blt j 8 = true) (hf : bt_A f = j) (hT : bt_T j = 13) (hz : bt_Z j + bt_L j = bt_Z (j + 1)) (hq : st_A 3 f = q) (hq0 : Nat.blt 0 q = true) (hq1 : Nat.blt q 111 = true) (hqT : st_T q = 13) (hqL : st_L q = bt_L j) (k : ∀ s2 g2, bw_p s2 n (j + 1) Z → jr e (K g2) (jm_sup cd call (pc + 14, L, [], gm_h s2 g2))) : jr e (jl (bw_g g (bA n + j) (g.1 q)) K) (jm_sup cd call (pc, L, [], gm_h s g)) := by
  have hj0 : 0 < j := Nat.le_of_ble_eq_true hj
  have p0 := p
  obtain ⟨hs, ⟨h1, h2⟩, h3, h4⟩ := p
  have hb0 : bA n < s.1 ∧ s.2.2.1 (bA n) = 1 := ⟨by omega, (h3 0 hj0).1⟩
  have nw : (bw_s s 13 (bt_L j) (bt_L j)).2.2.1 (bA n + j) = 13 := if_pos h1.symm
  have ob : (bw_s s 13 (bt_L j) (bt_L j)).2.2.1 (bA n) = 1 := (if_neg (by omega)).trans hb0.2
  refine r_aload c1 rfl l0 (r_aload c2 rfl l1 (r_getA c3 rfl (sh_T hs rfl rfl) (sh_A hs hq hq0) (r_cloneB (len := bt_L j) c4 rfl h1 (sh_T hs hq1 hqT) (sh_L hs hq1 hqL) rfl fun g2 => (r_castB c5 rfl ⟨by show bA n + j < s.1 + 1; omega, nw⟩ (r_putAB c6 rfl ⟨by show bA n < s.1 + 1; omega, ob⟩ (k _ g2 ?_))))))
  have w := bw_p2 (sl := bt_L j) p0 hj h8 hf hz
  rw [hT] at w
  exact w
end
