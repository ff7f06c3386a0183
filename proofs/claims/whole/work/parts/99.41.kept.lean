/-! What each part of the state reads, and that it is kept. -/
def R_mo (a k : Nat) : Bool := a == 38 && Nat.ble 6144 k
def R_as (a k : Nat) : Bool := (a == 40 && k == 10) || (a == 44 && k == 84) || a == 103
def R_wy (a _k : Nat) : Bool := a == 46 || a == 47 || a == 48
theorem V_clash_tr {W J : Nat → Nat → Bool} {g h : gm_T} (x : exc W J g h) (hW : ∀ a k, kl a k = true → W a k = false) (V : V_clash g) : V_clash h := by
  have o : ∀ a k, kl a k = true → gm_I h a k = gm_I g a k := fun a k q => x.1 a k (hW a k q)
  unfold V_clash at V ⊢
  rw [o 22 5 rfl, o 44 35 rfl, o 22 8 rfl, o 44 36 rfl, o 22 6 rfl, o 44 37 rfl, o 22 7 rfl, o 44 38 rfl]
  simp only [fun k => o 24 k rfl, fun k => o 75 k rfl]
  exact V
theorem V_box_tr {n m : Nat} (hnm : n ≤ m) {W J : Nat → Nat → Bool} {g h : gm_T} (x : exc W J g h) (hW : ∀ a k, W_box a k = true → W a k = false) (V : V_box n g) : V_box m h := by
  have v : V_box n h := V_box_e (fun a k q => x.1 a k (hW a k q)) V
  refine ⟨v.1, fun k hk => ?_⟩
  obtain ⟨⟨a1, a2, a3⟩, a4⟩ := v.2 k hk
  exact ⟨⟨a1, a2, by omega⟩, a4⟩
theorem V_skill_tr {W J : Nat → Nat → Bool} {g h : gm_T} (x : exc W J g h) (hW : ∀ a k, W_skill a k = true → W a k = false) (V : V_skill g) : V_skill h := by
  intro k hk
  rw [x.1 36 k (hW 36 k rfl), x.1 107 k (hW 107 k rfl)]
  exact V k hk
theorem V_tape_tr {W J : Nat → Nat → Bool} {g h : gm_T} (x : exc W J g h) (hW : ∀ a k, W_tape a k = true → W a k = false) (V : V_tape g) : V_tape h := by
  have o : ∀ a k, W_tape a k = true → gm_I h a k = gm_I g a k := fun a k q => x.1 a k (hW a k q)
  unfold V_tape at V ⊢
  rw [o 1 0 rfl, o 44 2 rfl]
  simp only [fun k => o 2 k rfl, fun k => o 45 k rfl]
  exact V
theorem V_ask_tr {W J : Nat → Nat → Bool} {g h : gm_T} (x : exc W J g h) (hW : ∀ a k, R_as a k = true → W a k = false) (V : V_ask g) : V_ask h := by
  obtain ⟨A, m, ⟨a1, a2⟩, a3, a4, a5⟩ := V
  exact ⟨A, m, ⟨(x.1 40 10 (hW 40 10 rfl)).trans a1, (x.1 44 84 (hW 44 84 rfl)).trans a2⟩, a3, a4, fun b hb => (x.1 103 _ (hW 103 _ rfl)).trans (a5 b hb)⟩
theorem V_most_t {W J : Nat → Nat → Bool} {g h : gm_T} (x : exc W J g h) (hW : ∀ a k, R_mo a k = true → W a k = false) (V : V_most g) : V_most h := V_most_tr x (fun k hk => hW 38 k (by
  simp only [R_mo, Bool.and_eq_true, beq_iff_eq, Nat.ble_eq]
  exact ⟨trivial, hk⟩)) V
theorem V_way_t {n : Nat} {W J : Nat → Nat → Bool} {g h : gm_T} (x : exc W J g h) (hW : ∀ a k, R_wy a k = true → W a k = false) (V : V_way n g) : V_way n h := by
  have o : ∀ a k, R_wy a k = true → gm_I h a k = gm_I g a k := fun a k q => x.1 a k (hW a k q)
  intro b l hb hl
  unfold mE at hl
  rw [o 46 _ rfl] at hl
  have hn : ∀ k, nx h b k = nx g b k := fun k => by unfold nx mE; rw [o 46 _ rfl]
  have h1 : ∀ k, mX h b k = mX g b k := fun k => o 47 _ rfl
  have h2 : ∀ k, mY h b k = mY g b k := fun k => o 48 _ rfl
  have w := V b l hb hl
  unfold wX wY at w ⊢
  rw [hn, h1, h1, h2, h2]
  exact w
theorem V_way_F {n : Nat} {g h : gm_T} (e : keepF h = keepF g) (V : V_way n g) : V_way n h := by
  have k : ∀ a : gm_T, V_way n (keepF a) ↔ V_way n a := fun _ => Iff.rfl
  exact (k h).mp (e ▸ (k g).mpr V)
