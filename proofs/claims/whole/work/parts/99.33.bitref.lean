/-! The reference's call of bit: what it comes to. -/
def W_rb (n a k : Nat) : Bool := W_kb n a k || W_ly n a k || (a == 44 && k == 2)
noncomputable def mkR (g13 : gm_T) (a1 a2 a3 : Int) : Option (Int × gm_T) :=
    (jg (0 ≤ (gm_I g13 44 3) ∧ (gm_I g13 44 3) < 30)
    (jl (gm_wI g13 54 ((gm_I g13 44 3)).toNat a1) fun (g16 : gm_T) =>
    jg (0 ≤ (gm_I g16 44 3) ∧ (gm_I g16 44 3) < 30)
    (jl (gm_wI g16 55 ((gm_I g16 44 3)).toNat a2) fun (g18 : gm_T) =>
    jg (0 ≤ (gm_I g18 44 3) ∧ (gm_I g18 44 3) < 30)
    (jl (gm_wI g18 56 ((gm_I g18 44 3)).toNat a3) fun (g20 : gm_T) =>
    jg (0 ≤ (gm_I g20 44 3) ∧ (gm_I g20 44 3) < 30)
    (jl (gm_wI g20 70 ((gm_I g20 44 3)).toNat 0) fun (g22 : gm_T) =>
    jg (0 ≤ (gm_I g22 44 3) ∧ (gm_I g22 44 3) < 30)
    (jl (gm_wI g22 71 ((gm_I g22 44 3)).toNat 0) fun (g24 : gm_T) =>
    jl (gm_wI g24 44 3 ((gm_I g24 44 3) + 1)) fun (g26 : gm_T) =>
    jb1 (md_bit_l167  fz 0 g26) fun (g42 : gm_T) =>
    some (((gm_I g42 44 3) - 1), g42)))))))
/-- what the reference has read and laid so far -/
def rdR (g g13 : gm_T) (n : Nat) (t : Nat → Int) : Prop := cP g13 47 48 49 (8 * n) (bcor t) ∧ cP g13 51 52 53 (5 * n) (bspt t) ∧ gm_I g13 46 n = ((bcor t).length : Int) ∧ gm_I g13 50 n = ((bspt t).length : Int) ∧ gm_I g13 58 n = rar (bcor t).length (ptx (bcor t)) (pty (bcor t)) (bcor t).length ∧ ∃ g9, lyI n (bcor t).length (ptx (bcor t)) (pty (bcor t)) g9 g13 40 0
theorem md_bit_ref {n L : Nat} {g : gm_T} {t : Nat → Int} (h3 : gm_I g 44 3 = (n : Int)) (h30 : n ≤ 30) (hT : isT g L t) {a b c : Int} (ha : rg a) (hb : rg b) (hc : rg c) : (¬ okB a b c ∧ md_bit g a b c = some (-2, g)) ∨ (okB a b c ∧ n = 30 ∧ md_bit g a b c = some (-4, g)) ∨ (okB a b c ∧ n < 30 ∧ ∃ g2, exc (W_rb n) nob g g2 ∧ gm_I g2 44 2 = 0 ∧ ((∃ e : Nat, bflt t L = some e ∧ md_bit g a b c = some (-10 - (e : Int), g2)) ∨ (bflt t L = none ∧ (3 ≤ (bcor t).length → ((rng (bcor t).length (ptx (bcor t)) (pty (bcor t)) = false ∧ md_bit g a b c = some (-5, g2)) ∨ (rng (bcor t).length (ptx (bcor t)) (pty (bcor t)) = true ∧ ((anq (gsq (bcor t).length (ptx (bcor t)) (pty (bcor t)) (ptx (bspt t)) (pty (bspt t))) 0 (bspt t).length = true ∧ md_bit g a b c = some (-6, g2)) ∨ (anq (gsq (bcor t).length (ptx (bcor t)) (pty (bcor t)) (ptx (bspt t)) (pty (bspt t))) 0 (bspt t).length = false ∧ md_bit g a b c = mkR g2 a b c ∧ rdR g g2 n t)))))))) := by
  have hE := hT.2.2.2
  have L240 := hT.2.1
  unfold md_bit
  rw [md_in_eq ha (rgk rfl) (rgk rfl), md_in_eq hb (rgk rfl) (rgk rfl), md_in_eq hc (rgk rfl) (rgk rfl), jb_tst, jb_tst, jb_tst, h3, jg_pos (rgn (by omega))]
  by_cases o : okB a b c
  rotate_left
  · refine Or.inl ⟨o, ?_⟩
    unfold okB at o
    by_cases a1 : 1 ≤ a ∧ a ≤ 99
    · rw [if_pos a1]
      by_cases b1 : -1 ≤ b ∧ b ≤ 3
      · rw [if_pos b1, if_neg (fun q => o ⟨a1, b1, q⟩)]
      · rw [if_neg b1]
    · rw [if_neg a1]
  refine Or.inr ?_
  rw [if_pos o.1, if_pos o.2.1, if_pos o.2.2]
  by_cases e30 : n = 30
  · refine Or.inl ⟨o, e30, ?_⟩
    rw [if_pos (by omega)]
  refine Or.inr ⟨o, by omega, ?_⟩
  have hn : n < 30 := by omega
  rw [if_neg (by omega)]
  obtain ⟨g8, e8, x8, w8⟩ := md_readsBit_eq hT hn h3
  have X9 : exc (W_rb n) nob g (gm_wI g8 44 2 0) := exc_wI (exc_mono x8 (fun a j q => by unfold W_rb; rw [q]; rfl) (fun a j q => q)) (by unfold W_rb; simp)
  have s9 : gm_I (gm_wI g8 44 2 0) 44 3 = (n : Int) := by rw [gI_ne (by decide), x8.1 44 3 (by unfold W_kb W_kc8 W_ks5; rfl)]; exact h3
  rw [e8, jb1_some, jl_eq]
  rcases w8 with ⟨e, f1, f2, f3⟩ | ⟨f1, f2, p1, p2, p3, p4⟩
  · refine ⟨_, X9, gI_eq, Or.inl ⟨e, f1, ?_⟩⟩
    rw [gI_ne (by decide), f2, jg_pos (rgk rfl), if_neg n10, gI_ne (by decide), f3]
  have P1 : cP (gm_wI g8 44 2 0) 47 48 49 (8 * n) (bcor t) := fun i q hq => by
    rw [gI_oth (by decide), gI_oth (by decide), gI_oth (by decide)]
    exact p1 i q hq
  have P2 : cP (gm_wI g8 44 2 0) 51 52 53 (5 * n) (bspt t) := fun i q hq => by
    rw [gI_oth (by decide), gI_oth (by decide), gI_oth (by decide)]
    exact p2 i q hq
  have P3 : gm_I (gm_wI g8 44 2 0) 46 n = ((bcor t).length : Int) := by rw [gI_oth (by decide)]; exact p3
  have P4 : gm_I (gm_wI g8 44 2 0) 50 n = ((bspt t).length : Int) := by rw [gI_oth (by decide)]; exact p4
  have k1 := bcor_ok hE
  have k2 := bspt_ok hE
  by_cases p5 : 3 ≤ (bcor t).length
  rotate_left
  · exact ⟨_, X9, gI_eq, Or.inr ⟨f1, fun q => absurd q p5⟩⟩
  have hG := rG_of k1.1 p5 k1.2
  have hR := isR_of P1 P3
  rw [gI_ne (by decide), f2, jg_pos (rgk rfl), if_pos rfl, s9, md_isRing_eq hn hG hR, jb_tst]
  cases er : rng (bcor t).length (ptx (bcor t)) (pty (bcor t)) with
  | false => exact ⟨_, X9, gI_eq, Or.inr ⟨f1, fun _ => Or.inl ⟨rfl, rfl⟩⟩⟩
  | true =>
    obtain ⟨g13, e13, I13, a58⟩ := md_lays_eq hn hG hR
    have X13 : exc (W_rb n) nob g g13 := exc_tr X9 (exc_mono I13.1 (fun a j q => by unfold W_rb; rw [q, Bool.or_true]; rfl) (fun a j q => q))
    have Q1 : cP g13 47 48 49 (8 * n) (bcor t) := fun i q hq => by
      rw [I13.1.1 47 _ rfl, I13.1.1 48 _ rfl, I13.1.1 49 _ rfl]
      exact P1 i q hq
    have Q2 : cP g13 51 52 53 (5 * n) (bspt t) := fun i q hq => by
      rw [I13.1.1 51 _ rfl, I13.1.1 52 _ rfl, I13.1.1 53 _ rfl]
      exact P2 i q hq
    have Q3 : gm_I g13 46 n = ((bcor t).length : Int) := by rw [I13.1.1 46 n rfl]; exact P3
    have Q4 : gm_I g13 50 n = ((bspt t).length : Int) := by rw [I13.1.1 50 n rfl]; exact P4
    have s13 : gm_I g13 44 3 = (n : Int) := by rw [I13.1.1 44 3 rfl]; exact s9
    have z13 : gm_I g13 44 2 = 0 := by rw [I13.1.1 44 2 rfl]; exact gI_eq
    rw [if_pos rfl, e13, jb1_some, s13, md_areSpots_eq hn hG (fun v u hu hv => I13.2.1 v u hu (Or.inl hv)) (sG_of k2.1 k2.2) (isRs_of Q2 Q4)]
    refine ⟨g13, X13, z13, Or.inr ⟨f1, fun _ => Or.inr ⟨rfl, ?_⟩⟩⟩
    cases es : anq (gsq (bcor t).length (ptx (bcor t)) (pty (bcor t)) (ptx (bspt t)) (pty (bspt t))) 0 (bspt t).length with
    | true =>
      refine Or.inl ⟨rfl, ?_⟩
      rw [if_pos rfl, jb1_some, jg_pos (rgk rfl), if_pos rfl]
    | false =>
      refine Or.inr ⟨rfl, ?_, Q1, Q2, Q3, Q4, a58, _, I13⟩
      rw [if_neg (by decide), jb1_some, jg_pos (rgk rfl), if_neg n10]
      unfold mkR
      rw [s13]
