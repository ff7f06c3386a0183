/-! A bit's text: the reference as a whole. -/
def W_kb (n a j : Nat) : Bool := W_kc8 n a j || W_ks5 n a j
theorem W_kb_c {n : Nat} {g g2 : gm_T} (x : exc (W_kc8 n) nob g g2) : exc (W_kb n) nob g g2 := exc_mono x (fun a j q => by unfold W_kb; rw [q]; rfl) (fun a j q => by cases q)
theorem W_kb_s {n : Nat} {g g2 : gm_T} (x : exc (W_ks5 n) nob g g2) : exc (W_kb n) nob g g2 := exc_mono x (fun a j q => by unfold W_kb; rw [q, Bool.or_true]) (fun a j q => by cases q)
theorem W_kb_46 {n : Nat} : W_kb n 46 n = true := by unfold W_kb W_kc8; simp
theorem W_kb_50 {n : Nat} : W_kb n 50 n = true := by unfold W_kb W_ks5; simp
theorem md_readsBit_eq {g : gm_T} {L : Nat} {t : Nat → Int} {n : Nat} (hT : isT g L t) (hn : n < 30) (h3 : gm_I g 44 3 = (n : Int)) : ∃ g2, md_readsBit g = some g2 ∧ exc (W_kb n) nob g g2 ∧ ((∃ e : Nat, bflt t L = some e ∧ gm_I g2 44 41 = 1 ∧ gm_I g2 44 40 = (e : Int)) ∨ (bflt t L = none ∧ gm_I g2 44 41 = 0 ∧ cP g2 47 48 49 (8 * n) (bcor t) ∧ cP g2 51 52 53 (5 * n) (bspt t) ∧ gm_I g2 46 n = ((bcor t).length : Int) ∧ gm_I g2 50 n = ((bspt t).length : Int))) := by
  have L240 := hT.2.1
  have hE := hT.2.2.2
  unfold md_readsBit
  have X5 : exc (W_kb n) nob g (gm_wI (gm_wI (gm_wI (gm_wI g 44 40 0) 44 41 0) 46 n 0) 50 n 0) := exc_wI (exc_wI (exc_wI (exc_wI exc_rf rfl) rfl) W_kb_46) W_kb_50
  have s2 : gm_I (gm_wI (gm_wI g 44 40 0) 44 41 0) 44 3 = (n : Int) := by rw [gI_ne (by decide), gI_ne (by decide)]; exact h3
  have s3 : gm_I (gm_wI (gm_wI (gm_wI g 44 40 0) 44 41 0) 46 n 0) 44 3 = (n : Int) := by rw [gI_oth (by decide)]; exact s2
  have s5 : gm_I (gm_wI (gm_wI (gm_wI (gm_wI g 44 40 0) 44 41 0) 46 n 0) 50 n 0) 44 3 = (n : Int) := by rw [gI_oth (by decide)]; exact s3
  have k5 : gm_I (gm_wI (gm_wI (gm_wI (gm_wI g 44 40 0) 44 41 0) 46 n 0) 50 n 0) 46 n = ((0 : Nat) : Int) := by rw [gI_oth (by decide), gI_eq]; rfl
  have q5 : gm_I (gm_wI (gm_wI (gm_wI (gm_wI g 44 40 0) 44 41 0) 46 n 0) 50 n 0) 50 n = ((0 : Nat) : Int) := by rw [gI_eq]; rfl
  have h5 : isP (gm_wI (gm_wI (gm_wI (gm_wI g 44 40 0) 44 41 0) 46 n 0) 50 n 0) L t (gm_I g 44 86) 0 false := by
    refine isP_oth (isP_oth ?_ (by decide) (by decide)) (by decide) (by decide)
    obtain ⟨t1, t2, t3, t4⟩ := hT
    refine ⟨⟨by rw [gI_ne (by decide), gI_ne (by decide)]; exact t1, t2, fun k hk => ?_, t4⟩, ⟨by rw [gI_ne (by decide), gI_eq]; rfl, by rw [gI_eq]; rfl⟩, by rw [gI_ne (by decide), gI_ne (by decide)]⟩
    rw [gI_oth (by decide), gI_oth (by decide)]
    exact t3 k hk
  rw [jl_eq, jl_eq, s2, jg_pos ⟨by omega, by omega⟩, Int.toNat_natCast, jl_eq, s3, jg_pos ⟨by omega, by omega⟩, Int.toNat_natCast, jl_eq]
  generalize gm_wI (gm_wI (gm_wI (gm_wI g 44 40 0) 44 41 0) 46 n 0) 50 n 0 = g5 at *
  obtain ⟨g21, e21, x21, h21, z21, -, w21⟩ := md_l34_rd (a := gm_I g 44 86) hn 7 fz 0 0 g5 (fz_gt rfl) rfl h5 (Nat.zero_le _) s5 k5
  rw [show (7 + 1 : Nat) = 8 from rfl] at h21 z21 w21
  have cok := cpr_ok hE 8 0 (Nat.zero_le _)
  have E : ∀ {β : Type} (K : gm_T → Option β), (jb1 (md_readsCorner g5) fun (g7 : gm_T) => jb1 (md_readsBit_l34 fz g7) K) = jb1 (jb1 (md_readsCorner g5) fun (g15 : gm_T) => md_readsBit_l34 fz g15) K := fun K => by
    cases md_readsCorner g5 <;> rfl
  rw [E, e21, jb1_some]
  have X21 := exc_tr X5 (W_kb_c x21)
  have s21 : gm_I g21 44 3 = (n : Int) := by rw [x21.1 44 3 rfl]; exact s5
  have q21 : gm_I g21 50 n = ((0 : Nat) : Int) := by rw [x21.1 50 n rfl]; exact q5
  by_cases w3 : (cpr t 8 0).2.2 = true
  · have hb : isP g21 L t (gm_I g 44 86) (cpr t 8 0).2.1 true := by have := h21.1; rw [w3] at this; exact this
    rw [show fz = 99999 + 1 from rfl, md_l97_end hb, jb1_some, hb.2.1.2, wI1_t, jg_pos (rgk rfl), if_neg n10, jl_eq]
    refine ⟨_, rfl, exc_wI X21 rfl, Or.inl ⟨_, by unfold bflt; rw [if_pos w3], gI_eq, ?_⟩⟩
    rw [gI_ne (by decide)]
    exact hb.2.1.1
  have w4 : (cpr t 8 0).2.2 = false := Bool.eq_false_iff.mpr w3
  have hb : isP g21 L t (gm_I g 44 86) (cpr t 8 0).2.1 false := by have := h21.1; rw [w4] at this; exact this
  have k21 := w21 w4
  obtain ⟨g30, e30, x30, h30, z30, -, w30⟩ := md_l97_eq (a := gm_I g 44 86) hn 5 fz 0 (cpr t 8 0).2.1 g21 (fz_gt rfl) rfl hb cok.1 s21 q21
  rw [e30, jb1_some]
  have X30 := exc_tr X21 (W_kb_s x30)
  have sok := spr_ok hE 5 (cpr t 8 0).2.1 cok.1
  by_cases v3 : (spr t 5 (cpr t 8 0).2.1).2.2 = true
  · have hc : isP g30 L t (gm_I g 44 86) (spr t 5 (cpr t 8 0).2.1).2.1 true := by have := h30.1; rw [v3] at this; exact this
    rw [hc.2.1.2, wI1_t, jg_pos (rgk rfl), if_neg n10, jl_eq]
    refine ⟨_, rfl, exc_wI X30 rfl, Or.inl ⟨_, by unfold bflt; rw [if_neg w3, if_pos v3], gI_eq, ?_⟩⟩
    rw [gI_ne (by decide)]
    exact hc.2.1.1
  have v4 : (spr t 5 (cpr t 8 0).2.1).2.2 = false := Bool.eq_false_iff.mpr v3
  have hc : isP g30 L t (gm_I g 44 86) (spr t 5 (cpr t 8 0).2.1).2.1 false := by have := h30.1; rw [v4] at this; exact this
  have k30 := w30 v4
  rw [hc.2.1.2, wI1_f, jg_pos (rgk rfl), if_pos rfl, hc.2.1.1, hc.1.1, jg_pos ⟨rgn (by have := sok.1; omega), rgn (by omega)⟩]
  by_cases c5 : (spr t 5 (cpr t 8 0).2.1).2.1 = L
  · rw [if_pos (by rw [c5]), jl_eq]
    refine ⟨_, rfl, exc_wI X30 rfl, Or.inr ⟨by unfold bflt; rw [if_neg w3, if_neg v3, if_pos c5], gI_eq, ?_, ?_, ?_, ?_⟩⟩
    · intro i q hq
      have := z21 i q hq
      rw [gI_oth (by decide), gI_oth (by decide), gI_oth (by decide), x30.1 47 _ rfl, x30.1 48 _ rfl, x30.1 49 _ rfl]
      exact this
    · intro i q hq
      have := z30 i q hq
      rw [gI_oth (by decide), gI_oth (by decide), gI_oth (by decide)]
      exact this
    · rw [gI_oth (by decide), x30.1 46 n rfl, k21, Nat.zero_add]; rfl
    · rw [gI_oth (by decide), k30, Nat.zero_add]; rfl
  · rw [if_neg (by omega), jl_eq]
    refine ⟨_, rfl, exc_wI X30 rfl, Or.inl ⟨_, by unfold bflt; rw [if_neg w3, if_neg v3, if_neg c5], gI_eq, ?_⟩⟩
    rw [gI_ne (by decide)]
    exact hc.2.1.1
