/-! The call of bit. -/
theorem op_bit {n : Nat} {g : gm_T} (I : Ivt n g) {a b c : Int} (ha : rg a) (hb : rg b) (hc : rg c) : ∃ r g1 g2 m, cw_bit n g a b c = some (r, g1) ∧ md_bit g1 a b c = some (r, g2) ∧ gm_I g1 10 1 = ((m : Nat) : Int) ∧ Ivt m g2 := by
  obtain ⟨L, t, hT, hTc⟩ := isT_of I.2.2.2.2.1
  have vn := I.1.1.choose_spec.1.1
  have vb := I.1.1.choose_spec.1.2.1
  have vc := I.1.1.choose_spec.1.2.2.1
  have vtb := I.1.1.choose_spec.1.2.2.2.2.2.1
  have vw := I.1.2
  rcases cw_bit_cls vn.1 vn.2.2 hTc ha hb hc with ⟨no, e⟩ | ⟨ok, n30, e⟩ | ⟨ok, hn, g7, x7, z7, w⟩
  · rcases md_bit_ref vn.2.1 vn.2.2 hT ha hb hc with ⟨-, e2⟩ | ⟨o2, -⟩ | ⟨o2, -⟩
    · exact ⟨-2, g, g, n, e, e2, vn.1, I⟩
    · exact absurd o2 no
    · exact absurd o2 no
  · rcases md_bit_ref vn.2.1 vn.2.2 hT ha hb hc with ⟨no, -⟩ | ⟨-, -, e2⟩ | ⟨-, hn, -⟩
    · exact absurd ok no
    · exact ⟨-4, g, g, n, e, e2, vn.1, I⟩
    · omega
  · have h3 : gm_I g7 44 3 = (n : Int) := (x7.1 44 3 rfl).trans vn.2.1
    have hT7 : isT g7 L t := ⟨(x7.1 44 2 rfl).trans hT.1, hT.2.1, fun k hk => ⟨(x7.1 45 k rfl).trans (hT.2.2.1 k hk).1, (hT.2.2.1 k hk).2⟩, hT.2.2.2⟩
    have e10 : gm_I g7 10 1 = (n : Int) := (x7.1 10 1 rfl).trans vn.1
    rcases md_bit_ref h3 vn.2.2 hT7 ha hb hc with ⟨no, -⟩ | ⟨-, n30, -⟩ | ⟨-, -, g2, x2, z2, w2⟩
    · exact absurd ok no
    · omega
    · have Ino : Ivt n g2 := Inv_bno x7 x2 z7 z2 I
      rcases w with ⟨e, f, e1⟩ | ⟨f, R, w⟩
      · rcases w2 with ⟨e', f', e2⟩ | ⟨f', -⟩
        · rw [f] at f'
          cases f'
          exact ⟨_, g7, g2, n, e1, e2, e10, Ino⟩
        · rw [f] at f'
          cases f'
      · rcases w2 with ⟨e', f', -⟩ | ⟨-, w2⟩
        · rw [f] at f'
          cases f'
        · have w2 := w2 R.1
          rcases w with ⟨r, e1⟩ | ⟨r, w⟩
          · rcases w2 with ⟨-, e2⟩ | ⟨r2, -⟩
            · exact ⟨-5, g7, g2, n, e1, e2, e10, Ino⟩
            · rw [r] at r2
              cases r2
          · rcases w with ⟨q, e1⟩ | ⟨q, e1⟩
            · rcases w2 with ⟨r2, -⟩ | ⟨-, w2⟩
              · rw [r] at r2
                cases r2
              · rcases w2 with ⟨-, e2⟩ | ⟨q2, -⟩
                · exact ⟨-6, g7, g2, n, e1, e2, e10, Ino⟩
                · rw [q] at q2
                  cases q2
            · obtain ⟨g1, h, g3, m1, m2, xh, x3, VN, VB, VC, VT, VW, z19, z70, z1, z3, cnt⟩ := bit_made vn vb vc vtb vw hT ha hb hc ok hn x7 z7 R f r q
              have x : exc (W_b2 n) (W_nb n) g g3 := exc_tr (exc_mono xh (fun a k w => by unfold W_b2; rw [w]; rfl) (fun _ _ w => w)) (exc_mono x3 (fun a k w => by unfold W_b2; rw [w, Bool.or_true]) (fun _ _ w => by cases w))
              exact ⟨(n : Int), g1, g3, n + 1, e1.trans m1, m2, cnt, Inv_bt (Nat.le_succ n) x VN VB VC VT VW (fun b h1 h2 => by
                have hbn : b = n := by omega
                subst hbn
                exact ⟨z19, z70⟩) z1 z3 I⟩
