/-! ===== setAll: the class ===== -/
theorem Xtr.fx {T : TB} {A : Nat → Prop} {tg : Nat → Nat} {h h' : HS} (hX : Xtr T h) (hw : Wx tg h) (F : Fx A h h') (h1 : ¬ A 32) (h2 : ¬ A 36) : Xtr T h' := by
  have q1 := (F.2 32 (by have := hw.2.2; omega) h1).1
  have q2 := (F.2 36 (by have := hw.2.2; omega) h2).1
  unfold Xtr
  simp only [q1, q2]
  exact hX
theorem X_setAll {S H T : TB} {tg : Nat → Nat} {h : HS} (hS : Xst S tg h) (hW : Wst S) (hH : Xha H tg h) (hWH : Wha H) (hT0 : Xtr T h) (hWT : Wtr S H T) (hw : Wx tg h) (hz : Gz h) (s n p : Int32) : ∃ h', f_X11_setAll s n p h = some (a_setAll S H T s n p, h') ∧ Gz h' ∧ Wx tg h' ∧ Fx (fun b => b = 48 ∨ b = 49) h h' := by
  have e1 : (1 : Int32).toInt = 1 := rfl
  have e8 : (8 : Int32).toInt = 8 := rfl
  have h8 : S.1 ≤ 8 := by obtain ⟨el, hl, -⟩ := hS; exact hl.2.2.1
  have h60 := hT0.2.1
  rcases X_stallAt hS s with ⟨i, a, hi, rfl, hzs, hf, oa, -⟩ | ⟨hzs, hf⟩
  · rcases n18 n with ⟨m, hm, hm8, rfl, hn⟩ | hn
    · cases hp : inZ p.toInt 0 1
      · refine ⟨h, ?_, hz, hw, Fx.rf⟩
        unfold f_X11_setAll a_setAll
        rw [hf, f_isIn_eq, e1, e8, hn, isBit_inZ, hp, hzs]
        simp only [Option.bind_some, om_some, if_true, Bool.false_eq_true, if_false]
      · have ci : (nI i).toNatClampNeg = i := nI_clamp (by omega)
        have cm : (nI m).toNatClampNeg = m := nI_clamp (by omega)
        obtain ⟨h', s1, s2, s3, s4, s5⟩ := X_fill hW hi h8 oa hw hz (part_e hp)
        have hT1 := hT0.fx hw s5 (by decide) (by decide)
        have hH1 := hH.fx hw s5 (fun _ _ => rfl) (fun b hb z => by
          rcases hb with hb | hb | hb
          · omega
          · have := hw.1 b (by omega); omega
          · have := hw.1 b (by omega); omega)
        have hl := L_xsa hW hWH hi s2 hH1 hT1 hWT T.1 1000 m 1 (by omega) (by omega) hm8
        refine ⟨h', ?_, s2.1, s4, s5⟩
        unfold f_X11_setAll a_setAll
        rw [hf, f_isIn_eq, e1, e8, hn, isBit_inZ, hp, hzs, ci, cm]
        simp only [Option.bind_some, om_some, if_true, s1, hT1.1, hl]
    · refine ⟨h, ?_, hz, hw, Fx.rf⟩
      unfold f_X11_setAll a_setAll
      rw [hf, f_isIn_eq, e1, e8, hn, hzs]
      simp only [Option.bind_some, om_some, if_true, Bool.false_eq_true, if_false]
  · refine ⟨h, ?_, hz, hw, Fx.rf⟩
    unfold f_X11_setAll a_setAll
    rw [hf, hzs]
    simp only [Option.bind_some, om_none, Bool.false_eq_true, if_false]
