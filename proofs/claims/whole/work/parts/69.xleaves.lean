/-! ===== leaves: the class ===== -/
theorem L_xleaves {S H : TB} {tg : Nat → Nat} {el : Nat → Nat} (hW : Wst S) (hWH : Wha H) (p : Int32) {j b : Nat} (hj : j < H.1) (h6 : H.1 ≤ 6) : ∀ (d k f : Nat) (c : Int64) (h : HS), k + d = S.1 → d < f → XL tg h 33 1 S.1 el → (∀ i, i < S.1 → Ost S tg h i (el i)) → Oha H tg h j b → Wx tg h → Gz h → ∃ h', l_X11_leaves_27 p b f c (nI k) h = some (lvG S H j d k c, h') ∧ Oha H tg h' j b ∧ Gz h' ∧ Wx tg h' ∧ Fx (fun b => b = 48 ∨ b = 49) h h' := by
  intro d
  induction d with
  | zero =>
    intro k f c h hk hf hl ho ob hw hz
    obtain ⟨f, rfl⟩ : ∃ f', f = f' + 1 := ⟨f - 1, by omega⟩
    have h8 := hl.2.2.1
    refine ⟨h, ?_, ob, hz, hw, Fx.rf⟩
    rw [l_X11_leaves_27, if_pos hl.1, hl.size, Option.bind_some, if_pos (nI_le (by omega) (by omega)), lvG]
  | succ d ih =>
    intro k f c h hk hf hl ho ob hw hz
    obtain ⟨f, rfl⟩ : ∃ f', f = f' + 1 := ⟨f - 1, by omega⟩
    have h8 := hl.2.2.1
    have hk' : k < S.1 := by omega
    have oa := ho k hk'
    have ha := hw.1 (el k) (by have := oa.1; omega)
    have hst : isSt (hT h (el k)) = true := by rw [oa.2.1]; exact kcl_st _
    obtain ⟨h1, s1, s2, s3, s4, s5, s6⟩ := X_mostWinning hW hWH hk' hj h8 h6 oa ob hw hz
    have hl1 := hl.fx s6 (by have := hw.2.2; omega) (fun _ _ => rfl) hw (by decide) (by decide) (fun b hb z => by have := hw.1 b (by omega); omega)
    have ho1 : ∀ i, i < S.1 → Ost S tg h1 i (el i) := fun i hi => (ho i hi).fx hw s6 (fun _ _ => rfl) (by have := hw.1 (el i) (by have := (ho i hi).1; omega); omega)
    obtain ⟨h', u1, u2, u3, u4, u5⟩ := ih (k + 1) f (c + lvT S H j k) h1 (by omega) (by omega) hl1 ho1 s3 s5 s4
    obtain ⟨-, e⟩ := lvT_b hW hWH hk' hj
    have p4 : hI h (el k) 4 = S.2 3 k := oa.2.2.2.2.2.2.1
    have p5 : hI h1 (el k) 5 = S.2 4 k := s2.2.2.2.2.2.2.2.1
    have b4 : hI h b 4 = allI H j := ob.2.2.2.2.2.2
    refine ⟨h', ?_, u2, u3, u4, s6.tr u5⟩
    rw [l_X11_leaves_27, if_pos hl.1, hl.size, Option.bind_some, if_neg (nI_ge (by omega) (by omega)), hl.get hk', Option.bind_some, om_some, if_pos hst, if_pos ob.2.1, s1, Option.bind_some, p4, b4, nI_1, lvG]
    rw [show hI (bw S H k j, h1).2 (el k) 5 = S.2 4 k from p5, e]
    exact u1
theorem X_leaves {S H : TB} {tg : Nat → Nat} {h : HS} (hS : Xst S tg h) (hW : Wst S) (hH : Xha H tg h) (hWH : Wha H) (hw : Wx tg h) (hz : Gz h) (j p : Int32) : ∃ h', f_X11_leaves j p h = some (a_leaves S H j p, h') ∧ Gz h' ∧ Wx tg h' ∧ Fx (fun b => b = 48 ∨ b = 49) h h' := by
  obtain ⟨el, hl, ho⟩ := hS
  have h8 := hl.2.2.1
  have h6 := hH.1
  rcases X_handAt hH j with ⟨j, b, hj, rfl, hzh, hf2, ob⟩ | ⟨hzh, hf2⟩
  · have hcj : (nI j).toNatClampNeg = j := nI_clamp (by omega)
    cases hp : inZ p.toInt 0 1
    · refine ⟨h, ?_, hz, hw, Fx.rf⟩
      unfold f_X11_leaves a_leaves
      rw [hf2, isBit_inZ, hp, hzh]
      simp only [Option.bind_some, om_some, if_true, Bool.false_eq_true, if_false]
    · obtain ⟨h', s1, s2, s3, s4, s5⟩ := L_xleaves hW hWH p hj h6 S.1 0 1000 0 h (by omega) (by omega) hl ho ob hw hz
      have s1' : l_X11_leaves_27 p b 1000 (0 : Int64) (0 : Int32) h = some (lvG S H j S.1 0 0, h') := s1
      have az := allI_Z hWH hj
      have lz := lvG_b (S := S) hW hWH hj S.1 0 0 (by omega) (by omega) (by decide) (by decide)
      generalize hL : lvG S H j S.1 0 0 = L at s1' lz
      have hlo := X_lowest (a := L) (b := (allI H j).toInt64) (by omega) (by rw [Int32.toInt_toInt64]; omega) p
      have b4 : hI h' b 4 = allI H j := s2.2.2.2.2.2.2
      refine ⟨h', ?_, s3, s4, s5⟩
      unfold f_X11_leaves a_leaves
      rw [hf2, isBit_inZ, hp, hzh, hcj, hL]
      simp only [Option.bind_some, om_some, if_true, s1', if_pos s2.2.1, b4, hlo]
  · refine ⟨h, ?_, hz, hw, Fx.rf⟩
    unfold f_X11_leaves a_leaves
    rw [hf2, hzh]
    simp only [Option.bind_some, om_none, Bool.false_eq_true, if_false]
