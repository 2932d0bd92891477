/-! ===== make: both ===== -/
theorem L_xmz {H : TB} {tg : Nat → Nat} (hWH : Wha H) (h6 : H.1 ≤ 6) {k cost od left : Int32} (hk : 0 ≤ k.toInt ∧ k.toInt ≤ 5) {j b : Nat} (hj : j < H.1) : ∀ (d z f : Nat) (q : Int32 × Int32) (h : HS), z + d = 10 → d < f → Oha H tg h j b → Wx tg h → Gz h → ∃ h', l_X11_make_69 k cost od left b f q.1 q.2 (nI z) h = some ((mkZ H j k cost od left d z q).1, h') ∧ Gz h' ∧ Wx tg h' ∧ Fx (fun b => b = 48 ∨ b = 49) h h' := by
  have az := allI_Z hWH hj
  intro d
  induction d with
  | zero =>
    intro z f q h hz hf ob hw hg
    obtain ⟨f, rfl⟩ : ∃ f', f = f' + 1 := ⟨f - 1, by omega⟩
    have : z = 10 := by omega
    subst this
    refine ⟨h, ?_, hg, hw, Fx.rf⟩
    rw [l_X11_make_69, if_pos (by decide), mkZ]
  | succ d ih =>
    intro z f q h hz hf ob hw hg
    obtain ⟨f, rfl⟩ : ∃ f', f = f' + 1 := ⟨f - 1, by omega⟩
    have h9 : ¬ (9 : Int32) < nI z := by rw [i32_lt0, nI_Z (by omega), show (9 : Int32).toInt = 9 from rfl]; omega
    have hz9 : 0 ≤ (nI z).toInt ∧ (nI z).toInt ≤ 9 := by rw [nI_Z (by omega)]; omega
    obtain ⟨h0, h1, s1, s2, s3, s4, s5, s6⟩ := X_mkOne hWH h6 hk hz9 hj ob hw hg
    have wz := bw_Z (S := mkS k (nI z)) hWH (i := 0) hj
    rw [mkZ]
    generalize bw (mkS k (nI z)) H 0 j = w at s2 wz
    have h4 : hI h1 b 4 = allI H j := s3.2.2.2.2.2.2
    have hen := enough (od := od) wz az
    have hlt : ((1000 : Int32) * w / allI H j).toInt64 < od.toInt64 ↔ ¬ od ≤ (1000 : Int32) * w / allI H j := by
      rw [i64_lt0, Int32.toInt_toInt64, Int32.toInt_toInt64, i32_le0]; omega
    rw [l_X11_make_69, if_neg h9, s1, Option.bind_some, om_some, s2, Option.bind_some, if_pos s3.2.1, h4, hen, Option.bind_some]
    by_cases c : od ≤ (1000 : Int32) * w / allI H j
    · have hl := L_xmk (k0 := k) (od := od) (all := allI H j) (cost := cost) (left := left) (w := w) (z := nI z) s3.2.1 h4 99 1 1000 q (by omega) (by omega)
      have hl' : l_X11_make_127 k cost od left b (nI z) w (1 : Int32) h1 1000 q.1 q.2 (1 : Int32) = some (mkP (allI H j) cost left w (nI z) 99 1 q) := hl
      obtain ⟨h', u1, u2, u3, u4⟩ := ih (z + 1) f (mkP (allI H j) cost left w (nI z) 99 1 q) h1 (by omega) (by omega) s3 s5 s4
      refine ⟨h', ?_, u2, u3, s6.tr u4⟩
      rw [if_neg (fun y => hlt.mp y c), Option.bind_some, hl', Option.bind_some, nI_1, u1, if_pos c]
    · obtain ⟨h', u1, u2, u3, u4⟩ := ih (z + 1) f q h1 (by omega) (by omega) s3 s5 s4
      refine ⟨h', ?_, u2, u3, s6.tr u4⟩
      rw [if_pos (hlt.mpr c), Option.bind_some, X_mk0, Option.bind_some, nI_1, u1, if_neg c]
noncomputable def a_make (H : TB) (k j cost od left : Int32) : Int32 := if inZ k.toInt 0 5 = true then (if inZ j.toInt 0 (H.1 - 1) = true then (if inZ cost.toInt 0 999 = true then (if inZ od.toInt 0 1000 = true then (if inZ left.toInt (-999) 99 = true then (mkZ H j.toNatClampNeg k cost od left 10 0 (-1, 0)).1 else -2) else -2) else -2) else -2) else -2
theorem M_make {H : TB} {h : HS} (hH : Mha H h) (hWH : Wha H) (k j cost od left : Int32) : ∃ h', f_X12_make k j cost od left h = some (a_make H k j cost od left, h') ∧ Fr 0 h h' := by
  unfold f_X12_make a_make
  simp only [f_in_eq, M_isHand hH, Int32.toInt_toInt64, show (0 : Int64).toInt = 0 from rfl, show (5 : Int64).toInt = 5 from rfl, show (999 : Int64).toInt = 999 from rfl, show (1000 : Int64).toInt = 1000 from rfl, show (-999 : Int64).toInt = -999 from rfl, show (99 : Int64).toInt = 99 from rfl, Option.bind_some]
  cases hk : inZ k.toInt 0 5
  · exact ⟨h, by simp, Fr.rf⟩
  rcases ix_case j H.1 with ⟨j, hj, rfl, hz2⟩ | hz2
  · cases hc : inZ cost.toInt 0 999
    · exact ⟨h, by simp [hz2], Fr.rf⟩
    cases ho : inZ od.toInt 0 1000
    · exact ⟨h, by simp [hz2], Fr.rf⟩
    cases hl : inZ left.toInt (-999) 99
    · exact ⟨h, by simp [hz2], Fr.rf⟩
    have h6 := hH.2.1
    have hcj : (nI j).toNatClampNeg = j := nI_clamp (by omega)
    obtain ⟨h', s1, s2⟩ := L_mmz (k := k) (cost := cost) (od := od) (left := left) hWH (inZ_t.mp hk) hj 10 0 1000 (-1, 0) h (by omega) (by omega) hH
    have s1' : l_X12_make_79 k (nI j) cost od left (allI H j) 1000 (-1 : Int32) (0 : Int32) (0 : Int32) h = some ((mkZ H j k cost od left 10 0 (-1, 0)).1, h') := s1
    refine ⟨h', ?_, s2⟩
    simp only [hz2, if_true, M_allOf hH hj, Option.bind_some, s1', hcj]
  · exact ⟨h, by simp [hz2], Fr.rf⟩
theorem X_make {H : TB} {tg : Nat → Nat} {h : HS} (hH : Xha H tg h) (hWH : Wha H) (hw : Wx tg h) (hg : Gz h) (k j cost od left : Int32) : ∃ h', f_X11_make k j cost od left h = some (a_make H k j cost od left, h') ∧ Gz h' ∧ Wx tg h' ∧ Fx (fun b => b = 48 ∨ b = 49) h h' := by
  have h6 := hH.1
  unfold f_X11_make a_make
  simp only [f_isIn_eq, z_0, show (5 : Int32).toInt = 5 from rfl, show (999 : Int32).toInt = 999 from rfl, show (1000 : Int32).toInt = 1000 from rfl, show (-999 : Int32).toInt = -999 from rfl, show (99 : Int32).toInt = 99 from rfl, Option.bind_some]
  rcases X_handAt hH j with ⟨j, b, hj, rfl, hzh, hf2, ob⟩ | ⟨hzh, hf2⟩
  · cases hk : inZ k.toInt 0 5
    · exact ⟨h, by simp [hf2, om_some], hg, hw, Fx.rf⟩
    cases hc : inZ cost.toInt 0 999
    · exact ⟨h, by simp [hzh, hf2, om_some], hg, hw, Fx.rf⟩
    cases ho : inZ od.toInt 0 1000
    · exact ⟨h, by simp [hzh, hf2, om_some], hg, hw, Fx.rf⟩
    cases hl : inZ left.toInt (-999) 99
    · exact ⟨h, by simp [hzh, hf2, om_some], hg, hw, Fx.rf⟩
    have hcj : (nI j).toNatClampNeg = j := nI_clamp (by omega)
    obtain ⟨h', s1, s2, s3, s4⟩ := L_xmz (k := k) (cost := cost) (od := od) (left := left) hWH h6 (inZ_t.mp hk) hj 10 0 1000 (-1, 0) h (by omega) (by omega) ob hw hg
    have s1' : l_X11_make_69 k cost od left b 1000 (-1 : Int32) (0 : Int32) (0 : Int32) h = some ((mkZ H j k cost od left 10 0 (-1, 0)).1, h') := s1
    refine ⟨h', ?_, s2, s3, s4⟩
    simp only [hzh, hf2, om_some, if_true, Option.bind_some, s1', hcj]
  · refine ⟨h, ?_, hg, hw, Fx.rf⟩
    rw [hf2, Option.bind_some, om_none, hzh]
    cases inZ k.toInt 0 5 <;> rfl
