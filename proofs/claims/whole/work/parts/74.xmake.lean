/-! ===== make: one size in the class ===== -/
theorem X_mkOne {H : TB} {tg : Nat → Nat} {h : HS} (hWH : Wha H) (h6 : H.1 ≤ 6) {k z : Int32} (hk : 0 ≤ k.toInt ∧ k.toInt ≤ 5) (hz9 : 0 ≤ z.toInt ∧ z.toInt ≤ 9) {j b : Nat} (hj : j < H.1) (ob : Oha H tg h j b) (hw : Wx tg h) (hz : Gz h) : ∃ h1 h', f_X11_newStall k (1010 : Int32) z (1 : Int32) h = some (some (hN h), h1) ∧ f_X11_mostWinning (hN h) b h1 = some (bw (mkS k z) H 0 j, h') ∧ Oha H tg h' j b ∧ Gz h' ∧ Wx tg h' ∧ Fx (fun b => b = 48 ∨ b = 49) h h' := by
  have hz0 := hw.2.1 (hN h) (Nat.le_refl _)
  have F1 : Fx (fun _ => False) h (iniS (hN h) k 1010 z 1 (hNew h (kcl k) 0 8)) := by
    unfold iniS
    refine Fx.sI (Fx.sI (Fx.sI (Fx.sI (Fx.sI (Fx.sI (Fx.sI (Fx.sI (Fx.nw Fx.rf hz0) ?_) ?_) ?_) ?_) ?_) ?_) ?_) ?_ <;> exact Or.inr (Nat.le_refl _)
  have hns := newStall_eq hz0 k 1010 z 1
  generalize hh1 : iniS (hN h) k 1010 z 1 (hNew h (kcl k) 0 8) = h1 at F1 hns
  have hN1 : hN h1 = hN h + 1 := by rw [← hh1]; rfl
  have hw1 : Wx (fun b => if b = hN h then 10 else tg b) h1 := by
    refine ⟨fun b hb => ?_, fun b hb => ?_, by rw [hN1]; have := hw.2.2; omega⟩
    · rw [hN1]
      by_cases e : b = hN h
      · have := hw.2.2; omega
      · have h5 := hw.1 b (by simpa only [if_neg e] using hb); omega
    · rw [hN1] at hb
      rw [← hh1]
      simp only [iniS, hI_sI, hI_sL, hI_sR, hL_sI, hL_sL, hL_sR, hR_sI, hR_sL, hR_sR, hT_sI, hT_sL, hT_sR, hLn_sI, hLn_sL, hLn_sR, hN_sI, hN_sL, hN_sR, hT_nw, if_neg (show ¬ b = hN h by omega)]
      exact hw.2.1 b (by omega)
  have ht1 : ∀ b, b < hN h → (fun b => if b = hN h then 10 else tg b) b = tg b := fun b hb => if_neg (by omega)
  have hTn : hT h1 (hN h) = kcl k := by rw [← hh1]; simp only [iniS, hI_sI, hI_sL, hI_sR, hL_sI, hL_sL, hL_sR, hR_sI, hR_sL, hR_sR, hT_sI, hT_sL, hT_sR, hLn_sI, hLn_sL, hLn_sR, hN_sI, hN_sL, hN_sR, hT_nw, if_true]
  have oa : Ost (mkS k z) (fun b => if b = hN h then 10 else tg b) h1 0 (hN h) := by
    refine ⟨if_pos rfl, hTn, ?_, ?_, ?_, ?_, ?_, ?_, ?_, ?_⟩
    all_goals (rw [← hh1]; simp [iniS, hI_sI, hI_sL, hI_sR, hL_sI, hL_sL, hL_sR, hR_sI, hR_sL, hR_sR, hT_sI, hT_sL, hT_sR, hLn_sI, hLn_sL, hLn_sR, hN_sI, hN_sL, hN_sR, mkS, rowS])
  have ob1 := ob.fx hw F1 ht1 (fun q => q)
  have h89 := hw.2.2
  have q49 := (F1.2 49 (by omega) (fun q => q)).1
  have hzz1 : Gz h1 := ⟨fun q hq => by rw [q49]; exact hz.1 q hq, fun q hq => by rw [q49]; exact hz.2 q hq⟩
  obtain ⟨h', s1, s2, s3, s4, s5, s6⟩ := X_mostWinning (S := mkS k z) (i := 0) (mkS_W hk hz9) hWH (Nat.lt_succ_self 0) hj (by decide : (1 : Nat) ≤ 8) h6 oa ob1 hw1 hzz1
  have hbl := (hw.1 b (by have := ob.1; omega)).2
  have F2 : Fx (fun b => b = 48 ∨ b = 49) h h' := (F1.mono (fun _ _ q => False.elim q)).tr s6
  refine ⟨h1, h', hns, s1, ?_, s4, ?_, F2⟩
  · obtain ⟨o0, o⟩ := s3
    exact ⟨by rw [← ht1 b hbl]; exact o0, o⟩
  · refine ⟨fun c hc => ?_, s5.2.1, s5.2.2⟩
    have := hw.1 c hc
    exact ⟨this.1, Nat.lt_of_lt_of_le this.2 F2.1.1⟩
