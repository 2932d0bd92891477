/-! ===== the class: stalls and hands ===== -/
def kcl (k : Int32) : Nat := if k = 1 then 6 else if k = 2 then 12 else if k = 3 then 9 else if k = 4 then 2 else if k = 5 then 3 else 10
theorem kcl_st (k : Int32) : isSt (kcl k) = true := by
  unfold kcl
  split; rfl
  split; rfl
  split; rfl
  split; rfl
  split <;> rfl
theorem kcl_0 (k : Int32) : kcl k ≠ 0 := fun z => by have := kcl_st k; rw [z] at this; cases this
def Ost (S : TB) (tg : Nat → Nat) (h : HS) (i a : Nat) : Prop := tg a = 10 + i ∧ hT h a = kcl (S.2 0 i) ∧ hI h a 0 = S.2 0 i ∧ hI h a 1 = S.2 1 i / 100 ∧ hI h a 2 = S.2 1 i - S.2 1 i / 100 * 100 ∧ hI h a 3 = S.2 2 i ∧ hI h a 4 = S.2 3 i ∧ hI h a 5 = S.2 4 i ∧ hI h a 6 = S.2 5 i ∧ hI h a 7 = S.2 6 i
def Oha (S : TB) (tg : Nat → Nat) (h : HS) (i a : Nat) : Prop := tg a = 20 + i ∧ hT h a = 5 ∧ hI h a 0 = S.2 0 i ∧ hI h a 1 = S.2 1 i ∧ hI h a 2 = S.2 2 i ∧ hI h a 3 = 2 * S.2 2 i + 1 ∧ hI h a 4 = (2 * S.2 2 i + 1) * (2 * S.2 2 i + 1)
def Xst (S : TB) (tg : Nat → Nat) (h : HS) : Prop := ∃ el, XL tg h 33 1 S.1 el ∧ ∀ i, i < S.1 → Ost S tg h i (el i)
def Xha (S : TB) (tg : Nat → Nat) (h : HS) : Prop := S.1 ≤ 6 ∧ ∃ el, XL tg h 34 2 S.1 el ∧ ∀ i, i < S.1 → Oha S tg h i (el i)
theorem Ost.fx {S : TB} {tg tg' : Nat → Nat} {A : Nat → Prop} {h h' : HS} {i a : Nat} (ho : Ost S tg h i a) (hw : Wx tg h) (F : Fx A h h') (ht : ∀ b, b < hN h → tg' b = tg b) (hA : ¬ A a) : Ost S tg' h' i a := by
  obtain ⟨o0, o1, o2, o3, o4, o5, o6, o7, o8, o9⟩ := ho
  have hlt := (hw.1 a (by omega)).2
  have hI' := (F.2 a hlt hA).1
  exact ⟨by rw [ht a hlt]; exact o0, F.t o1 (kcl_0 _), by rw [hI']; exact o2, by rw [hI']; exact o3, by rw [hI']; exact o4, by rw [hI']; exact o5, by rw [hI']; exact o6, by rw [hI']; exact o7, by rw [hI']; exact o8, by rw [hI']; exact o9⟩
theorem Oha.fx {S : TB} {tg tg' : Nat → Nat} {A : Nat → Prop} {h h' : HS} {i a : Nat} (ho : Oha S tg h i a) (hw : Wx tg h) (F : Fx A h h') (ht : ∀ b, b < hN h → tg' b = tg b) (hA : ¬ A a) : Oha S tg' h' i a := by
  obtain ⟨o0, o1, o2, o3, o4, o5, o6⟩ := ho
  have hlt := (hw.1 a (by omega)).2
  have hI' := (F.2 a hlt hA).1
  exact ⟨by rw [ht a hlt]; exact o0, F.t o1 (by decide), by rw [hI']; exact o2, by rw [hI']; exact o3, by rw [hI']; exact o4, by rw [hI']; exact o5, by rw [hI']; exact o6⟩
theorem Xst.fx {S : TB} {tg tg' : Nat → Nat} {A : Nat → Prop} {h h' : HS} (hX : Xst S tg h) (hw : Wx tg h) (F : Fx A h h') (ht : ∀ b, b < hN h → tg' b = tg b) (hA : ∀ b, b = 33 ∨ tg b = 1 ∨ (10 ≤ tg b ∧ tg b < 18) → ¬ A b) : Xst S tg' h' := by
  obtain ⟨el, hl, ho⟩ := hX
  have h8 := hl.2.2.1
  exact ⟨el, hl.fx F (by have := hw.2.2; omega) ht hw (by decide) (hA _ (Or.inl rfl)) (fun b hb => hA b (Or.inr (Or.inl hb))), fun i hi => (ho i hi).fx hw F ht (hA _ (Or.inr (Or.inr (by have := (ho i hi).1; omega))))⟩
theorem Xha.fx {S : TB} {tg tg' : Nat → Nat} {A : Nat → Prop} {h h' : HS} (hX : Xha S tg h) (hw : Wx tg h) (F : Fx A h h') (ht : ∀ b, b < hN h → tg' b = tg b) (hA : ∀ b, b = 34 ∨ tg b = 2 ∨ (20 ≤ tg b ∧ tg b < 26) → ¬ A b) : Xha S tg' h' := by
  obtain ⟨h6, el, hl, ho⟩ := hX
  exact ⟨h6, el, hl.fx F (by have := hw.2.2; omega) ht hw (by decide) (hA _ (Or.inl rfl)) (fun b hb => hA b (Or.inr (Or.inl hb))), fun i hi => (ho i hi).fx hw F ht (hA _ (Or.inr (Or.inr (by have := (ho i hi).1; omega))))⟩
theorem cnt_pred2 {n : Nat} (h : n ≤ 1000) : (nI n - (1 : Int32)).toInt = (n : Int) - 1 := by
  rw [i32_subZ (by rw [nI_Z (by omega)]; simp; omega) (by rw [nI_Z (by omega)]; simp; omega), nI_Z (by omega)]
  rfl
theorem X_stallAt {S : TB} {tg : Nat → Nat} {h : HS} (hX : Xst S tg h) (s : Int32) : (∃ i a, i < S.1 ∧ s = nI i ∧ inZ s.toInt 0 (S.1 - 1) = true ∧ f_X11_stallAt s h = some (some a) ∧ Ost S tg h i a ∧ ∀ el, XL tg h 33 1 S.1 el → el i = a) ∨ (inZ s.toInt 0 (S.1 - 1) = false ∧ f_X11_stallAt s h = some none) := by
  obtain ⟨el, hl, ho⟩ := hX
  have h8 := hl.2.2.1
  have hc := cnt_pred2 (n := S.1) (by omega)
  rcases ix_case s S.1 with ⟨i, hi, rfl, hz⟩ | hz
  · refine Or.inl ⟨i, el i, hi, rfl, hz, ?_, ho i hi, fun el2 h2 => h2.uniq hl hi⟩
    unfold f_X11_stallAt
    simp only [if_pos hl.1, hl.size, hl.get hi, f_isIn_eq, Option.bind_some, hc, z_0, hz, if_true, om_some, (ho i hi).2.1, kcl_st]
  · refine Or.inr ⟨hz, ?_⟩
    unfold f_X11_stallAt
    simp only [if_pos hl.1, hl.size, f_isIn_eq, Option.bind_some, hc, z_0, hz]
    rfl
theorem X_handAt {S : TB} {tg : Nat → Nat} {h : HS} (hX : Xha S tg h) (s : Int32) : (∃ i a, i < S.1 ∧ s = nI i ∧ inZ s.toInt 0 (S.1 - 1) = true ∧ f_X11_handAt s h = some (some a) ∧ Oha S tg h i a) ∨ (inZ s.toInt 0 (S.1 - 1) = false ∧ f_X11_handAt s h = some none) := by
  obtain ⟨h6, el, hl, ho⟩ := hX
  have hc := cnt_pred2 (n := S.1) (by omega)
  rcases ix_case s S.1 with ⟨i, hi, rfl, hz⟩ | hz
  · refine Or.inl ⟨i, el i, hi, rfl, hz, ?_, ho i hi⟩
    unfold f_X11_handAt
    simp only [if_pos hl.1, hl.size, hl.get hi, f_isIn_eq, Option.bind_some, hc, z_0, hz, if_true, om_some, (ho i hi).2.1]
  · refine Or.inr ⟨hz, ?_⟩
    unfold f_X11_handAt
    simp only [if_pos hl.1, hl.size, f_isIn_eq, Option.bind_some, hc, z_0, hz]
    rfl
def iniS (a : Nat) (k p z c : Int32) (h : HS) : HS := sI (sI (sI (sI (sI (sI (sI (sI h a 5 0) a 6 0) a 7 0) a 0 k) a 1 (p / 100)) a 2 (p - p / 100 * 100)) a 3 z) a 4 c
theorem f_X8_ini {a : Nat} {h : HS} (ha : isSt (hT h a) = true) (k p z c : Int32) : f_X8_init a k p z c h = some (iniS a k p z c h) := by
  unfold f_X8_init
  rw [if_pos ha, bh_eq]
  rfl
theorem newStall_eq {h : HS} (hz : hT h (hN h) = 0) (k p z c : Int32) : f_X11_newStall k p z c h = some (some (hN h), iniS (hN h) k p z c (hNew h (kcl k) 0 8)) := by
  have hs : ∀ kd, isSt kd = true → f_X8_init (hN h) k p z c (hNew h kd 0 8) = some (iniS (hN h) k p z c (hNew h kd 0 8)) := fun kd q => f_X8_ini (by rw [hT_nw, if_pos rfl]; exact q) k p z c
  unfold f_X11_newStall f_X7_init f_X1_init f_X10_init f_X4_init f_X0_init kcl
  simp only [if_pos hz, bh_eq]
  split
  · rw [hs 6 rfl]; rfl
  split
  · rw [hs 12 rfl]; rfl
  split
  · rw [hs 9 rfl]; rfl
  split
  · rw [hs 2 rfl]; rfl
  split
  · rw [hs 3 rfl]; rfl
  · rw [hs 10 rfl]; rfl
theorem okS_f {k p z c : Int32} (ok : ¬ okStall k p z c = true) : inZ k.toInt 0 5 = false ∨ (inZ k.toInt 0 5 = true ∧ plB p = false) ∨ (inZ k.toInt 0 5 = true ∧ plB p = true ∧ inZ z.toInt 0 9 = false) ∨ (inZ k.toInt 0 5 = true ∧ plB p = true ∧ inZ z.toInt 0 9 = true ∧ inZ c.toInt 1 99 = false) := by
  simp only [okStall] at ok
  revert ok
  cases inZ k.toInt 0 5 <;> cases plB p <;> cases inZ z.toInt 0 9 <;> cases inZ c.toInt 1 99 <;> simp
theorem isEl_k (k : Int32) : isEl (kcl k) = true := by
  unfold isEl
  rw [kcl_st]; rfl
theorem X_stall {S : TB} {tg : Nat → Nat} {h : HS} (hX : Xst S tg h) (hw : Wx tg h) (k p z c : Int32) : ∃ (h' : HS) (tg' : Nat → Nat), f_X11_stall k p z c h = some (a_stall S k p z c, h') ∧ Xst (u_stall S k p z c) tg' h' ∧ Wx tg' h' ∧ (∀ b, b < hN h → tg' b = tg b) ∧ Fx (fun b => b = 33 ∨ tg b = 1) h h' := by
  have e5 : (5 : Int32).toInt = 5 := rfl
  have e9 : (9 : Int32).toInt = 9 := rfl
  have e1 : (1 : Int32).toInt = 1 := rfl
  have e99 : (99 : Int32).toInt = 99 := rfl
  by_cases ok : okStall k p z c = true
  · have ok2 := ok
    simp only [okStall, Bool.and_eq_true] at ok2
    obtain ⟨⟨⟨o1, o2⟩, o3⟩, o4⟩ := ok2
    have hX0 := hX
    obtain ⟨el, hl, ho⟩ := hX
    have h8 := hl.2.2.1
    have hz := hw.2.1 (hN h) (Nat.le_refl _)
    by_cases h9 : S.1 = 8
    · refine ⟨h, tg, ?_, by rw [u_stall, if_pos ok, if_pos h9]; exact hX0, hw, fun _ _ => rfl, Fx.rf⟩
      unfold f_X11_stall
      have h8' : ¬ nI 8 < 8 := by decide
      simp only [f_isIn_eq, f_pl11_eq, e5, e9, z_0, e1, e99, o1, o2, o3, o4, Option.bind_some, if_true, a_stall, ok, h9, if_pos hl.1, hl.size, if_neg h8']
    · have hlt : S.1 < 8 := by omega
      have h8' : nI S.1 < 8 := by rw [show (8 : Int32) = nI 8 from rfl]; exact nI_lt hlt (by decide)
      -- the stall is made
      have F1 : Fx (fun _ => False) h (iniS (hN h) k p z c (hNew h (kcl k) 0 8)) := by
        unfold iniS
        refine Fx.sI (Fx.sI (Fx.sI (Fx.sI (Fx.sI (Fx.sI (Fx.sI (Fx.sI (Fx.nw Fx.rf hz) ?_) ?_) ?_) ?_) ?_) ?_) ?_) ?_ <;> exact Or.inr (Nat.le_refl _)
      generalize hh1 : iniS (hN h) k p z c (hNew h (kcl k) 0 8) = h1 at F1
      have hN1 : hN h1 = hN h + 1 := by rw [← hh1]; rfl
      have hw1 : Wx (fun b => if b = hN h then 10 + S.1 else tg b) h1 := by
        refine ⟨fun b hb => ?_, fun b hb => ?_, by rw [hN1]; have := hw.2.2; omega⟩
        · rw [hN1]
          by_cases e : b = hN h
          · have := hw.2.2; omega
          · have h5 := hw.1 b (by simpa only [if_neg e] using hb); omega
        · rw [hN1] at hb
          rw [← hh1]
          simp only [iniS, hI_sI, hI_sL, hI_sR, hL_sI, hL_sL, hL_sR, hR_sI, hR_sL, hR_sR, hT_sI, hT_sL, hT_sR, hLn_sI, hLn_sL, hLn_sR, hN_sI, hN_sL, hN_sR, hT_nw, if_neg (show ¬ b = hN h by omega)]
          exact hw.2.1 b (by omega)
      have ht1 : ∀ b, b < hN h → (fun b => if b = hN h then 10 + S.1 else tg b) b = tg b := fun b hb => if_neg (by omega)
      have hl1 := hl.fx F1 (by have := hw.2.2; omega) ht1 hw (by decide) (fun q => q) (fun _ _ q => q)
      have hTn : hT h1 (hN h) = kcl k := by rw [← hh1]; simp only [iniS, hI_sI, hI_sL, hI_sR, hL_sI, hL_sL, hL_sR, hR_sI, hR_sL, hR_sR, hT_sI, hT_sL, hT_sR, hLn_sI, hLn_sL, hLn_sR, hN_sI, hN_sL, hN_sR, hT_nw, if_true]
      obtain ⟨h2, tg2, q1, q2, q3, q4, q5, q6⟩ := hl1.add hw1 (Or.inl rfl) (by decide) hlt (a := hN h) (by rw [hTn]; exact isEl_k k)
      have hN0 : hN h < hN h1 := by omega
      refine ⟨h2, tg2, ?_, ?_, q3, fun b hb => (q4 b (by omega)).trans (ht1 b hb), ?_⟩
      · unfold f_X11_stall
        simp only [f_isIn_eq, f_pl11_eq, e5, e9, z_0, e1, e99, o1, o2, o3, o4, Option.bind_some, if_true, a_stall, ok, if_pos hl.1, hl.size, if_pos h8', newStall_eq hz, om_some, hh1, q1, q2.size, nI_pred, if_neg h9]
      · rw [u_stall, if_pos ok, if_neg h9]
        refine ⟨_, q2, fun i hi => ?_⟩
        have hi' : i < S.1 + 1 := hi
        by_cases e : i = S.1
        · subst e
          have o : Ost (tpush S (rowS k p z c)) (fun b => if b = hN h then 10 + S.1 else tg b) h1 S.1 (hN h) := by
            refine ⟨if_pos rfl, ?_, ?_, ?_, ?_, ?_, ?_, ?_, ?_, ?_⟩
            · rw [hTn]; simp [tpush, rowS]
            all_goals (rw [← hh1]; simp [iniS, hI_sI, hI_sL, hI_sR, hL_sI, hL_sL, hL_sR, hR_sI, hR_sL, hR_sR, hT_sI, hT_sL, hT_sR, hLn_sI, hLn_sL, hLn_sR, hN_sI, hN_sL, hN_sR, tpush, rowS])
          simp only [if_true]
          exact o.fx hw1 q6 q4 (fun q => by
            rcases q with q | q
            · have := hw.2.2; omega
            · simp only [if_true] at q; omega)
        · simp only [if_neg e]
          have o := ho i (by omega)
          have o2 : Ost (tpush S (rowS k p z c)) tg h i (el i) := by
            simp only [Ost, tpush, if_neg e]; exact o
          have hlt2 := (hw.1 (el i) (by have := o.1; omega)).2
          have htl : (fun b => if b = hN h then 10 + S.1 else tg b) (el i) = tg (el i) := ht1 _ hlt2
          refine (o2.fx hw F1 ht1 (fun q => q)).fx hw1 q6 q4 (fun q => ?_)
          rcases q with q | q
          · have := hw.1 (el i) (by have := o.1; omega); omega
          · simp only [if_neg (show ¬ el i = hN h by omega), o.1] at q; omega
      · refine (F1.mono (fun _ _ q => q.elim)).tr ?_
        refine ⟨q6.1, fun b hb hA => q6.2 b hb (fun q => hA ?_)⟩
        rcases q with q | q
        · exact Or.inl q
        · by_cases e : b = hN h
          · simp only [if_pos e] at q; omega
          · simp only [if_neg e] at q; exact Or.inr q
  · refine ⟨h, tg, ?_, by rw [u_stall, if_neg ok]; exact hX, hw, fun _ _ => rfl, Fx.rf⟩
    unfold f_X11_stall a_stall
    rw [if_neg ok]
    simp only [f_isIn_eq, f_pl11_eq, e5, e9, z_0, e1, e99, Option.bind_some]
    rcases okS_f ok with q | ⟨q1, q2⟩ | ⟨q1, q2, q3⟩ | ⟨q1, q2, q3, q4⟩
    · simp [q]
    · simp [q1, q2]
    · simp [q1, q2, q3]
    · simp [q1, q2, q3, q4]
