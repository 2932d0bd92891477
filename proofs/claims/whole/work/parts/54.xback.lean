/-! ===== image, back: the class ===== -/
theorem Xim.fx {I : IM} {A : Nat → Prop} {tg : Nat → Nat} {h h' : HS} (hX : Xim I h) (hw : Wx tg h) (F : Fx A h h') (h1 : ¬ A 44) (h2 : ¬ A 45) : Xim I h' := by
  have q1 := (F.2 44 (by have := hw.2.2; omega) h1).1
  have q2 := (F.2 45 (by have := hw.2.2; omega) h2).1
  unfold Xim
  simp only [q1, q2]
  exact hX
theorem keep_eq {S : TB} {tg : Nat → Nat} {h : HS} {i a : Nat} (hi : i < 8) (o : Ost S tg h i a) (ha : a ≠ 45) : f_X5_keep (nI i) a h = some (sI (sI (sI (sI h 45 (4 * i) (S.2 3 i)) 45 (4 * i + 1) (S.2 4 i)) 45 (4 * i + 2) (S.2 5 i)) 45 (4 * i + 3) (S.2 6 i)) := by
  obtain ⟨o0, o1, o2, o3, o4, o5, o6, o7, o8, o9⟩ := o
  have e4 : nI i * (4 : Int32) = nI (4 * i) := by rw [Nat.mul_comm]; exact pk_mul i 4
  have a0 : nI (4 * i) + (0 : Int32) = nI (4 * i) := nI_add _ 0
  have a1 : nI (4 * i) + (1 : Int32) = nI (4 * i + 1) := nI_add _ 1
  have a2 : nI (4 * i) + (2 : Int32) = nI (4 * i + 2) := nI_add _ 2
  have a3 : nI (4 * i) + (3 : Int32) = nI (4 * i + 3) := nI_add _ 3
  have x0 := ixb_n (i := 4 * i) (n := 32) (by omega) (by decide)
  have x1 := ixb_n (i := 4 * i + 1) (n := 32) (by omega) (by decide)
  have x2 := ixb_n (i := 4 * i + 2) (n := 32) (by omega) (by decide)
  have x3 := ixb_n (i := 4 * i + 3) (n := 32) (by omega) (by decide)
  have c0 : (nI (4 * i)).toNatClampNeg = 4 * i := nI_clamp (by omega)
  have c1 : (nI (4 * i + 1)).toNatClampNeg = 4 * i + 1 := nI_clamp (by omega)
  have c2 : (nI (4 * i + 2)).toNatClampNeg = 4 * i + 2 := nI_clamp (by omega)
  have c3 : (nI (4 * i + 3)).toNatClampNeg = 4 * i + 3 := nI_clamp (by omega)
  have hz : inZ (nI i).toInt (0 : Int32).toInt (7 : Int32).toInt = true := by
    rw [inZ_t, nI_Z (by omega)]
    exact ⟨by rw [z_0]; omega, by rw [show (7 : Int32).toInt = 7 from rfl]; omega⟩
  have n1 : (0 : Int32) + 1 = 1 := rfl
  have n2 : (1 : Int32) + 1 = 2 := rfl
  have n3 : (2 : Int32) + 1 = 3 := rfl
  have n4 : (3 : Int32) + 1 = 4 := rfl
  have v : ∀ (h2 : HS) (w : Int32), hT h2 a = kcl (S.2 0 i) → f_V_changeable a w h2 = some (hI h2 a (if w = 0 then 4 else if w = 1 then 5 else if w = 2 then 6 else 7)) := fun h2 w e => V_changeable_eq e w
  unfold f_X5_keep
  rw [f_isIn_eq, hz, Option.bind_some, if_pos rfl]
  rw [show (1000 : Nat) = 996 + 1 + 1 + 1 + 1 from rfl, l_X5_keep_12, if_neg (by decide), v _ _ o1, Option.bind_some, e4, a0, if_pos x0, c0, n1]
  rw [l_X5_keep_12, if_neg (by decide), v _ _ (by rw [hT_sI]; exact o1), Option.bind_some, e4, a1, if_pos x1, c1, n2]
  rw [l_X5_keep_12, if_neg (by decide), v _ _ (by rw [hT_sI, hT_sI]; exact o1), Option.bind_some, e4, a2, if_pos x2, c2, n3]
  rw [l_X5_keep_12, if_neg (by decide), v _ _ (by rw [hT_sI, hT_sI, hT_sI]; exact o1), Option.bind_some, e4, a3, if_pos x3, c3, n4]
  rw [show (996 : Nat) = 995 + 1 from rfl, l_X5_keep_12, if_pos (by decide)]
  simp (config := { decide := true }) only [hI_sI, if_neg ha, if_true, if_false, o6, o7, o8, o9]
  rfl
theorem L_ximage {S : TB} {tg : Nat → Nat} : ∀ (d k f : Nat) (h : HS), k + d = S.1 → d < f → Xst S tg h → Wx tg h → (∀ i f, i < k → f < 4 → hI h 45 (4 * i + f) = S.2 (3 + f) i) → ∃ h', l_X11_image_46 f (nI k) h = some h' ∧ (∀ i f, i < S.1 → f < 4 → hI h' 45 (4 * i + f) = S.2 (3 + f) i) ∧ Wx tg h' ∧ Fx (fun b => b = 45) h h' := by
  intro d
  induction d with
  | zero =>
    intro k f h hk hf hS hw hR0
    obtain ⟨f, rfl⟩ : ∃ f', f = f' + 1 := ⟨f - 1, by omega⟩
    obtain ⟨el, hl, ho⟩ := hS
    have h8 := hl.2.2.1
    refine ⟨h, ?_, fun i f hi hf => hR0 i f (by omega) hf, hw, Fx.rf⟩
    rw [l_X11_image_46, if_pos hl.1, hl.size, Option.bind_some, if_pos (nI_le (by omega) (by omega))]
  | succ d ih =>
    intro k f h hk hf hS hw hR0
    obtain ⟨f, rfl⟩ : ∃ f', f = f' + 1 := ⟨f - 1, by omega⟩
    have hS0 := hS
    obtain ⟨el, hl, ho⟩ := hS
    have h8 := hl.2.2.1
    have o := ho k (by omega)
    have ha := hw.1 (el k) (by have := o.1; omega)
    have hst : isSt (hT h (el k)) = true := by rw [o.2.1]; exact kcl_st _
    have F1 : Fx (fun b => b = 45) h (sI (sI (sI (sI h 45 (4 * k) (S.2 3 k)) 45 (4 * k + 1) (S.2 4 k)) 45 (4 * k + 2) (S.2 5 k)) 45 (4 * k + 3) (S.2 6 k)) := Fx.sI (Fx.sI (Fx.sI (Fx.sI Fx.rf (Or.inl rfl)) (Or.inl rfl)) (Or.inl rfl)) (Or.inl rfl)
    have step : l_X11_image_46 (f + 1) (nI k) h = l_X11_image_46 f (nI (k + 1)) (sI (sI (sI (sI h 45 (4 * k) (S.2 3 k)) 45 (4 * k + 1) (S.2 4 k)) 45 (4 * k + 2) (S.2 5 k)) 45 (4 * k + 3) (S.2 6 k)) := by
      rw [l_X11_image_46, if_pos hl.1, hl.size, Option.bind_some, if_neg (nI_ge (by omega) (by omega)), hl.get (by omega), Option.bind_some, om_some, if_pos hst, keep_eq (by omega) o (by omega), Option.bind_some, nI_1]
    rw [step]
    obtain ⟨h', s1, s2, s3, s4⟩ := ih (k + 1) f _ (by omega) (by omega) (hS0.fx hw F1 (fun _ _ => rfl) (fun b hb z => by
        rcases hb with hb | hb | hb
        · omega
        · have := hw.1 b (by omega); omega
        · have := hw.1 b (by omega); omega)) hw.sI.sI.sI.sI (fun i q hi hq => by
      by_cases e : i = k
      · subst e
        rcases (show q = 0 ∨ q = 1 ∨ q = 2 ∨ q = 3 by omega) with e | e | e | e <;> subst e <;> simp [hI_sI, hI_sL, hI_sR, hL_sI, hL_sL, hL_sR, hR_sI, hR_sL, hR_sR, hT_sI, hT_sL, hT_sR, hLn_sI, hLn_sL, hLn_sR, hN_sI, hN_sL, hN_sR]
      · simp only [hI_sI, if_true]
        rw [if_neg (by omega), if_neg (by omega), if_neg (by omega), if_neg (by omega)]
        exact hR0 i q (by omega) hq)
    exact ⟨h', s1, s2, s3, F1.tr s4⟩
theorem X_image {S T : TB} {tg : Nat → Nat} {r : Int32} {h : HS} (hS : Xst S tg h) (hw : Wx tg h) (hT0 : Xtr T h) (hr : hI h 32 3 = r) : ∃ h', f_X11_image h = some (nI T.1, h') ∧ Xim (u_image S T r) h' ∧ Wx tg h' ∧ Fx (fun b => b = 44 ∨ b = 45) h h' := by
  have hS0 := hS
  obtain ⟨el, hl, ho⟩ := hS
  have h8 := hl.2.2.1
  have F1 : Fx (fun b => b = 44) h (sI (sI (sI (sI h 44 0 1) 44 1 (nI S.1)) 44 2 r) 44 3 (nI T.1)) := Fx.sI (Fx.sI (Fx.sI (Fx.sI Fx.rf (Or.inl rfl)) (Or.inl rfl)) (Or.inl rfl)) (Or.inl rfl)
  obtain ⟨h', s1, s2, s3, s4⟩ := L_ximage (S := S) (tg := tg) S.1 0 1000 _ (by omega) (by omega) (hS0.fx hw F1 (fun _ _ => rfl) (fun b hb z => by
        rcases hb with hb | hb | hb
        · omega
        · have := hw.1 b (by omega); omega
        · have := hw.1 b (by omega); omega)) hw.sI.sI.sI.sI (fun i q hi hq => absurd hi (by omega))
  have hlt := hw.2.2
  have q1 := (s4.2 44 (by simp only [hN_sI]; omega) (by decide)).1
  have q2 := (s4.2 32 (by simp only [hN_sI]; omega) (by decide)).1
  have hl1 := XL.size (hl.fx (A := fun b => b = 44) (tg' := tg) (h' := sI h 44 0 1) (Fx.sI Fx.rf (Or.inl rfl)) (by omega) (fun _ _ => rfl) hw (by decide) (by decide) (fun b hb z => by have := hw.1 b (by omega); omega))
  have hT1 : hI h 32 5 = nI T.1 := hT0.1
  refine ⟨h', ?_, ⟨by rw [q1]; simp (config := { decide := true }) [hI_sI, hI_sL, hI_sR, hL_sI, hL_sL, hL_sR, hR_sI, hR_sL, hR_sR, hT_sI, hT_sL, hT_sR, hLn_sI, hLn_sL, hLn_sR, hN_sI, hN_sL, hN_sR, u_image], fun _ => ⟨by rw [q1]; simp (config := { decide := true }) [hI_sI, hI_sL, hI_sR, hL_sI, hL_sL, hL_sR, hR_sI, hR_sL, hR_sR, hT_sI, hT_sL, hT_sR, hLn_sI, hLn_sL, hLn_sR, hN_sI, hN_sL, hN_sR, u_image], h8, by rw [q1]; simp (config := { decide := true }) [hI_sI, hI_sL, hI_sR, hL_sI, hL_sL, hL_sR, hR_sI, hR_sL, hR_sR, hT_sI, hT_sL, hT_sR, hLn_sI, hLn_sL, hLn_sR, hN_sI, hN_sL, hN_sR, u_image], by rw [q1]; simp (config := { decide := true }) [hI_sI, hI_sL, hI_sR, hL_sI, hL_sL, hL_sR, hR_sI, hR_sL, hR_sR, hT_sI, hT_sL, hT_sR, hLn_sI, hLn_sL, hLn_sR, hN_sI, hN_sL, hN_sR, u_image], s2⟩⟩, s3, (F1.mono (fun _ _ => Or.inl)).tr (s4.mono (fun _ _ => Or.inr))⟩
  have s1' : l_X11_image_46 1000 (0 : Int32) (sI (sI (sI (sI h 44 0 1) 44 1 (nI S.1)) 44 2 r) 44 3 (nI T.1)) = some h' := s1
  unfold f_X11_image
  rw [if_pos (by rw [hT_sI]; exact hl.1), hl1, Option.bind_some, bh_eq]
  simp (config := { decide := true }) only [hI_sI, hI_sL, hI_sR, hL_sI, hL_sL, hL_sR, hR_sI, hR_sL, hR_sR, hT_sI, hT_sL, hT_sR, hLn_sI, hLn_sL, hLn_sR, hN_sI, hN_sL, hN_sR, if_true, if_false, hr, hT1]
  rw [s1', Option.bind_some, q2]
  simp (config := { decide := true }) only [hI_sI, hI_sL, hI_sR, hL_sI, hL_sL, hL_sR, hR_sI, hR_sL, hR_sR, hT_sI, hT_sL, hT_sR, hLn_sI, hLn_sL, hLn_sR, hN_sI, hN_sL, hN_sR, if_true, if_false, hT1]
theorem layBack_eq {S : TB} {tg : Nat → Nat} {h : HS} {i a : Nat} (hi : i < 8) (o : Ost S tg h i a) (ha : a ≠ 45) {g : Nat → Nat → Int32} (hg : ∀ f, f < 4 → hI h 45 (4 * i + f) = g (3 + f) i) : f_X5_layBack (nI i) a h = some (sI (sI (sI (sI h a 4 (g 3 i)) a 5 (g 4 i)) a 6 (g 5 i)) a 7 (g 6 i)) := by
  have o1 := o.2.1
  have e4 : nI i * (4 : Int32) = nI (4 * i) := by rw [Nat.mul_comm]; exact pk_mul i 4
  have a0 : nI (4 * i) + (0 : Int32) = nI (4 * i) := nI_add _ 0
  have a1 : nI (4 * i) + (1 : Int32) = nI (4 * i + 1) := nI_add _ 1
  have a2 : nI (4 * i) + (2 : Int32) = nI (4 * i + 2) := nI_add _ 2
  have a3 : nI (4 * i) + (3 : Int32) = nI (4 * i + 3) := nI_add _ 3
  have x0 := ixb_n (i := 4 * i) (n := 32) (by omega) (by decide)
  have x1 := ixb_n (i := 4 * i + 1) (n := 32) (by omega) (by decide)
  have x2 := ixb_n (i := 4 * i + 2) (n := 32) (by omega) (by decide)
  have x3 := ixb_n (i := 4 * i + 3) (n := 32) (by omega) (by decide)
  have c0 : (nI (4 * i)).toNatClampNeg = 4 * i := nI_clamp (by omega)
  have c1 : (nI (4 * i + 1)).toNatClampNeg = 4 * i + 1 := nI_clamp (by omega)
  have c2 : (nI (4 * i + 2)).toNatClampNeg = 4 * i + 2 := nI_clamp (by omega)
  have c3 : (nI (4 * i + 3)).toNatClampNeg = 4 * i + 3 := nI_clamp (by omega)
  have hz : inZ (nI i).toInt (0 : Int32).toInt (7 : Int32).toInt = true := by
    rw [inZ_t, nI_Z (by omega)]
    exact ⟨by rw [z_0]; omega, by rw [show (7 : Int32).toInt = 7 from rfl]; omega⟩
  have n1 : (0 : Int32) + 1 = 1 := rfl
  have n2 : (1 : Int32) + 1 = 2 := rfl
  have n3 : (2 : Int32) + 1 = 3 := rfl
  have n4 : (3 : Int32) + 1 = 4 := rfl
  have ha' : ¬ 45 = a := fun z => ha z.symm
  have v : ∀ (h2 : HS) (w x : Int32), hT h2 a = kcl (S.2 0 i) → f_V_change a w x h2 = some (sI h2 a (if w = 0 then 4 else if w = 1 then 5 else if w = 2 then 6 else 7) x) := fun h2 w x e => V_change_eq e w x
  have g0 := hg 0 (by decide)
  have g1 := hg 1 (by decide)
  have g2 := hg 2 (by decide)
  have g3 := hg 3 (by decide)
  unfold f_X5_layBack
  rw [f_isIn_eq, hz, Option.bind_some, if_pos rfl]
  rw [show (1000 : Nat) = 996 + 1 + 1 + 1 + 1 from rfl, l_X5_layBack_12, if_neg (by decide), e4, a0, if_pos x0, c0, v _ _ _ o1, Option.bind_some, n1]
  rw [l_X5_layBack_12, if_neg (by decide), e4, a1, if_pos x1, c1, v _ _ _ (by rw [hT_sI]; exact o1), Option.bind_some, n2]
  rw [l_X5_layBack_12, if_neg (by decide), e4, a2, if_pos x2, c2, v _ _ _ (by rw [hT_sI, hT_sI]; exact o1), Option.bind_some, n3]
  rw [l_X5_layBack_12, if_neg (by decide), e4, a3, if_pos x3, c3, v _ _ _ (by rw [hT_sI, hT_sI, hT_sI]; exact o1), Option.bind_some, n4]
  rw [show (996 : Nat) = 995 + 1 from rfl, l_X5_layBack_12, if_pos (by decide)]
  simp (config := { decide := true }) only [hI_sI, if_neg ha', if_true, if_false, g1, g2, g3]
  rw [show hI h 45 (4 * i) = g 3 i from g0]
  rfl
theorem L_xback {S : TB} {tg : Nat → Nat} {n : Nat} {g : Nat → Nat → Int32} (hn : n ≤ S.1) : ∀ (d k f : Nat) (h : HS), k + d = n → d < f → Xst (u_bkS S k g) tg h → Wx tg h → hI h 44 1 = nI n → (∀ i f, i < n → f < 4 → hI h 45 (4 * i + f) = g (3 + f) i) → ∃ h', l_X11_back_37 f (nI k) h = some h' ∧ Xst (u_bkS S n g) tg h' ∧ Wx tg h' ∧ Fx (fun b => 10 ≤ tg b ∧ tg b < 18) h h' := by
  intro d
  induction d with
  | zero =>
    intro k f h hk hf hS hw h50 hR0
    obtain ⟨f, rfl⟩ : ∃ f', f = f' + 1 := ⟨f - 1, by omega⟩
    have h8 : S.1 ≤ 8 := by obtain ⟨el, hl, ho⟩ := hS; exact hl.2.2.1
    have : k = n := by omega
    subst this
    refine ⟨h, ?_, hS, hw, Fx.rf⟩
    rw [l_X11_back_37, h50, if_pos (nI_le (by omega) (by omega))]
  | succ d ih =>
    intro k f h hk hf hS hw h50 hR0
    obtain ⟨f, rfl⟩ : ∃ f', f = f' + 1 := ⟨f - 1, by omega⟩
    obtain ⟨el, hl, ho⟩ := hS
    have h8 : S.1 ≤ 8 := hl.2.2.1
    have hlk : k < (u_bkS S k g).1 := by show k < S.1; omega
    have o := ho k hlk
    have ha := hw.1 (el k) (by have := o.1; omega)
    have hst : isSt (hT h (el k)) = true := by rw [o.2.1]; exact kcl_st _
    have F1 : Fx (fun b => 10 ≤ tg b ∧ tg b < 18) h (sI (sI (sI (sI h (el k) 4 (g 3 k)) (el k) 5 (g 4 k)) (el k) 6 (g 5 k)) (el k) 7 (g 6 k)) := by
      have q : 10 ≤ tg (el k) ∧ tg (el k) < 18 := by have := o.1; omega
      exact Fx.sI (Fx.sI (Fx.sI (Fx.sI Fx.rf (Or.inl q)) (Or.inl q)) (Or.inl q)) (Or.inl q)
    have hsz : f_Jx4a65c_size_8abf5 33 h = some (nI S.1) := hl.size
    have step : l_X11_back_37 (f + 1) (nI k) h = l_X11_back_37 f (nI (k + 1)) (sI (sI (sI (sI h (el k) 4 (g 3 k)) (el k) 5 (g 4 k)) (el k) 6 (g 5 k)) (el k) 7 (g 6 k)) := by
      rw [l_X11_back_37, h50, if_neg (nI_ge (by omega) (by omega)), if_pos hl.1, hsz, Option.bind_some, if_neg (nI_ge (by omega) (by omega)), hl.get hlk, Option.bind_some, om_some, if_pos hst, layBack_eq (g := g) (by omega) o (by omega) (fun f hf => hR0 k f (by omega) hf), Option.bind_some, nI_1]
    rw [step]
    have hS' : Xst (u_bkS S (k + 1) g) tg (sI (sI (sI (sI h (el k) 4 (g 3 k)) (el k) 5 (g 4 k)) (el k) 6 (g 5 k)) (el k) 7 (g 6 k)) := by
      have hl' := hl.fx (A := fun b => 10 ≤ tg b ∧ tg b < 18) (tg' := tg) F1 (by have := hw.2.2; omega) (fun _ _ => rfl) hw (by decide) (fun z => by have := hw.1 33 (by omega); omega) (fun b hb z => by omega)
      refine ⟨el, hl', fun i hi => ?_⟩
      have hi' : i < S.1 := hi
      have oi := ho i hi
      by_cases e : i = k
      · subst e
        obtain ⟨o0, o1, o2, o3, o4, o5, o6, o7, o8, o9⟩ := oi
        simp (config := { decide := true }) only [u_bkS, if_neg (Nat.lt_irrefl i)] at o1 o2 o3 o4 o5
        refine ⟨o0, ?_, ?_, ?_, ?_, ?_, ?_, ?_, ?_, ?_⟩ <;> simp (config := { decide := true }) only [u_bkS, if_pos (Nat.lt_succ_self i), hI_sI, hI_sL, hI_sR, hL_sI, hL_sL, hL_sR, hR_sI, hR_sL, hR_sR, hT_sI, hT_sL, hT_sR, hLn_sI, hLn_sL, hLn_sR, hN_sI, hN_sL, hN_sR, if_true, if_false, o1, o2, o3, o4, o5]
      · have hne : ¬ el i = el k := fun z => by
          have h1 := oi.1
          have h2 := o.1
          rw [z, h2] at h1
          omega
        have hl2 : (i < k + 1) = (i < k) := propext ⟨fun z => by omega, fun z => by omega⟩
        unfold Ost at oi ⊢
        simp only [u_bkS] at oi
        simp only [u_bkS, hl2, hI_sI, hI_sL, hI_sR, hL_sI, hL_sL, hL_sR, hR_sI, hR_sL, hR_sR, hT_sI, hT_sL, hT_sR, hLn_sI, hLn_sL, hLn_sR, hN_sI, hN_sL, hN_sR, if_neg hne]
        exact oi
    have hxr : ∀ b, b < 56 → ¬ b = el k := fun b hb z => by omega
    obtain ⟨h', s1, s2, s3, s4⟩ := ih (k + 1) f _ (by omega) (by omega) hS' hw.sI.sI.sI.sI (by simp only [hI_sI, if_neg (hxr 44 (by decide))]; exact h50) (fun i q hi hq => by simp only [hI_sI, if_neg (hxr 45 (by decide))]; exact hR0 i q hi hq)
    exact ⟨h', s1, s2, s3, F1.tr s4⟩
theorem X_back {S T : TB} {I : IM} {tg : Nat → Nat} {h : HS} (hS : Xst S tg h) (hw : Wx tg h) (hT0 : Xtr T h) (hI0 : Xim I h) (hW : Wim I S T) : (I.1 = false ∧ f_X11_back h = some (-3, h)) ∨ (I.1 = true ∧ ∃ h', f_X11_back h = some (nI I.2.2.2.1, h') ∧ Xst (u_bkS S I.2.1 I.2.2.2.2) tg h' ∧ Xtr (u_bkT T I.2.2.2.1) h' ∧ hI h' 32 3 = I.2.2.1 ∧ Wx tg h' ∧ Fx (fun b => b = 32 ∨ (10 ≤ tg b ∧ tg b < 18)) h h' ∧ ∀ k, k ≠ 3 → k ≠ 5 → hI h' 32 k = hI h 32 k) := by
  obtain ⟨z1, z2⟩ := hI0
  cases ht : I.1
  · refine Or.inl ⟨rfl, ?_⟩
    unfold f_X11_back
    rw [z1, ht]
    rfl
  · refine Or.inr ⟨rfl, ?_⟩
    obtain ⟨y1, y2, y3, y4, y5⟩ := z2 ht
    obtain ⟨w1, w2⟩ := hW ht
    have hlt := hw.2.2
    have F1 : Fx (fun b => b = 32) h (sI (sI h 32 3 I.2.2.1) 32 5 (nI I.2.2.2.1)) := Fx.sI (Fx.sI Fx.rf (Or.inl rfl)) (Or.inl rfl)
    have hSs := hS.fx hw F1 (fun _ _ => rfl) (fun b hb z => by
        rcases hb with hb | hb | hb
        · omega
        · have := hw.1 b (by omega); omega
        · have := hw.1 b (by omega); omega)
    obtain ⟨h', s1, s2, s3, s4⟩ := L_xback (S := S) (tg := tg) (g := I.2.2.2.2) w1 I.2.1 0 1000 (sI (sI h 32 3 I.2.2.1) 32 5 (nI I.2.2.2.1)) (by omega) (by omega) (by rw [u_bkS_0]; exact hSs) hw.sI.sI (by simp (config := { decide := true }) only [hI_sI, if_false]; exact y1) (fun i q hi hq => by simp (config := { decide := true }) only [hI_sI, if_false]; exact y5 i q hi hq)
    have s1' : l_X11_back_37 1000 (0 : Int32) (sI (sI h 32 3 I.2.2.1) 32 5 (nI I.2.2.2.1)) = some h' := s1
    have hz1 : ¬ hI h 44 0 = 0 := by rw [z1, ht]; decide
    have q2 := (s4.2 32 (by simp only [hN_sI]; omega) (fun z => by have := hw.1 32 (by omega); omega)).1
    have q3 := (s4.2 36 (by simp only [hN_sI]; omega) (fun z => by have := hw.1 36 (by omega); omega)).1
    refine ⟨h', ?_, s2, ?_, by rw [q2]; simp (config := { decide := true }) [hI_sI, hI_sL, hI_sR, hL_sI, hL_sL, hL_sR, hR_sI, hR_sL, hR_sR, hT_sI, hT_sL, hT_sR, hLn_sI, hLn_sL, hLn_sR, hN_sI, hN_sL, hN_sR], s3, (F1.mono (fun _ _ => Or.inl)).tr (s4.mono (fun _ _ => Or.inr)), fun k k1 k2 => by rw [q2]; simp (config := { decide := true }) only [hI_sI, if_true, if_neg k1, if_neg k2]⟩
    · unfold f_X11_back
      simp (config := { decide := true }) only [if_neg hz1, hI_sI, hI_sL, hI_sR, hL_sI, hL_sL, hL_sR, hR_sI, hR_sL, hR_sR, hT_sI, hT_sL, hT_sR, hLn_sI, hLn_sL, hLn_sR, hN_sI, hN_sL, hN_sR, if_true, if_false, y3, y4, s1', Option.bind_some, q2]
    · obtain ⟨t1, t2, t3⟩ := hT0
      refine ⟨by rw [q2]; simp (config := { decide := true }) [hI_sI, hI_sL, hI_sR, hL_sI, hL_sL, hL_sR, hR_sI, hR_sL, hR_sR, hT_sI, hT_sL, hT_sR, hLn_sI, hLn_sL, hLn_sR, hN_sI, hN_sL, hN_sR, u_bkT], by simp only [u_bkT]; omega, fun i f hi hf => ?_⟩
      rw [q3]
      simp (config := { decide := true }) only [hI_sI, if_false]
      have hi2 : i < I.2.2.2.1 := hi
      exact t3 i f (by omega) hf
