/-! ===== walk: the class ===== -/
theorem L_xl47 {S H : TB} {tg : Nat → Nat} {el : Nat → Nat} {h : HS} (hW : Wst S) (hWH : Wha H) {j b : Nat} (hj : j < H.1) (h6 : H.1 ≤ 6) {c : Nat} (h1c : 1 ≤ c) (hc : c ≤ 200) (y3 : Int32) (hl : XL tg h 33 1 S.1 el) (ho : ∀ i, i < S.1 → Ost S tg h i (el i)) (ob : Oha H tg h j b) (hB : ∀ i, i < S.1 → hI h 54 i = allI H j - bw S H i j) : ∀ (d k f : Nat) (v : Int32), k + d = S.1 → d < f → l_X11_leastFail_47 b y3 (nI c) h f v (nI k) = some (mnG (fun i => hI h 55 i) (wkf S H j) (wkp S) c d k v) := by
  have h8 := hl.2.2.1
  intro d
  induction d with
  | zero =>
    intro k f v hk hf
    obtain ⟨f, rfl⟩ : ∃ f', f = f' + 1 := ⟨f - 1, by omega⟩
    rw [l_X11_leastFail_47, if_pos hl.1, hl.size, Option.bind_some, if_pos (nI_le (by omega) (by omega)), mnG]
  | succ d ih =>
    intro k f v hk hf
    obtain ⟨f, rfl⟩ : ∃ f', f = f' + 1 := ⟨f - 1, by omega⟩
    have hk' : k < S.1 := by omega
    have oa := ho k hk'
    obtain ⟨p1, p2, p3⟩ := wkp_1 hW hk'
    have haz := allI_Z hWH hj
    have hst : isSt (hT h (el k)) = true := by rw [oa.2.1]; exact kcl_st _
    have hpr : hI h (el k) 4 = nI (wkp S k) := oa.2.2.2.2.2.2.1.trans p3
    have ec : (nI c - (1 : Int32)).toInt = (c : Int) - 1 := cnt_pred2 (by omega)
    have es : (nI c - nI (wkp S k)).toInt = (c : Int) - wkp S k := by
      rw [i32_subZ (by rw [nI_Z (by omega), nI_Z (by omega)]; omega) (by rw [nI_Z (by omega), nI_Z (by omega)]; omega), nI_Z (by omega), nI_Z (by omega)]
    rw [l_X11_leastFail_47, if_pos hl.1, hl.size, Option.bind_some, if_neg (nI_ge (by omega) (by omega)), hl.get hk', Option.bind_some, om_some, if_pos hst, hpr, f_isIn_eq, z_0, ec, es, Option.bind_some, nI_1, mnG]
    by_cases hp : wkp S k ≤ c
    · have e1 : nI c - nI (wkp S k) = nI (c - wkp S k) := by
        rw [i32_eqZ, es, nI_Z (by omega)]
        omega
      have hx3 := ixb_n (i := c - wkp S k) (n := 201) (by omega) (by decide)
      have hcl3 : (nI (c - wkp S k)).toNatClampNeg = c - wkp S k := nI_clamp (by omega)
      have hz : inZ ((c : Int) - wkp S k) 0 ((c : Int) - 1) = true := inZ_t.mpr (by omega)
      have hfl := X_fails (h := h) (x := hI h 55 (c - wkp S k)) (all := allI H j) (w := allI H j - bw S H k j) (s := k) (b := b) (by omega) haz.1 ob.2.1 ob.2.2.2.2.2.2 (hB k hk')
      rw [hz, if_pos rfl, e1, if_pos hx3, hcl3, hfl, Option.bind_some, if_pos hp]
      have hwf : wkf S H j k (hI h 55 (c - wkp S k)) = fA (hI h 55 (c - wkp S k)) (allI H j - bw S H k j) (allI H j) := rfl
      rw [← hwf]
      by_cases hq : v ≤ wkf S H j k (hI h 55 (c - wkp S k))
      · rw [if_neg (fun z => by rw [i32_lt0] at z; rw [i32_le0] at hq; omega), if_pos hq]
        exact ih (k + 1) f v (by omega) (by omega)
      · rw [if_pos (by rw [i32_lt0]; rw [i32_le0] at hq; omega), if_neg hq]
        exact ih (k + 1) f _ (by omega) (by omega)
    · have hz : inZ ((c : Int) - wkp S k) 0 ((c : Int) - 1) = false := inZ_f.mpr (by omega)
      rw [hz, if_neg (by decide), if_neg hp]
      exact ih (k + 1) f v (by omega) (by omega)
theorem L_xl27 {S H : TB} {tg : Nat → Nat} {el : Nat → Nat} (hW : Wst S) (hWH : Wha H) {j b : Nat} (hj : j < H.1) (h6 : H.1 ≤ 6) {C : Nat} (hC : C ≤ 200) {a : Int32} : ∀ (d c f : Nat) (h : HS), c + d = C + 1 → 1 ≤ c → d < f → XL tg h 33 1 S.1 el → (∀ i, i < S.1 → Ost S tg h i (el i)) → Oha H tg h j b → Wx tg h → (∀ i, i < S.1 → hI h 54 i = allI H j - bw S H i j) → hI h 55 0 = a → (∀ i, 1 ≤ i → i < c → hI h 55 i = mnG (fun i => hI h 55 i) (wkf S H j) (wkp S) i S.1 0 (hI h 55 (i - 1))) → ∃ h', l_X11_leastFail_27 b (nI C) f (nI c) h = some h' ∧ hI h' 55 0 = a ∧ (∀ i, 1 ≤ i → i < C + 1 → hI h' 55 i = mnG (fun i => hI h' 55 i) (wkf S H j) (wkp S) i S.1 0 (hI h' 55 (i - 1))) ∧ (∀ i, i < S.1 → hI h' 54 i = allI H j - bw S H i j) ∧ Wx tg h' ∧ Fx (fun b => b = 55) h h' := by
  intro d
  induction d with
  | zero =>
    intro c f h hk h1c hf hl ho ob hw hB h0 hT
    obtain ⟨f, rfl⟩ : ∃ f', f = f' + 1 := ⟨f - 1, by omega⟩
    have : c = C + 1 := by omega
    subst this
    refine ⟨h, ?_, h0, hT, hB, hw, Fx.rf⟩
    rw [l_X11_leastFail_27, if_pos (nI_lt (by omega) (by omega))]
  | succ d ih =>
    intro c f h hk h1c hf hl ho ob hw hB h0 hT
    obtain ⟨f, rfl⟩ : ∃ f', f = f' + 1 := ⟨f - 1, by omega⟩
    have h8 := hl.2.2.1
    have h89 := hw.2.2
    have hbb := hw.1 b (by have := ob.1; omega)
    obtain ⟨c', rfl⟩ : ∃ c', c = c' + 1 := ⟨c - 1, by omega⟩
    have hx1 := ixb_n (i := c') (n := 201) (by omega) (by decide)
    have hcl1 : (nI c').toNatClampNeg = c' := nI_clamp (by omega)
    have hx2 := ixb_n (i := c' + 1) (n := 201) (by omega) (by decide)
    have hcl2 : (nI (c' + 1)).toNatClampNeg = c' + 1 := nI_clamp (by omega)
    have s1 := L_xl47 hW hWH hj h6 (c := c' + 1) (by omega) (by omega) (nI C) hl ho ob hB S.1 0 1000 (hI h 55 c') (by omega) (by omega)
    rw [nI_0] at s1
    generalize hV : mnG (fun i => hI h 55 i) (wkf S H j) (wkp S) (c' + 1) S.1 0 (hI h 55 c') = V at s1
    have F1 : Fx (fun b => b = 55) h (sI h 55 (c' + 1) V) := Fx.sI Fx.rf (Or.inl rfl)
    have hl1 := hl.fx F1 (by omega) (fun _ _ => rfl) hw (by decide) (by decide) (fun b hb z => by have := hw.1 b (by omega); omega)
    have ho1 : ∀ i, i < S.1 → Ost S tg (sI h 55 (c' + 1) V) i (el i) := fun i hi => (ho i hi).fx hw F1 (fun _ _ => rfl) (by have := hw.1 (el i) (by have := (ho i hi).1; omega); omega)
    have rd : ∀ i, hI (sI h 55 (c' + 1) V) 55 i = if i = c' + 1 then V else hI h 55 i := fun i => by rw [hI_sI, if_pos rfl]
    have cg : ∀ i v, i ≤ c' + 1 → mnG (fun i => hI (sI h 55 (c' + 1) V) 55 i) (wkf S H j) (wkp S) i S.1 0 v = mnG (fun i => hI h 55 i) (wkf S H j) (wkp S) i S.1 0 v := fun i v hi => mnG_congr (fun q hq => by show hI (sI h 55 (c' + 1) V) 55 q = _; rw [rd, if_neg (by omega)]) S.1 0 v (fun q hq => (wkp_1 hW (by omega)).1)
    obtain ⟨h', u1, u2, u3, u4, u5, u6⟩ := ih (c' + 1 + 1) f (sI h 55 (c' + 1) V) (by omega) (by omega) (by omega) hl1 ho1 (ob.fx hw F1 (fun _ _ => rfl) (by omega)) hw.sI (fun i hi => by rw [hI_sI, if_neg (by decide)]; exact hB i hi) (by rw [rd, if_neg (by omega)]; exact h0) (fun i hi1 hi2 => by
      rw [cg i _ (by omega), rd, rd, if_neg (show ¬ i - 1 = c' + 1 by omega)]
      by_cases e : i = c' + 1
      · subst e
        rw [if_pos rfl, show c' + 1 - 1 = c' by omega, hV]
      · rw [if_neg e]
        exact hT i hi1 (by omega))
    refine ⟨h', ?_, u2, u3, u4, u5, F1.tr u6⟩
    rw [l_X11_leastFail_27, if_neg (nI_nlt (by omega) (by omega)), nI_pred, if_pos hx1, hcl1, s1, Option.bind_some, if_pos hx2, hcl2, nI_1]
    exact u1
theorem X_least {S H : TB} {tg : Nat → Nat} {el : Nat → Nat} {h : HS} (hW : Wst S) (hWH : Wha H) {j b : Nat} (hj : j < H.1) (h6 : H.1 ≤ 6) {C : Nat} (hC : C ≤ 200) {a : Int32} (ha : 0 ≤ a.toInt ∧ a.toInt ≤ 1000000) (hl : XL tg h 33 1 S.1 el) (ho : ∀ i, i < S.1 → Ost S tg h i (el i)) (ob : Oha H tg h j b) (hw : Wx tg h) (hB : ∀ i, i < S.1 → hI h 54 i = allI H j - bw S H i j) : ∃ h', f_X11_leastFail b a (nI C) h = some (a_goes S H j a C, h') ∧ (∀ i, i < S.1 → hI h' 54 i = allI H j - bw S H i j) ∧ XL tg h' 33 1 S.1 el ∧ (∀ i, i < S.1 → Ost S tg h' i (el i)) ∧ Oha H tg h' j b ∧ Wx tg h' ∧ Fx (fun b => b = 55) h h' := by
  have h8 := hl.2.2.1
  have h89 := hw.2.2
  have hbb := hw.1 b (by have := ob.1; omega)
  have F1 : Fx (fun b => b = 55) h (sI h 55 0 a) := Fx.sI Fx.rf (Or.inl rfl)
  have hl1 := hl.fx F1 (by omega) (fun _ _ => rfl) hw (by decide) (by decide) (fun b hb z => by have := hw.1 b (by omega); omega)
  have ho1 : ∀ i, i < S.1 → Ost S tg (sI h 55 0 a) i (el i) := fun i hi => (ho i hi).fx hw F1 (fun _ _ => rfl) (by have := hw.1 (el i) (by have := (ho i hi).1; omega); omega)
  obtain ⟨h', u1, u2, u3, u4, u5, u6⟩ := L_xl27 (S := S) (H := H) hW hWH hj h6 hC (a := a) C 1 1000 (sI h 55 0 a) (by omega) (by omega) (by omega) hl1 ho1 (ob.fx hw F1 (fun _ _ => rfl) (by omega)) hw.sI (fun i hi => by rw [hI_sI, if_neg (by decide)]; exact hB i hi) (by rw [hI_sI, if_pos rfl, if_pos rfl]) (fun i h1 h2 => by omega)
  have hv := goes_eq hW hWH hj ha (C := C) (T := fun i => hI h' 55 i) u2 (fun c h1 h2 => u3 c h1 (by omega))
  have F2 := F1.tr u6
  have hx2 := ixb_n (i := C) (n := 201) (by omega) (by decide)
  have hcl2 : (nI C).toNatClampNeg = C := nI_clamp (by omega)
  have hz : inZ (nI C).toInt (0 : Int32).toInt ((201 : Int32) - 1).toInt = true := by
    rw [inZ_t, nI_Z (by omega), z_0, show ((201 : Int32) - 1).toInt = 200 from by decide]; omega
  refine ⟨h', ?_, u4, hl.fx F2 (by omega) (fun _ _ => rfl) hw (by decide) (by decide) (fun b hb z => by have := hw.1 b (by omega); omega), fun i hi => (ho i hi).fx hw F2 (fun _ _ => rfl) (by have := hw.1 (el i) (by have := (ho i hi).1; omega); omega), ob.fx hw F2 (fun _ _ => rfl) (by omega), u5, F2⟩
  unfold f_X11_leastFail
  have u1' : l_X11_leastFail_27 b (nI C) 1000 (1 : Int32) (sI h 55 (0 : Int32).toNatClampNeg a) = some h' := u1
  rw [f_isIn_eq, hz, Option.bind_some, if_pos rfl, u1', Option.bind_some, if_pos hx2, hcl2]
  exact congrArg (fun q => some (q, h')) hv
theorem L_xfw {S H : TB} {tg : Nat → Nat} {el : Nat → Nat} (hW : Wst S) (hWH : Wha H) {j b : Nat} (hj : j < H.1) (h6 : H.1 ≤ 6) {C : Nat} (hC : C ≤ 200) {least : Int32} : ∀ (d k f : Nat) (h : HS), k + d = S.1 → d < f → XL tg h 33 1 S.1 el → (∀ i, i < S.1 → Ost S tg h i (el i)) → Oha H tg h j b → Wx tg h → (∀ i, i < S.1 → hI h 54 i = allI H j - bw S H i j) → ∃ h' r, l_X11_firstOfWalk_3 b (nI C) least f (nI k) h = some r ∧ Sum.elim (fun v => some v) (fun e => some ((-1 : Int32), e)) r = some (fstW S H j C least d k, h') ∧ Wx tg h' ∧ Fx (fun b => b = 55) h h' := by
  intro d
  induction d with
  | zero =>
    intro k f h hk hf hl ho ob hw hB
    obtain ⟨f, rfl⟩ : ∃ f', f = f' + 1 := ⟨f - 1, by omega⟩
    have h8 := hl.2.2.1
    refine ⟨h, Sum.inr h, ?_, rfl, hw, Fx.rf⟩
    rw [l_X11_firstOfWalk_3, if_pos hl.1, hl.size, Option.bind_some, if_pos (nI_le (by omega) (by omega))]
  | succ d ih =>
    intro k f h hk hf hl ho ob hw hB
    obtain ⟨f, rfl⟩ : ∃ f', f = f' + 1 := ⟨f - 1, by omega⟩
    have h8 := hl.2.2.1
    have hk' : k < S.1 := by omega
    have oa := ho k hk'
    obtain ⟨p1, p2, p3⟩ := wkp_1 hW hk'
    have haz := allI_Z hWH hj
    have hst : isSt (hT h (el k)) = true := by rw [oa.2.1]; exact kcl_st _
    have hpr : hI h (el k) 4 = nI (wkp S k) := oa.2.2.2.2.2.2.1.trans p3
    have es : (nI C - nI (wkp S k)).toInt = (C : Int) - wkp S k := by
      rw [i32_subZ (by rw [nI_Z (by omega), nI_Z (by omega)]; omega) (by rw [nI_Z (by omega), nI_Z (by omega)]; omega), nI_Z (by omega), nI_Z (by omega)]
    rw [l_X11_firstOfWalk_3, if_pos hl.1, hl.size, Option.bind_some, if_neg (nI_ge (by omega) (by omega)), hl.get hk', Option.bind_some, om_some, if_pos hst, hpr, nI_1, fstW]
    by_cases hp : wkp S k ≤ C
    · have e1 : nI C - nI (wkp S k) = nI (C - wkp S k) := by
        rw [i32_eqZ, es, nI_Z (by omega)]
        omega
      have hfl := X_fails (h := h) (x := 1000000) (all := allI H j) (w := allI H j - bw S H k j) (s := k) (b := b) (by omega) haz.1 ob.2.1 ob.2.2.2.2.2.2 (hB k hk')
      have hfl' : f_X11_failAfter b 1000000 (nI k) h = some (wkf S H j k 1000000) := hfl
      have hfz := fA_Z (x := 1000000) (by decide) (wk_w (S := S) (s := k) hWH hj) haz
      have e6 : (1000000 : Int32).toInt = 1000000 := rfl
      obtain ⟨h1, s1, s2, s3, s4, s5, s6, s7⟩ := X_least hW hWH hj h6 (C := C - wkp S k) (by omega) (a := wkf S H j k 1000000) (by
        show 0 ≤ (fA 1000000 (allI H j - bw S H k j) (allI H j)).toInt ∧ (fA 1000000 (allI H j - bw S H k j) (allI H j)).toInt ≤ 1000000
        omega) hl ho ob hw hB
      have hn0 : ¬ nI (C - wkp S k) < (0 : Int32) := nI_pos (by omega)
      rw [e1, if_neg hn0, hfl', Option.bind_some, s1, Option.bind_some, if_pos hp]
      by_cases hq : a_goes S H j (wkf S H j k 1000000) (C - wkp S k) = least
      · rw [if_pos hq, if_pos hq]
        exact ⟨h1, Sum.inl (nI k, h1), rfl, rfl, s6, s7⟩
      · rw [if_neg hq, if_neg hq]
        obtain ⟨h', r, u1, u2, u3, u4⟩ := ih (k + 1) f h1 (by omega) (by omega) s3 s4 s5 s6 s2
        exact ⟨h', r, u1, u2, u3, s7.tr u4⟩
    · have hn0 : nI C - nI (wkp S k) < (0 : Int32) := by rw [i32_lt0, es, z_0]; omega
      rw [if_pos hn0, if_neg hp]
      exact ih (k + 1) f h (by omega) (by omega) hl ho ob hw hB
theorem X_walk {S H : TB} {tg : Nat → Nat} {h : HS} (hS : Xst S tg h) (hW : Wst S) (hH : Xha H tg h) (hWH : Wha H) (hw : Wx tg h) (hz : Gz h) (j c w : Int32) : ∃ h', f_X11_walk j c w h = some (a_walk S H j c w, h') ∧ Gz h' ∧ Wx tg h' ∧ Fx (fun b => b = 48 ∨ b = 49 ∨ b = 54 ∨ b = 55) h h' := by
  have e200 : (200 : Int32).toInt = 200 := rfl
  obtain ⟨el, hl, ho⟩ := hS
  have h8 := hl.2.2.1
  have h6 := hH.1
  rcases X_handAt hH j with ⟨j, b, hj, rfl, hzh, hf2, ob⟩ | ⟨hzh, hf2⟩
  · cases hc : inZ c.toInt 0 200
    · refine ⟨h, ?_, hz, hw, Fx.rf⟩
      unfold f_X11_walk a_walk
      rw [hf2, f_isIn_eq, z_0, e200, hc, hzh]
      simp only [Option.bind_some, om_some, if_true, Bool.false_eq_true, if_false]
    cases hp : inZ w.toInt 0 1
    · refine ⟨h, ?_, hz, hw, Fx.rf⟩
      unfold f_X11_walk a_walk
      rw [hf2, f_isIn_eq, z_0, e200, hc, hzh, isBit_inZ, hp]
      simp only [Option.bind_some, om_some, if_true, Bool.false_eq_true, if_false]
    · obtain ⟨C, hC, rfl⟩ : ∃ C, C ≤ 200 ∧ c = nI C := by
        obtain ⟨c1, c2⟩ := inZ_t.mp hc
        exact ⟨c.toInt.toNat, by omega, by rw [i32_eqZ, nI_Z (by omega)]; omega⟩
      have hcj : (nI j).toNatClampNeg = j := nI_clamp (by omega)
      have hcc : (nI C).toNatClampNeg = C := nI_clamp (by omega)
      obtain ⟨h1, s1, s2, s3, s4, s5, s6, s7, s8⟩ := L_xw36 hW hWH (nI C) w hj h6 S.1 0 1000 h (by omega) (by omega) hl ho ob hw hz (fun i hi => by omega)
      have s1' : l_X11_walk_36 (nI C) w b 1000 (0 : Int32) h = some h1 := s1
      obtain ⟨h2, u1, u2, u3, u4, u5, u6, u7⟩ := X_least hW hWH hj h6 hC (a := 1000000) (by decide) s3 s4 s5 s7 s2
      have Fm : Fx (fun b => b = 48 ∨ b = 49 ∨ b = 54 ∨ b = 55) h h2 := (s8.mono (fun _ _ q => by rcases q with q | q | q; exact Or.inl q; exact Or.inr (Or.inl q); exact Or.inr (Or.inr (Or.inl q)))).tr (u7.mono (fun _ _ q => Or.inr (Or.inr (Or.inr q))))
      have gz : ∀ {g g' : HS}, Gz g → Wx tg g → Fx (fun b => b = 55) g g' → Gz g' := fun q qw F => by
        have q48 := (F.2 49 (by have := qw.2.2; omega) (by decide)).1
        exact ⟨fun i hi => by rw [q48]; exact q.1 i hi, fun i hi => by rw [q48]; exact q.2 i hi⟩
      have hans : a_walk S H (nI j) (nI C) w = if w = 0 then a_goes S H j 1000000 C else if a_goes S H j 1000000 C = 1000000 then -1 else fstW S H j C (a_goes S H j 1000000 C) S.1 0 := by
        unfold a_walk
        rw [hzh, hc, hp, hcj, hcc, if_pos rfl, if_pos rfl, if_pos rfl]
      have hgo : f_X11_walk (nI j) (nI C) w h = if w = 0 then some (a_goes S H j 1000000 C, h2) else if a_goes S H j 1000000 C = 1000000 then some (-1, h2) else Option.bind (f_X11_firstOfWalk b (nI C) (a_goes S H j 1000000 C) h2) (fun q => some (q.1, q.2)) := by
        unfold f_X11_walk
        rw [hf2, f_isIn_eq, z_0, e200, hc, isBit_inZ, hp]
        simp only [Option.bind_some, om_some, if_true]
        rw [s1', Option.bind_some, u1, Option.bind_some]
      rw [hgo, hans]
      by_cases hw0 : w = 0
      · rw [if_pos hw0, if_pos hw0]
        exact ⟨h2, rfl, gz s6 s7 u7, u6, Fm⟩
      · rw [if_neg hw0, if_neg hw0]
        by_cases hm : a_goes S H j 1000000 C = 1000000
        · rw [if_pos hm, if_pos hm]
          exact ⟨h2, rfl, gz s6 s7 u7, u6, Fm⟩
        · rw [if_neg hm, if_neg hm]
          obtain ⟨h3, r, v1, v2, v3, v4⟩ := L_xfw hW hWH hj h6 hC (least := a_goes S H j 1000000 C) S.1 0 1000 h2 (by omega) (by omega) u3 u4 u5 u6 u2
          have v1' : l_X11_firstOfWalk_3 b (nI C) (a_goes S H j 1000000 C) 1000 (0 : Int32) h2 = some r := v1
          refine ⟨h3, ?_, gz (gz s6 s7 u7) u6 v4, v3, Fm.tr (v4.mono (fun _ _ q => Or.inr (Or.inr (Or.inr q))))⟩
          unfold f_X11_firstOfWalk
          rw [v1', Option.bind_some]
          rw [v2, Option.bind_some]
  · refine ⟨h, ?_, hz, hw, Fx.rf⟩
    unfold f_X11_walk a_walk
    rw [hf2, hzh]
    simp only [Option.bind_some, om_none, Bool.false_eq_true, if_false]
