/-! ===== set, told ===== -/
def okSet (w v : Int32) : Bool := if w = 0 then inZ v.toInt 1 99 else if w = 1 then inZ v.toInt 0 999 else if w = 2 then inZ v.toInt 0 999 else if w = 3 then inZ v.toInt 0 1 else false
def fW (w : Int32) : Nat := if w = 0 then 3 else if w = 1 then 4 else if w = 2 then 5 else 6
def a_set (S : TB) (s w v : Int32) : Int32 := if (inZ s.toInt 0 (S.1 - 1) && okSet w v) = true then S.2 (fW w) s.toNatClampNeg else -5
def u_set (S : TB) (s w v : Int32) : TB := if (inZ s.toInt 0 (S.1 - 1) && okSet w v) = true then tset S (fW w) s.toNatClampNeg v else S
theorem w4 (w : Int32) : w = 0 ∨ w = 1 ∨ w = 2 ∨ w = 3 ∨ (w ≠ 0 ∧ w ≠ 1 ∧ w ≠ 2 ∧ w ≠ 3 ∧ inZ w.toInt 0 3 = false) := by
  have e0 : (0 : Int32).toInt = 0 := rfl
  have e1 : (1 : Int32).toInt = 1 := rfl
  have e2 : (2 : Int32).toInt = 2 := rfl
  have e3 : (3 : Int32).toInt = 3 := rfl
  simp only [i32_eqZ, ne_eq, inZ_f, e0, e1, e2, e3]
  omega
theorem Mst.set {S : TB} {h : HS} (hS : Mst S h) {f i : Nat} (hf : f < 7) (hi : i < S.1) (v : Int32) : Mst (tset S f i v) (sI h (64 + f) i v) := by
  obtain ⟨hn, h8, hr⟩ := hS
  refine ⟨?_, h8, fun j hj => ?_⟩
  · rw [hI_sI, if_neg (by omega)]; exact hn
  · have hj' : j < S.1 := hj
    obtain ⟨r0, r1, r2, r3, r4, r5, r6⟩ := hr j hj'
    simp only [hI_sI, tset]
    rcases (show f = 0 ∨ f = 1 ∨ f = 2 ∨ f = 3 ∨ f = 4 ∨ f = 5 ∨ f = 6 by omega) with q | q | q | q | q | q | q <;> subst q <;> simp (config := { decide := true }) only [if_true, if_false, r0, r1, r2, r3, r4, r5, r6, and_self]
theorem M_set {S : TB} {h : HS} (hS : Mst S h) (s w v : Int32) : ∃ h', f_X12_set s w v h = some (a_set S s w v, h') ∧ Mst (u_set S s w v) h' ∧ Fr 1 h h' := by
  have e0 : (0 : Int64).toInt = 0 := rfl
  have e1 : (1 : Int64).toInt = 1 := rfl
  have e3 : (3 : Int64).toInt = 3 := rfl
  have e99 : (99 : Int64).toInt = 99 := rfl
  have e999 : (999 : Int64).toInt = 999 := rfl
  rcases ix_case s S.1 with ⟨i, hi, rfl, hz⟩ | hz
  · have h8 := hS.2.1
    have hx := ixb_n (i := i) (n := 8) (by omega) (by decide)
    have hc : (nI i).toNatClampNeg = i := nI_clamp (by omega)
    obtain ⟨r0, r1, r2, r3, r4, r5, r6⟩ := hS.2.2 i hi
    cases ok : okSet w v
    · refine ⟨h, ?_, by rw [u_set, hz, ok]; exact hS, Fr.rf⟩
      unfold f_X12_set a_set
      rw [hz, ok]
      simp only [M_isStall hS, hz, Option.bind_some, f_in_eq, Int32.toInt_toInt64, e0, e3, if_true]
      rcases w4 w with q | q | q | q | ⟨q0, q1, q2, q3, q4⟩
      · subst q
        have ok2 : inZ v.toInt 1 99 = false := ok
        have o3 : inZ (0 : Int32).toInt 0 3 = true := by decide
        simp (config := { decide := true }) only [f_in_eq, Int32.toInt_toInt64, Option.bind_some, e0, e1, e99, if_true, if_false, ok2, o3]
      · subst q
        have ok2 : inZ v.toInt 0 999 = false := ok
        have o3 : inZ (1 : Int32).toInt 0 3 = true := by decide
        simp (config := { decide := true }) only [f_in_eq, Int32.toInt_toInt64, Option.bind_some, e0, e999, if_true, if_false, ok2, o3]
      · subst q
        have ok2 : inZ v.toInt 0 999 = false := ok
        have o3 : inZ (2 : Int32).toInt 0 3 = true := by decide
        simp (config := { decide := true }) only [f_in_eq, Int32.toInt_toInt64, Option.bind_some, e0, e999, if_true, if_false, ok2, o3]
      · subst q
        have ok2 : inZ v.toInt 0 1 = false := ok
        have o3 : inZ (3 : Int32).toInt 0 3 = true := by decide
        simp (config := { decide := true }) only [f_in_eq, Int32.toInt_toInt64, Option.bind_some, e0, e1, if_true, if_false, ok2, o3]
      · simp [q4]
    · have ex : ∃ f, f < 7 ∧ f = fW w ∧ f_X12_set (nI i) w v h = some (S.2 f i, sI h (64 + f) i v) := by
        unfold f_X12_set
        rcases w4 w with q | q | q | q | ⟨q0, q1, q2, q3, q4⟩
        · subst q
          have ok2 : inZ v.toInt 1 99 = true := ok
          have o3 : inZ (0 : Int32).toInt 0 3 = true := by decide
          refine ⟨3, by decide, rfl, ?_⟩
          simp (config := { decide := true }) only [M_isStall hS, hz, Option.bind_some, f_in_eq, Int32.toInt_toInt64, e0, e1, e3, e99, if_true, if_false, ok2, hx, hc, r3, o3]
        · subst q
          have ok2 : inZ v.toInt 0 999 = true := ok
          have o3 : inZ (1 : Int32).toInt 0 3 = true := by decide
          refine ⟨4, by decide, rfl, ?_⟩
          simp (config := { decide := true }) only [M_isStall hS, hz, Option.bind_some, f_in_eq, Int32.toInt_toInt64, e0, e3, e999, if_true, if_false, ok2, hx, hc, r4, o3]
        · subst q
          have ok2 : inZ v.toInt 0 999 = true := ok
          have o3 : inZ (2 : Int32).toInt 0 3 = true := by decide
          refine ⟨5, by decide, rfl, ?_⟩
          simp (config := { decide := true }) only [M_isStall hS, hz, Option.bind_some, f_in_eq, Int32.toInt_toInt64, e0, e3, e999, if_true, if_false, ok2, hx, hc, r5, o3]
        · subst q
          have ok2 : inZ v.toInt 0 1 = true := ok
          have o3 : inZ (3 : Int32).toInt 0 3 = true := by decide
          refine ⟨6, by decide, rfl, ?_⟩
          simp (config := { decide := true }) only [M_isStall hS, hz, Option.bind_some, f_in_eq, Int32.toInt_toInt64, e0, e1, e3, if_true, if_false, ok2, hx, hc, r6, o3]
        · simp [okSet, q0, q1, q2, q3] at ok
      obtain ⟨f, f7, ff, hf⟩ := ex
      refine ⟨_, by rw [a_set, hz, ok, ← ff, hc]; exact hf, by rw [u_set, hz, ok, ← ff, hc]; exact hS.set f7 hi v, Fr.sI Fr.rf (Or.inl ?_)⟩
      rcases (show f = 0 ∨ f = 1 ∨ f = 2 ∨ f = 3 ∨ f = 4 ∨ f = 5 ∨ f = 6 by omega) with q | q | q | q | q | q | q <;> subst q <;> rfl
  · refine ⟨h, ?_, by rw [u_set, hz]; exact hS, Fr.rf⟩
    unfold f_X12_set a_set
    simp [M_isStall hS, hz]
def seenI (S : TB) (i : Nat) : Int32 := if S.2 0 i = 0 then 0 else if S.2 0 i = 3 then 2 else if S.2 0 i = 5 then 2 + S.2 6 i else 1
def a_told (S : TB) (s w : Int32) : Int32 := if inZ s.toInt 0 (S.1 - 1) = true then (if w = 0 then S.2 0 s.toNatClampNeg else if w = 1 then S.2 1 s.toNatClampNeg else if w = 2 then S.2 2 s.toNatClampNeg else if w = 3 then S.2 3 s.toNatClampNeg else if w = 4 then S.2 4 s.toNatClampNeg else if w = 5 then S.2 5 s.toNatClampNeg else if w = 6 then S.2 6 s.toNatClampNeg else if w = 7 then seenI S s.toNatClampNeg else -5) else -5
theorem M_seen {S : TB} {h : HS} (hS : Mst S h) {i : Nat} (hi : i < S.1) : f_X12_seenOf (nI i) h = some (seenI S i) := by
  have h8 := hS.2.1
  have hx := ixb_n (i := i) (n := 8) (by omega) (by decide)
  have hc : (nI i).toNatClampNeg = i := nI_clamp (by omega)
  obtain ⟨r0, r1, r2, r3, r4, r5, r6⟩ := hS.2.2 i hi
  unfold f_X12_seenOf seenI
  simp only [hx, hc, r0, r6, if_true]
  split; rfl
  split; rfl
  split <;> rfl
theorem M_told {S : TB} {h : HS} (hS : Mst S h) (s w : Int32) (hw : w ≠ 8) : f_X12_told s w h = some (a_told S s w, h) := by
  unfold f_X12_told a_told
  simp only [M_isStall hS, Option.bind_some]
  rcases ix_case s S.1 with ⟨i, hi, rfl, hz⟩ | hz
  · have h8 := hS.2.1
    have hx := ixb_n (i := i) (n := 8) (by omega) (by decide)
    have hc : (nI i).toNatClampNeg = i := nI_clamp (by omega)
    obtain ⟨r0, r1, r2, r3, r4, r5, r6⟩ := hS.2.2 i hi
    simp only [hz, if_true, hx, hc, r0, r1, r2, r3, r4, r5, r6, M_seen hS hi, Option.bind_some, if_neg hw]
    split; rfl
    split; rfl
    split; rfl
    split; rfl
    split; rfl
    split; rfl
    split; rfl
    split <;> rfl
  · simp [hz]
theorem Ost.seen {S : TB} {tg : Nat → Nat} {h : HS} {i p : Nat} (o : Ost S tg h i p) (hW : Wst S) (hi : i < S.1) : f_V_gaffs p h = some (seenI S i) := by
  obtain ⟨w0, -⟩ := hW i hi
  have hT0 := o.2.1
  have h7 : hI h p 7 = S.2 6 i := o.2.2.2.2.2.2.2.2.2
  unfold f_V_gaffs f_X7_gaffs f_X1_gaffs seenI
  rw [hT0, h7]
  rcases k6 w0 with q | q | q | q | q | q <;> rw [q] <;> rfl
theorem plB_re {p : Int32} (h : plB p = true) : (100 : Int32) * (p / 100) + (p - p / 100 * 100) = p := by
  obtain ⟨h1, h2, h3, h4⟩ := plB_t h
  have d1 := i32_d100 h1
  have d2 := i32_r100 h1
  have m1 : ((100 : Int32) * (p / 100)).toInt = 100 * (p.toInt / 100) := by
    rw [i32_mulZ (by rw [d1]; simp; omega) (by rw [d1]; simp; omega), d1]; rfl
  rw [i32_eqZ, i32_addZ (by omega) (by omega), m1, d2]
  omega
theorem X_told {S : TB} {tg : Nat → Nat} {h : HS} (hX : Xst S tg h) (hW : Wst S) (s w : Int32) (hw : w ≠ 8) : f_X11_told s w h = some (a_told S s w, h) := by
  unfold f_X11_told a_told
  rcases X_stallAt hX s with ⟨i, p, hi, rfl, hz, hf, o, -⟩ | ⟨hz, hf⟩
  · obtain ⟨el, hl, -⟩ := hX
    have h8 := hl.2.2.1
    have hc : (nI i).toNatClampNeg = i := nI_clamp (by omega)
    have hs := o.seen hW hi
    obtain ⟨o0, o1, o2, o3, o4, o5, o6, o7, o8, o9⟩ := o
    simp only [hf, hz, hc, Option.bind_some, om_some, if_true, o1, kcl_st, o2, o3, o4, o5, o6, o7, o8, o9, hs, if_neg hw, plB_re (hW i hi).2.1]
    split; rfl
    split; rfl
    split; rfl
    split; rfl
    split; rfl
    split; rfl
    split; rfl
    split <;> rfl
  · simp [hz, hf, om_none]
theorem settable_eq (w v : Int32) : f_X11_isSettable w v = some (okSet w v) := by
  have e0 : (0 : Int32).toInt = 0 := rfl
  have e1 : (1 : Int32).toInt = 1 := rfl
  have e99 : (99 : Int32).toInt = 99 := rfl
  have e999 : (999 : Int32).toInt = 999 := rfl
  unfold f_X11_isSettable okSet f_X11_isBit
  simp only [f_isIn_eq, Option.bind_some, e0, e1, e99, e999]
  split; rfl
  split; rfl
  split; rfl
  split
  · simp only [i32_eqZ, e0, e1]
    by_cases c : v.toInt = 0
    · simp [c, inZ]
    · by_cases c2 : v.toInt = 1
      · simp [c2, inZ]
      · simp [c, c2, inZ]; omega
  · rfl
theorem V_changeable_eq {p : Nat} {h : HS} {K : Int32} (hT0 : hT h p = kcl K) (w : Int32) : f_V_changeable p w h = some (hI h p (if w = 0 then 4 else if w = 1 then 5 else if w = 2 then 6 else 7)) := by
  have st : isSt (hT h p) = true := by rw [hT0]; exact kcl_st K
  have e : f_X8_changeable p w h = some (hI h p (if w = 0 then 4 else if w = 1 then 5 else if w = 2 then 6 else 7)) := by
    unfold f_X8_changeable
    simp only [st, if_true]
    split; rfl
    split; rfl
    split <;> rfl
  unfold f_V_changeable
  rw [e]
  rcases isSt_c st with q | q | q | q | q | q <;> rw [q] <;> rfl
theorem V_change_eq {p : Nat} {h : HS} {K : Int32} (hT0 : hT h p = kcl K) (w v : Int32) : f_V_change p w v h = some (sI h p (if w = 0 then 4 else if w = 1 then 5 else if w = 2 then 6 else 7) v) := by
  have st : isSt (hT h p) = true := by rw [hT0]; exact kcl_st K
  have e : f_X8_change p w v h = some (sI h p (if w = 0 then 4 else if w = 1 then 5 else if w = 2 then 6 else 7) v) := by
    unfold f_X8_change
    simp only [st, if_true]
    split; rfl
    split; rfl
    split <;> rfl
  unfold f_V_change
  rw [e]
  rcases isSt_c st with q | q | q | q | q | q <;> rw [q] <;> rfl
theorem Wx.sI {tg : Nat → Nat} {h : HS} {a k : Nat} {v : Int32} (hw : Wx tg h) : Wx tg (sI h a k v) := ⟨hw.1, hw.2.1, hw.2.2⟩
theorem Wx.sL {tg : Nat → Nat} {h : HS} {a k : Nat} {v : Int64} (hw : Wx tg h) : Wx tg (sL h a k v) := ⟨hw.1, hw.2.1, hw.2.2⟩
theorem Xst.set {S : TB} {tg : Nat → Nat} {h : HS} {f i p : Nat} (hX : Xst S tg h) (hw : Wx tg h) (hi : i < S.1) (hf : 3 ≤ f ∧ f < 7) (o : Ost S tg h i p) (hu : ∀ el, XL tg h 33 1 S.1 el → el i = p) (v : Int32) : Xst (tset S f i v) tg (sI h p (f + 1) v) := by
  obtain ⟨el, hl, ho⟩ := hX
  have h8 := hl.2.2.1
  have F : Fx (fun b => b = p) h (sI h p (f + 1) v) := Fx.sI Fx.rf (Or.inl rfl)
  have hp := hw.1 p (by have := o.1; omega)
  refine ⟨el, hl.fx F (by have := hw.2.2; omega) (fun _ _ => rfl) hw (by decide) (by omega) (fun b hb q => by subst q; have := o.1; omega), fun j hj => ?_⟩
  have hj' : j < S.1 := hj
  have oj := ho j hj'
  by_cases e : el j = p
  · have : j = i := by have h1 := oj.1; have h2 := o.1; rw [e] at h1; omega
    subst this
    rw [e]
    obtain ⟨o0, o1, o2, o3, o4, o5, o6, o7, o8, o9⟩ := o
    rcases (show f = 3 ∨ f = 4 ∨ f = 5 ∨ f = 6 by omega) with q | q | q | q <;> subst q <;> simp (config := { decide := true }) only [Ost, tset, hI_sI, hI_sL, hI_sR, hL_sI, hL_sL, hL_sR, hR_sI, hR_sL, hR_sR, hT_sI, hT_sL, hT_sR, hLn_sI, hLn_sL, hLn_sR, hN_sI, hN_sL, hN_sR, if_true, if_false, o0, o1, o2, o3, o4, o5, o6, o7, o8, o9, and_self]
  · have hne : j ≠ i := fun q => by
      subst q
      exact e (hu el hl)
    have o2 := oj.fx hw F (fun _ _ => rfl) e
    simp only [Ost, tset, if_neg hne] at o2 ⊢
    simpa using o2
theorem X_set {S : TB} {tg : Nat → Nat} {h : HS} (hX : Xst S tg h) (hw : Wx tg h) (s w v : Int32) : ∃ h', f_X11_set s w v h = some (a_set S s w v, h') ∧ Xst (u_set S s w v) tg h' ∧ Wx tg h' ∧ Fx (fun b => 10 ≤ tg b ∧ tg b < 18) h h' := by
  have hX0 := hX
  rcases X_stallAt hX s with ⟨i, p, hi, rfl, hz, hf, o, hu⟩ | ⟨hz, hf⟩
  · have h8 : S.1 ≤ 8 := by obtain ⟨el, hl, -⟩ := hX; exact hl.2.2.1
    have hc : (nI i).toNatClampNeg = i := nI_clamp (by omega)
    cases ok : okSet w v
    · refine ⟨h, ?_, by rw [u_set, hz, ok]; exact hX0, hw, Fx.rf⟩
      unfold f_X11_set a_set
      simp [hf, om_some, settable_eq, ok]
    · have e1 : (if w = 0 then 4 else if w = 1 then 5 else if w = 2 then 6 else 7) = fW w + 1 := by
        unfold fW
        split; rfl
        split; rfl
        split <;> rfl
      have hfw : 3 ≤ fW w ∧ fW w < 7 := by
        unfold fW
        split; omega
        split; omega
        split <;> omega
      have hrd : hI h p (fW w + 1) = S.2 (fW w) i := by
        obtain ⟨o0, o1, o2, o3, o4, o5, o6, o7, o8, o9⟩ := o
        rcases (show fW w = 3 ∨ fW w = 4 ∨ fW w = 5 ∨ fW w = 6 by omega) with q | q | q | q <;> rw [q]
        · exact o6
        · exact o7
        · exact o8
        · exact o9
      refine ⟨sI h p (fW w + 1) v, ?_, by rw [u_set, hz, ok, hc]; exact hX0.set hw hi hfw o hu v, hw.sI, Fx.sI Fx.rf (Or.inl (by have := o.1; omega))⟩
      unfold f_X11_set a_set
      simp only [hf, om_some, settable_eq, ok, hz, Option.bind_some, V_changeable_eq o.2.1, V_change_eq o.2.1, e1, hc, hrd, Bool.and_self, if_true]
  · refine ⟨h, ?_, by rw [u_set, hz]; exact hX0, hw, Fx.rf⟩
    unfold f_X11_set a_set
    simp [hf, hz, om_none]
