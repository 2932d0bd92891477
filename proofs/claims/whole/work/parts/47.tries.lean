/-! ===== tries ===== -/
def Mtr (T : TB) (h : HS) : Prop := hI h 60 25 = nI T.1 ∧ T.1 ≤ 60 ∧ ∀ i, i < T.1 → hI h 74 i = T.2 0 i ∧ hI h 75 i = T.2 1 i ∧ hI h 76 i = T.2 2 i ∧ hI h 77 i = T.2 3 i ∧ hI h 78 i = T.2 4 i
def Xtr (T : TB) (h : HS) : Prop := hI h 32 5 = nI T.1 ∧ T.1 ≤ 60 ∧ ∀ i f, i < T.1 → f < 5 → hI h 36 (i * 5 + f) = T.2 f i
def Wtr (S H T : TB) : Prop := ∀ i, i < T.1 → (∃ s, s < S.1 ∧ T.2 0 i = nI s) ∧ (∃ j, j < H.1 ∧ T.2 1 i = nI j) ∧ plB (T.2 2 i) = true ∧ (T.2 3 i = 0 ∨ T.2 3 i = 1) ∧ (0 ≤ (T.2 4 i).toInt ∧ (T.2 4 i).toInt ≤ 1)
def rowT (s j a w e : Int32) : Nat → Int32 := fun f => if f = 0 then s else if f = 1 then j else if f = 2 then a else if f = 3 then w else e
theorem M_keeps {S T : TB} {h : HS} (hS : Mst S h) (hT0 : Mtr T h) {i : Nat} (hi : i < S.1) (ht : T.1 < 60) (j a w : Int32) : ∃ h', f_X12_keeps (nI i) j a w h = some (nI T.1, h') ∧ Mtr (tpush T (rowT (nI i) j a w (S.2 6 i))) h' ∧ Fr 3 h h' := by
  obtain ⟨hn, h60, hr⟩ := hT0
  have h8 := hS.2.1
  have hx8 := ixb_n (i := i) (n := 8) (by omega) (by decide)
  have hx := ixb_n ht (by decide)
  have hc : (nI T.1).toNatClampNeg = T.1 := nI_clamp (by omega)
  have hci : (nI i).toNatClampNeg = i := nI_clamp (by omega)
  have r6 := (hS.2.2 i hi).2.2.2.2.2.2
  refine ⟨_, by
    unfold f_X12_keeps
    simp (config := { decide := true }) only [hn, hx, hx8, hc, hci, hI_sI, hI_sL, hI_sR, hL_sI, hL_sL, hL_sR, hR_sI, hR_sL, hR_sR, hT_sI, hT_sL, hT_sR, hLn_sI, hLn_sL, hLn_sR, hN_sI, hN_sL, hN_sR, bh_eq, if_true, if_false, r6, nI_1, nI_pred]
    rfl, ?_, ?_⟩
  · refine ⟨by simp [hI_sI, hI_sL, hI_sR, hL_sI, hL_sL, hL_sR, hR_sI, hR_sL, hR_sR, hT_sI, hT_sL, hT_sR, hLn_sI, hLn_sL, hLn_sR, hN_sI, hN_sL, hN_sR, tpush], by simp [tpush]; omega, fun q hq => ?_⟩
    simp only [tpush] at hq
    by_cases e : q = T.1
    · subst e; simp [hI_sI, hI_sL, hI_sR, hL_sI, hL_sL, hL_sR, hR_sI, hR_sL, hR_sR, hT_sI, hT_sL, hT_sR, hLn_sI, hLn_sL, hLn_sR, hN_sI, hN_sL, hN_sR, tpush, rowT]
    · have := hr q (by omega)
      simp [hI_sI, hI_sL, hI_sR, hL_sI, hL_sL, hL_sR, hR_sI, hR_sL, hR_sR, hT_sI, hT_sL, hT_sR, hLn_sI, hLn_sL, hLn_sR, hN_sI, hN_sL, hN_sR, tpush, e, this]
  · (repeat (first | exact Fr.rf | assumption | refine Fr.sI ?_ (by first | exact Or.inl rfl | exact Or.inr rfl) | refine Fr.sL ?_ (by first | exact Or.inl rfl | exact Or.inr rfl)))
theorem X_keep {S T : TB} {tg : Nat → Nat} {h : HS} (hX : Xst S tg h) (hw : Wx tg h) (hT0 : Xtr T h) {i : Nat} (hi : i < S.1) (ht : T.1 < 60) (j a w : Int32) : ∃ h', f_X11_keepTry (nI i) j a w h = some h' ∧ hI h' 32 5 = nI (T.1 + 1) ∧ Xtr (tpush T (rowT (nI i) j a w (S.2 6 i))) h' ∧ Wx tg h' ∧ Fx (fun b => b = 32 ∨ b = 36) h h' ∧ ∀ k, k ≠ 5 → hI h' 32 k = hI h 32 k := by
  obtain ⟨hn, h60, hr⟩ := hT0
  rcases X_stallAt hX (nI i) with ⟨i2, p, hi2, e2, hz, hf, o, -⟩ | ⟨hz, hf⟩
  · have h8 : S.1 ≤ 8 := by obtain ⟨el, hl, -⟩ := hX; exact hl.2.2.1
    have : i = i2 := (nI_eq (by omega) (by omega)).mp e2
    subst this
    have hp := hw.1 p (by have := o.1; omega)
    have hp36 : ¬ p = 36 := by omega
    have hp32 : ¬ p = 32 := by omega
    have m5 : nI T.1 * (5 : Int32) = nI (T.1 * 5) := pk_mul T.1 5
    have a0 : nI (T.1 * 5) + (0 : Int32) = nI (T.1 * 5 + 0) := nI_add _ 0
    have a1 : nI (T.1 * 5) + (1 : Int32) = nI (T.1 * 5 + 1) := nI_add _ 1
    have a2 : nI (T.1 * 5) + (2 : Int32) = nI (T.1 * 5 + 2) := nI_add _ 2
    have a3 : nI (T.1 * 5) + (3 : Int32) = nI (T.1 * 5 + 3) := nI_add _ 3
    have a4 : nI (T.1 * 5) + (4 : Int32) = nI (T.1 * 5 + 4) := nI_add _ 4
    have c : ∀ q, q < 300 → (nI q).toNatClampNeg = q := fun q hq => nI_clamp (by omega)
    have x : ∀ q, q < 300 → ixb (nI q) 300 = true := fun q hq => ixb_n hq (by decide)
    have c0 := c (T.1 * 5 + 0) (by omega)
    have c1 := c (T.1 * 5 + 1) (by omega)
    have c2 := c (T.1 * 5 + 2) (by omega)
    have c3 := c (T.1 * 5 + 3) (by omega)
    have c4 := c (T.1 * 5 + 4) (by omega)
    have x0 := x (T.1 * 5 + 0) (by omega)
    have x1 := x (T.1 * 5 + 1) (by omega)
    have x2 := x (T.1 * 5 + 2) (by omega)
    have x3 := x (T.1 * 5 + 3) (by omega)
    have x4 := x (T.1 * 5 + 4) (by omega)
    have hin : inZ (nI (T.1 * 5)).toInt (0 : Int32).toInt ((300 : Int32) - 5).toInt = true := by
      rw [nI_Z (by omega), inZ_t]
      have e1 : (0 : Int32).toInt = 0 := rfl
      have e2 : ((300 : Int32) - 5).toInt = 295 := by decide
      rw [e1, e2]; omega
    have st : isSt (hT h p) = true := by rw [o.2.1]; exact kcl_st _
    have h7 : hI h p 7 = S.2 6 i := o.2.2.2.2.2.2.2.2.2
    refine ⟨sI (sI (sI (sI (sI (sI h 36 (T.1 * 5 + 0) (nI i)) 36 (T.1 * 5 + 1) j) 36 (T.1 * 5 + 2) a) 36 (T.1 * 5 + 3) w) 36 (T.1 * 5 + 4) (S.2 6 i)) 32 5 (nI (T.1 + 1)), ?_, ?_, ⟨?_, ?_, ?_⟩, ?_, ?_, ?_⟩
    · unfold f_X11_keepTry
      simp (config := { decide := true }) only [hf, Option.bind_some, om_some, hn, m5, f_isIn_eq, hin, if_true, a0, a1, a2, a3, a4, c0, c1, c2, c3, c4, x0, x1, x2, x3, x4, bh_eq, hI_sI, hI_sL, hI_sR, hL_sI, hL_sL, hL_sR, hR_sI, hR_sL, hR_sR, hT_sI, hT_sL, hT_sR, hLn_sI, hLn_sL, hLn_sR, hN_sI, hN_sL, hN_sR, st, if_neg hp36, h7, if_false, nI_1]
    · simp only [hI_sI, hI_sL, hI_sR, hL_sI, hL_sL, hL_sR, hR_sI, hR_sL, hR_sR, hT_sI, hT_sL, hT_sR, hLn_sI, hLn_sL, hLn_sR, hN_sI, hN_sL, hN_sR, if_true]
    · simp only [hI_sI, hI_sL, hI_sR, hL_sI, hL_sL, hL_sR, hR_sI, hR_sL, hR_sR, hT_sI, hT_sL, hT_sR, hLn_sI, hLn_sL, hLn_sR, hN_sI, hN_sL, hN_sR, if_true, tpush]
    · show T.1 + 1 ≤ 60; omega
    · intro q f hq hf5
      have hq' : q < T.1 + 1 := hq
      simp only [hI_sI, hI_sL, hI_sR, hL_sI, hL_sL, hL_sR, hR_sI, hR_sL, hR_sR, hT_sI, hT_sL, hT_sR, hLn_sI, hLn_sL, hLn_sR, hN_sI, hN_sL, hN_sR, tpush, rowT]
      rw [if_neg (show ¬ (36 = 32) by decide)]
      simp only [if_true]
      by_cases e : q = T.1
      · subst e
        simp only [if_true]
        rcases (show f = 0 ∨ f = 1 ∨ f = 2 ∨ f = 3 ∨ f = 4 by omega) with z | z | z | z | z <;> subst z
        · rw [if_neg (by omega), if_neg (by omega), if_neg (by omega), if_neg (by omega)]; simp
        · rw [if_neg (by omega), if_neg (by omega), if_neg (by omega)]; simp
        · rw [if_neg (by omega), if_neg (by omega)]; simp
        · rw [if_neg (by omega)]; simp
        · simp
      · have hq2 : q < T.1 := by omega
        rw [if_neg (by omega), if_neg (by omega), if_neg (by omega), if_neg (by omega), if_neg (by omega), if_neg e]
        exact hr q f hq2 hf5
    · exact hw.sI.sI.sI.sI.sI.sI
    · exact Fx.sI (Fx.sI (Fx.sI (Fx.sI (Fx.sI (Fx.sI Fx.rf (Or.inl (Or.inr rfl))) (Or.inl (Or.inr rfl))) (Or.inl (Or.inr rfl))) (Or.inl (Or.inr rfl))) (Or.inl (Or.inr rfl))) (Or.inl (Or.inl rfl))
    · intro k hk
      simp (config := { decide := true }) only [hI_sI, hI_sL, hI_sR, hL_sI, hL_sL, hL_sR, hR_sI, hR_sL, hR_sR, hT_sI, hT_sL, hT_sR, hLn_sI, hLn_sL, hLn_sR, hN_sI, hN_sL, hN_sR, if_true, if_false, if_neg hk]
  · exfalso
    have h8 : S.1 ≤ 8 := by obtain ⟨el, hl, -⟩ := hX; exact hl.2.2.1
    rw [nI_Z (by omega)] at hz
    have := inZ_f.mp hz
    omega
def okTry (S H : TB) (s j a w : Int32) : Bool := inZ s.toInt 0 (S.1 - 1) && inZ j.toInt 0 (H.1 - 1) && plB a && inZ w.toInt 0 1
def a_shown (S H T : TB) (s j a w : Int32) : Int32 := if okTry S H s j a w = true then (if T.1 = 60 then -4 else nI T.1) else -2
def u_shown (S H T : TB) (s j a w : Int32) : TB := if okTry S H s j a w = true then (if T.1 = 60 then T else tpush T (rowT s j a w (S.2 6 s.toNatClampNeg))) else T
theorem okT_f {S H : TB} {s j a w : Int32} (ok : ¬ okTry S H s j a w = true) : inZ s.toInt 0 (S.1 - 1) = false ∨ (inZ s.toInt 0 (S.1 - 1) = true ∧ inZ j.toInt 0 (H.1 - 1) = false) ∨ (inZ s.toInt 0 (S.1 - 1) = true ∧ inZ j.toInt 0 (H.1 - 1) = true ∧ plB a = false) ∨ (inZ s.toInt 0 (S.1 - 1) = true ∧ inZ j.toInt 0 (H.1 - 1) = true ∧ plB a = true ∧ inZ w.toInt 0 1 = false) := by
  simp only [okTry] at ok
  revert ok
  cases inZ s.toInt 0 (S.1 - 1) <;> cases inZ j.toInt 0 (H.1 - 1) <;> cases plB a <;> cases inZ w.toInt 0 1 <;> simp
theorem M_shown {S H T : TB} {h : HS} (hS : Mst S h) (hH : Mha H h) (hT0 : Mtr T h) (s j a w : Int32) : ∃ h', f_X12_shown s j a w h = some (a_shown S H T s j a w, h') ∧ Mtr (u_shown S H T s j a w) h' ∧ Fr 3 h h' := by
  have e0 : (0 : Int64).toInt = 0 := rfl
  have e1 : (1 : Int64).toInt = 1 := rfl
  by_cases ok : okTry S H s j a w = true
  · have ok2 := ok
    simp only [okTry, Bool.and_eq_true] at ok2
    obtain ⟨⟨⟨o1, o2⟩, o3⟩, o4⟩ := ok2
    by_cases h9 : T.1 = 60
    · refine ⟨h, ?_, by rw [u_shown, if_pos ok, if_pos h9]; exact hT0, Fr.rf⟩
      unfold f_X12_shown
      simp only [M_isStall hS, M_isHand hH, f_in_eq, f_pl12_eq, Int32.toInt_toInt64, e0, e1, o1, o2, o3, o4, Option.bind_some, if_true, a_shown, ok, h9, hT0.1]
      rfl
    · have hlt : T.1 < 60 := by have := hT0.2.1; omega
      rcases ix_case s S.1 with ⟨i, hi, rfl, hz⟩ | hz
      · have hci : (nI i).toNatClampNeg = i := nI_clamp (by have := hS.2.1; omega)
        obtain ⟨h', k1, k2, k3⟩ := M_keeps hS hT0 hi hlt j a w
        have h8' : ¬ nI T.1 = 60 := by rw [show (60 : Int32) = nI 60 from rfl, nI_eq (by omega) (by decide)]; omega
        refine ⟨h', ?_, by rw [u_shown, if_pos ok, if_neg h9, hci]; exact k2, k3⟩
        unfold f_X12_shown
        simp only [M_isStall hS, M_isHand hH, f_in_eq, f_pl12_eq, Int32.toInt_toInt64, e0, e1, o1, o2, o3, o4, Option.bind_some, if_true, a_shown, ok, h9, hT0.1, if_neg h8', k1, if_false]
      · rw [hz] at o1; cases o1
  · refine ⟨h, ?_, by rw [u_shown, if_neg ok]; exact hT0, Fr.rf⟩
    unfold f_X12_shown a_shown
    rw [if_neg ok]
    simp only [M_isStall hS, M_isHand hH, f_in_eq, f_pl12_eq, Int32.toInt_toInt64, e0, e1, Option.bind_some]
    rcases okT_f ok with q | ⟨q1, q2⟩ | ⟨q1, q2, q3⟩ | ⟨q1, q2, q3, q4⟩
    · simp [q]
    · simp [q1, q2]
    · simp [q1, q2, q3]
    · simp [q1, q2, q3, q4]
theorem isBit_eq (v : Int32) : f_X11_isBit v = some (inZ v.toInt 0 1) := by
  have := settable_eq 3 v
  unfold f_X11_isSettable okSet at this
  simp (config := { decide := true }) only [if_true, if_false] at this
  cases h : f_X11_isBit v with
  | none => rw [h] at this; cases this
  | some b => rw [h] at this; simpa using this
theorem X_isTry {S H : TB} {tg : Nat → Nat} {h : HS} (hX : Xst S tg h) (hH : Xha H tg h) (s j a w : Int32) : f_X11_isTry s j a w h = some (okTry S H s j a w) := by
  unfold f_X11_isTry okTry
  rcases X_stallAt hX s with ⟨i, p, hi, rfl, hz, hf, -, -⟩ | ⟨hz, hf⟩
  · rcases X_handAt hH j with ⟨i2, p2, hi2, rfl, hz2, hf2, -⟩ | ⟨hz2, hf2⟩
    · simp only [hf, hf2, hz, hz2, Option.bind_some, om_some, f_pl11_eq, isBit_eq]
      cases plB a <;> cases inZ w.toInt 0 1 <;> rfl
    · simp [hf, hf2, hz, hz2, om_some, om_none]
  · simp [hf, hz, om_none]
theorem X_shown {S H T : TB} {tg : Nat → Nat} {h : HS} (hX : Xst S tg h) (hH : Xha H tg h) (hw : Wx tg h) (hT0 : Xtr T h) (s j a w : Int32) : ∃ h', f_X11_shown s j a w h = some (a_shown S H T s j a w, h') ∧ Xtr (u_shown S H T s j a w) h' ∧ Wx tg h' ∧ Fx (fun b => b = 32 ∨ b = 36) h h' ∧ ∀ k, k ≠ 5 → hI h' 32 k = hI h 32 k := by
  by_cases ok : okTry S H s j a w = true
  · by_cases h9 : T.1 = 60
    · refine ⟨h, ?_, by rw [u_shown, if_pos ok, if_pos h9]; exact hT0, hw, Fx.rf, fun _ _ => rfl⟩
      unfold f_X11_shown
      have : ¬ nI 60 < 60 := by decide
      simp only [X_isTry hX hH, ok, Option.bind_some, if_true, a_shown, h9, hT0.1, if_neg this]
    · have hlt : T.1 < 60 := by have := hT0.2.1; omega
      rcases ix_case s S.1 with ⟨i, hi, rfl, hz⟩ | hz
      · have h8 : S.1 ≤ 8 := by obtain ⟨el, hl, -⟩ := hX; exact hl.2.2.1
        have hci : (nI i).toNatClampNeg = i := nI_clamp (by omega)
        obtain ⟨h', k1, k2, k3, k4, k5, k6⟩ := X_keep hX hw hT0 hi hlt j a w
        have hl60 : nI T.1 < 60 := by rw [show (60 : Int32) = nI 60 from rfl]; exact nI_lt hlt (by decide)
        refine ⟨h', ?_, by rw [u_shown, if_pos ok, if_neg h9, hci]; exact k3, k4, k5, k6⟩
        unfold f_X11_shown
        simp only [X_isTry hX hH, ok, Option.bind_some, if_true, a_shown, if_neg h9, hT0.1, if_pos hl60, k1, k2, nI_pred]
      · have ok2 := ok
        simp only [okTry, hz, Bool.false_and] at ok2
        cases ok2
  · refine ⟨h, ?_, by rw [u_shown, if_neg ok]; exact hT0, hw, Fx.rf, fun _ _ => rfl⟩
    unfold f_X11_shown a_shown
    rw [if_neg ok]
    simp only [X_isTry hX hH, Option.bind_some, if_neg ok]
def a_tryTold (T : TB) (t w : Int32) : Int32 := if (inZ t.toInt 0 (T.1 - 1) && inZ w.toInt 0 4) = true then T.2 w.toNatClampNeg t.toNatClampNeg else -1
theorem w5 (w : Int32) : w = 0 ∨ w = 1 ∨ w = 2 ∨ w = 3 ∨ w = 4 ∨ (w ≠ 0 ∧ w ≠ 1 ∧ w ≠ 2 ∧ w ≠ 3 ∧ w ≠ 4 ∧ inZ w.toInt 0 4 = false) := by
  have e0 : (0 : Int32).toInt = 0 := rfl
  have e1 : (1 : Int32).toInt = 1 := rfl
  have e2 : (2 : Int32).toInt = 2 := rfl
  have e3 : (3 : Int32).toInt = 3 := rfl
  have e4 : (4 : Int32).toInt = 4 := rfl
  simp only [i32_eqZ, ne_eq, inZ_f, e0, e1, e2, e3, e4]
  omega
theorem M_tryTold {T : TB} {h : HS} (hT0 : Mtr T h) (t w : Int32) : f_X12_tryTold t w h = some (a_tryTold T t w) := by
  have e0 : (0 : Int64).toInt = 0 := rfl
  obtain ⟨hn, h60, hr⟩ := hT0
  unfold f_X12_tryTold a_tryTold
  simp only [f_in_eq, hn, cnt_pred (show T.1 ≤ 1000 by omega), Int32.toInt_toInt64, e0, Option.bind_some]
  rcases ix_case t T.1 with ⟨i, hi, rfl, hz⟩ | hz
  · have hx := ixb_n (i := i) (n := 60) (by omega) (by decide)
    have hc : (nI i).toNatClampNeg = i := nI_clamp (by omega)
    obtain ⟨r0, r1, r2, r3, r4⟩ := hr i hi
    simp only [hz, if_true, hx, hc, r0, r1, r2, r3, r4]
    rcases w5 w with q | q | q | q | q | ⟨q0, q1, q2, q3, q4, q5⟩
    · subst q; rfl
    · subst q; rfl
    · subst q; rfl
    · subst q; rfl
    · subst q; rfl
    · simp [q0, q1, q2, q3, q4, q5]
  · simp [hz]
theorem tryField_eq {T : TB} {h : HS} (hT0 : Xtr T h) {i f : Nat} (hi : i < T.1) (hf : f < 5) : f_X11_tryField (nI i) (nI f) h = some (T.2 f i) := by
  obtain ⟨hn, h60, hr⟩ := hT0
  have m5 : nI i * (5 : Int32) + nI f = nI (i * 5 + f) := by rw [show (5 : Int32) = nI 5 from rfl, pk_mul, nI_add]
  have hin : inZ (nI (i * 5 + f)).toInt (0 : Int32).toInt ((300 : Int32) - 1).toInt = true := by
    rw [nI_Z (by omega), inZ_t]
    have e1 : (0 : Int32).toInt = 0 := rfl
    have e2 : ((300 : Int32) - 1).toInt = 299 := by decide
    rw [e1, e2]; omega
  unfold f_X11_tryField
  simp only [m5, f_isIn_eq, hin, Option.bind_some, if_true, ixb_n (show i * 5 + f < 300 by omega) (by decide), nI_clamp (show i * 5 + f < 2 ^ 31 by omega), hr i f hi hf]
theorem X_tryTold {T : TB} {h : HS} (hT0 : Xtr T h) (t w : Int32) : f_X11_tryTold t w h = some (a_tryTold T t w) := by
  have e4 : (4 : Int32).toInt = 4 := rfl
  have hn := hT0.1
  have h60 := hT0.2.1
  unfold f_X11_tryTold a_tryTold
  simp only [f_isIn_eq, hn, cnt_pred2 (show T.1 ≤ 1000 by omega), z_0, e4, Option.bind_some]
  rcases ix_case t T.1 with ⟨i, hi, rfl, hz⟩ | hz
  · have hc : (nI i).toNatClampNeg = i := nI_clamp (by omega)
    simp only [hz, if_true, hc, Bool.true_and]
    rcases ix_case w 5 with ⟨f, hf, rfl, hz2⟩ | hz2
    · have hcf : (nI f).toNatClampNeg = f := nI_clamp (by omega)
      have : inZ (nI f).toInt 0 4 = true := hz2
      simp only [this, if_true, tryField_eq hT0 hi hf, Option.bind_some, hcf]
    · have : inZ w.toInt 0 4 = false := hz2
      simp [this]
  · simp [hz]
