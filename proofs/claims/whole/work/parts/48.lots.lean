/-! ===== lots ===== -/
/-- a throw's widths, by the scatter -/
theorem sc6 {v : Int32} (h : 0 ≤ v.toInt ∧ v.toInt ≤ 5) : ∃ c, c ≤ 5 ∧ v = nI c := by
  rcases ix_case v 6 with ⟨i, hi, rfl, -⟩ | hz
  · exact ⟨i, by omega, rfl⟩
  · have := inZ_f.mp hz
    omega
theorem wM {c : Nat} (h : c ≤ 5) : (2 : Int64) * (nI c).toInt64 + 1 = lN (2 * c + 1) := by
  rcases (show c = 0 ∨ c = 1 ∨ c = 2 ∨ c = 3 ∨ c = 4 ∨ c = 5 by omega) with q | q | q | q | q | q <;> subst q <;> decide
theorem wX {c : Nat} (h : c ≤ 5) : ((2 : Int32) * nI c + 1).toInt64 = lN (2 * c + 1) := by
  rcases (show c = 0 ∨ c = 1 ∨ c = 2 ∨ c = 3 ∨ c = 4 ∨ c = 5 by omega) with q | q | q | q | q | q <;> subst q <;> decide
theorem lN_i32 {x : Nat} (h : x < 2 ^ 31) : (lN x).toInt32 = nI x := by
  rw [i32_eqZ, nI_Z h, Int64.toInt_toInt32, pk_lT (by omega)]
  exact Int.bmod_eq_of_le (by omega) (by omega)
theorem lN_s {x c : Nat} (h : x < 2 ^ 30) (hc : c ≤ 5) : (lN x - (nI c).toInt64).toInt32.toInt = (x : Int) - c := by
  have e1 : (lN x - (nI c).toInt64).toInt = (x : Int) - c := by
    rw [Int64.toInt_sub, pk_lT (by omega), Int32.toInt_toInt64, nI_Z (by omega)]
    exact Int.bmod_eq_of_le (by omega) (by omega)
  rw [Int64.toInt_toInt32, e1]
  exact Int.bmod_eq_of_le (by omega) (by omega)
theorem nI_s {x c : Nat} (h : x < 2 ^ 30) (hc : c ≤ 5) : (nI x - nI c).toInt = (x : Int) - c := by
  rw [i32_subZ (by rw [nI_Z (by omega), nI_Z (by omega)]; omega) (by rw [nI_Z (by omega), nI_Z (by omega)]; omega), nI_Z (by omega), nI_Z (by omega)]
def scN (H : TB) (j : Nat) : Nat := (H.2 2 j).toNatClampNeg
/-- a throw by a lot: whether it wins -/
def wonL (S H : TB) (i j : Nat) (aim : Int32) (lt : Nat) : Bool := wonZ (S.2 0 i).toInt (S.2 2 i).toInt (S.2 6 i).toInt (aim.toInt / 100 + (H.2 0 j).toInt + (((lt % (2 * scN H j + 1) : Nat) : Int) - scN H j) - (S.2 1 i).toInt / 100) (aim.toInt % 100 + (H.2 1 j).toInt + (((lt / (2 * scN H j + 1) % (2 * scN H j + 1) : Nat) : Int) - scN H j) - (S.2 1 i).toInt % 100)
theorem M_wonBy {S H : TB} {h : HS} (hS : Mst S h) (hWS : Wst S) (hH : Mha H h) (hWH : Wha H) {i j lt : Nat} (hi : i < S.1) (hj : j < H.1) {aim : Int32} (ha : plB aim = true) (hl : lt < 2 ^ 62) : f_X12_wonBy (nI i) (nI j) aim (lN lt) h = some (if wonL S H i j aim lt = true then 1 else 0) := by
  have h8 := hS.2.1
  have h6 := hH.2.1
  have hx8 := ixb_n (i := i) (n := 8) (by omega) (by decide)
  have hx6 := ixb_n (i := j) (n := 6) (by omega) (by decide)
  have hci : (nI i).toNatClampNeg = i := nI_clamp (by omega)
  have hcj : (nI j).toNatClampNeg = j := nI_clamp (by omega)
  obtain ⟨r0, r1, r2, r3, r4, r5, r6⟩ := hS.2.2 i hi
  obtain ⟨s0, s1, s2⟩ := hH.2.2 j hj
  obtain ⟨w0, w1, w2, w3, w4, w5, w6⟩ := hWS i hi
  obtain ⟨v0, v1, v2⟩ := hWH j hj
  obtain ⟨c, hc5, hc⟩ := sc6 v2
  have hsc : scN H j = c := by unfold scN; rw [hc]; exact nI_clamp (by omega)
  have hne : ¬ lN (2 * c + 1) = 0 := fun q => by have := (pk_lEQ (b := 0) (show 2 * c + 1 < 2 ^ 63 by omega) (by decide)).mp q; omega
  have hw0 : 0 < 2 * c + 1 := by omega
  have m1 : lN lt - lN lt / lN (2 * c + 1) * lN (2 * c + 1) = lN (lt % (2 * c + 1)) := pk_lRem (by omega) hw0 (by omega)
  have d1 : lN lt / lN (2 * c + 1) = lN (lt / (2 * c + 1)) := pk_lDiv (by omega) hw0 (by omega)
  have hdl := Nat.div_le_self lt (2 * c + 1)
  have m2 : lN (lt / (2 * c + 1)) - lN (lt / (2 * c + 1)) / lN (2 * c + 1) * lN (2 * c + 1) = lN (lt / (2 * c + 1) % (2 * c + 1)) := pk_lRem (by omega) hw0 (by omega)
  have g1 := Nat.mod_lt lt hw0
  have g2 := Nat.mod_lt (lt / (2 * c + 1)) hw0
  obtain ⟨p1, p2, p3, p4⟩ := plB_t ha
  obtain ⟨u1, u2, u3, u4⟩ := plB_t w1
  have ea : (aim / 100 + H.2 0 j + (nI (lt % (2 * c + 1)) - nI c) - S.2 1 i / 100).toInt = aim.toInt / 100 + (H.2 0 j).toInt + (((lt % (2 * c + 1) : Nat) : Int) - c) - (S.2 1 i).toInt / 100 := by
    have b1 := i32_d100 p1
    have b2 := i32_d100 u1
    have b3 := nI_s (x := lt % (2 * c + 1)) (c := c) (by omega) hc5
    have b4 : (aim / 100 + H.2 0 j).toInt = aim.toInt / 100 + (H.2 0 j).toInt := by rw [i32_addZ (by omega) (by omega), b1]
    have b5 : (aim / 100 + H.2 0 j + (nI (lt % (2 * c + 1)) - nI c)).toInt = aim.toInt / 100 + (H.2 0 j).toInt + (((lt % (2 * c + 1) : Nat) : Int) - c) := by rw [i32_addZ (by omega) (by omega), b4, b3]
    rw [i32_subZ (by omega) (by omega), b5, b2]
  have eb : (aim - aim / 100 * 100 + H.2 1 j + (nI (lt / (2 * c + 1) % (2 * c + 1)) - nI c) - (S.2 1 i - S.2 1 i / 100 * 100)).toInt = aim.toInt % 100 + (H.2 1 j).toInt + (((lt / (2 * c + 1) % (2 * c + 1) : Nat) : Int) - c) - (S.2 1 i).toInt % 100 := by
    have b1 := i32_r100 p1
    have b2 := i32_r100 u1
    have b3 := nI_s (x := lt / (2 * c + 1) % (2 * c + 1)) (c := c) (by omega) hc5
    have b4 : (aim - aim / 100 * 100 + H.2 1 j).toInt = aim.toInt % 100 + (H.2 1 j).toInt := by rw [i32_addZ (by omega) (by omega), b1]
    have b5 : (aim - aim / 100 * 100 + H.2 1 j + (nI (lt / (2 * c + 1) % (2 * c + 1)) - nI c)).toInt = aim.toInt % 100 + (H.2 1 j).toInt + (((lt / (2 * c + 1) % (2 * c + 1) : Nat) : Int) - c) := by rw [i32_addZ (by omega) (by omega), b4, b3]
    rw [i32_subZ (by omega) (by omega), b5, b2]
  unfold f_X12_wonBy wonL
  simp only [hx8, hx6, hci, hcj, s0, s1, s2, r0, r1, r2, r6, hc, wM hc5, hne, not_false_eq_true, if_true, d1, m2, lN_i32 (show lt / (2 * c + 1) % (2 * c + 1) < 2 ^ 31 by omega), hsc]
  rw [← d1, m1, lN_i32 (show lt % (2 * c + 1) < 2 ^ 31 by omega), M_won w0 w2 w6 (by rw [ea]; omega) (by rw [eb]; omega), ea, eb, Option.bind_some]
  split <;> rfl
theorem X_lands {S H : TB} {tg : Nat → Nat} {h : HS} {i j p q lt : Nat} (o : Ost S tg h i p) (o2 : Oha H tg h j q) (hWS : Wst S) (hWH : Wha H) (hi : i < S.1) (hj : j < H.1) {aim : Int32} (ha : plB aim = true) (hl : lt < 2 ^ 62) : f_X11_lands p q aim (lN lt) h = some (wonL S H i j aim lt) := by
  obtain ⟨w0, w1, w2, w3, w4, w5, w6⟩ := hWS i hi
  obtain ⟨v0, v1, v2⟩ := hWH j hj
  obtain ⟨c, hc5, hc⟩ := sc6 v2
  have hsc : scN H j = c := by unfold scN; rw [hc]; exact nI_clamp (by omega)
  obtain ⟨z0, z1, z2, z3, z4, z5, z6⟩ := o2
  have hne : ¬ lN (2 * c + 1) = 0 := fun q => by have := (pk_lEQ (b := 0) (show 2 * c + 1 < 2 ^ 63 by omega) (by decide)).mp q; omega
  have hw0 : 0 < 2 * c + 1 := by omega
  have m1 : lN lt - lN lt / lN (2 * c + 1) * lN (2 * c + 1) = lN (lt % (2 * c + 1)) := pk_lRem (by omega) hw0 (by omega)
  have d1 : lN lt / lN (2 * c + 1) = lN (lt / (2 * c + 1)) := pk_lDiv (by omega) hw0 (by omega)
  have hdl := Nat.div_le_self lt (2 * c + 1)
  have m2 : lN (lt / (2 * c + 1)) - lN (lt / (2 * c + 1)) / lN (2 * c + 1) * lN (2 * c + 1) = lN (lt / (2 * c + 1) % (2 * c + 1)) := pk_lRem (by omega) hw0 (by omega)
  have g1 := Nat.mod_lt lt hw0
  have g2 := Nat.mod_lt (lt / (2 * c + 1)) hw0
  obtain ⟨p1, p2, p3, p4⟩ := plB_t ha
  obtain ⟨u1, u2, u3, u4⟩ := plB_t w1
  have ow := o
  obtain ⟨o0, o1, o2', o3, o4, o5, o6, o7, o8, o9⟩ := o
  have ea : (aim / 100 + H.2 0 j + (lN (lt % (2 * c + 1)) - (nI c).toInt64).toInt32 - S.2 1 i / 100).toInt = aim.toInt / 100 + (H.2 0 j).toInt + (((lt % (2 * c + 1) : Nat) : Int) - c) - (S.2 1 i).toInt / 100 := by
    have b1 := i32_d100 p1
    have b2 := i32_d100 u1
    have b3 := lN_s (x := lt % (2 * c + 1)) (c := c) (by omega) hc5
    have b4 : (aim / 100 + H.2 0 j).toInt = aim.toInt / 100 + (H.2 0 j).toInt := by rw [i32_addZ (by omega) (by omega), b1]
    have b5 : (aim / 100 + H.2 0 j + (lN (lt % (2 * c + 1)) - (nI c).toInt64).toInt32).toInt = aim.toInt / 100 + (H.2 0 j).toInt + (((lt % (2 * c + 1) : Nat) : Int) - c) := by rw [i32_addZ (by omega) (by omega), b4, b3]
    rw [i32_subZ (by omega) (by omega), b5, b2]
  have eb : (aim - aim / 100 * 100 + H.2 1 j + (lN (lt / (2 * c + 1) % (2 * c + 1)) - (nI c).toInt64).toInt32 - (S.2 1 i - S.2 1 i / 100 * 100)).toInt = aim.toInt % 100 + (H.2 1 j).toInt + (((lt / (2 * c + 1) % (2 * c + 1) : Nat) : Int) - c) - (S.2 1 i).toInt % 100 := by
    have b1 := i32_r100 p1
    have b2 := i32_r100 u1
    have b3 := lN_s (x := lt / (2 * c + 1) % (2 * c + 1)) (c := c) (by omega) hc5
    have b4 : (aim - aim / 100 * 100 + H.2 1 j).toInt = aim.toInt % 100 + (H.2 1 j).toInt := by rw [i32_addZ (by omega) (by omega), b1]
    have b5 : (aim - aim / 100 * 100 + H.2 1 j + (lN (lt / (2 * c + 1) % (2 * c + 1)) - (nI c).toInt64).toInt32).toInt = aim.toInt % 100 + (H.2 1 j).toInt + (((lt / (2 * c + 1) % (2 * c + 1) : Nat) : Int) - c) := by rw [i32_addZ (by omega) (by omega), b4, b3]
    rw [i32_subZ (by omega) (by omega), b5, b2]
  have z3' : hI h q 3 = 2 * nI c + 1 := by rw [z5, hc]
  unfold f_X11_lands f_X11_remainder f_X11_quotient wonL
  simp only [z1, z3', wX hc5, hne, not_false_eq_true, if_true, if_false, m1, d1, m2, Option.bind_some, o1, kcl_st, z2, z3, z4, o3, o4, o9, hc, hsc]
  have m1' : lN lt - lN (lt / (2 * c + 1)) * lN (2 * c + 1) = lN (lt % (2 * c + 1)) := by rw [← d1]; exact m1
  rw [m1', ow.won hWS hi w6 (by rw [ea]; omega) (by rw [eb]; omega), ea, eb, Option.bind_some]
/-- the lots of a seed -/
def lot1 (s : Nat) : Nat := (s + 1) * 48271 % 2147483647
def lotN (l : Nat) : Nat := l * 48271 % 2147483647
theorem lotN_lt (l : Nat) : lotN l < 2147483647 := Nat.mod_lt _ (by decide)
theorem lot1_lt (l : Nat) : lot1 l < 2147483647 := Nat.mod_lt _ (by decide)
theorem lotOf_eq {l : Nat} (h : l < 2 ^ 32) : f_X12_lotOf (lN l) = some (lN (lotN l)) := by
  unfold f_X12_lotOf lotN
  rw [show (48271 : Int64) = lN 48271 from rfl, show (2147483647 : Int64) = lN 2147483647 from rfl, lN_mul, pk_lRem (by omega) (by decide) (by decide)]
theorem nextLot_eq {l : Nat} (h : l < 2 ^ 32) : f_X11_nextLot (lN l) = some (lN (lotN l)) := lotOf_eq h
theorem seed_l {s : Nat} (h : s < 2 ^ 31) : (nI s).toInt64 + 1 = lN (s + 1) := by
  rw [nI_l h]; exact lN_add s 1
theorem firstLot_eq {s : Nat} (h : s < 2 ^ 31) : f_X11_firstLot (nI s) = some (lN (lot1 s)) := by
  have := lotOf_eq (l := s + 1) (by omega)
  rw [← seed_l h] at this
  exact this
theorem seed_c (s : Int32) : (∃ n, n ≤ 99999 ∧ s = nI n ∧ inZ s.toInt 0 99999 = true) ∨ inZ s.toInt 0 99999 = false := by
  rcases ix_case s 100000 with ⟨n, hn, e, hz⟩ | hz
  · exact Or.inl ⟨n, by omega, e, hz⟩
  · exact Or.inr hz
def okTried (S H : TB) (s j a d : Int32) : Bool := inZ s.toInt 0 (S.1 - 1) && inZ j.toInt 0 (H.1 - 1) && plB a && inZ d.toInt 0 99999
def wonT (S H : TB) (s j a d : Int32) : Int32 := if wonL S H s.toNatClampNeg j.toNatClampNeg a (lot1 d.toNatClampNeg) = true then 1 else 0
def a_tried (S H T : TB) (s j a d : Int32) : Int32 := if okTried S H s j a d = true then (if T.1 = 60 then -4 else wonT S H s j a d) else -2
def u_tried (S H T : TB) (s j a d : Int32) : TB := if okTried S H s j a d = true then (if T.1 = 60 then T else tpush T (rowT s j a (wonT S H s j a d) (S.2 6 s.toNatClampNeg))) else T
theorem okD_f {S H : TB} {s j a w : Int32} (ok : ¬ okTried S H s j a w = true) : inZ s.toInt 0 (S.1 - 1) = false ∨ (inZ s.toInt 0 (S.1 - 1) = true ∧ inZ j.toInt 0 (H.1 - 1) = false) ∨ (inZ s.toInt 0 (S.1 - 1) = true ∧ inZ j.toInt 0 (H.1 - 1) = true ∧ plB a = false) ∨ (inZ s.toInt 0 (S.1 - 1) = true ∧ inZ j.toInt 0 (H.1 - 1) = true ∧ plB a = true ∧ inZ w.toInt 0 99999 = false) := by
  simp only [okTried] at ok
  revert ok
  cases inZ s.toInt 0 (S.1 - 1) <;> cases inZ j.toInt 0 (H.1 - 1) <;> cases plB a <;> cases inZ w.toInt 0 99999 <;> simp
theorem M_tried {S H T : TB} {h : HS} (hS : Mst S h) (hWS : Wst S) (hH : Mha H h) (hWH : Wha H) (hT0 : Mtr T h) (s j a d : Int32) : ∃ h', f_X12_tried s j a d h = some (a_tried S H T s j a d, h') ∧ Mtr (u_tried S H T s j a d) h' ∧ Fr 3 h h' := by
  have e0 : (0 : Int64).toInt = 0 := rfl
  have e1 : (99999 : Int64).toInt = 99999 := rfl
  by_cases ok : okTried S H s j a d = true
  · have ok2 := ok
    simp only [okTried, Bool.and_eq_true] at ok2
    obtain ⟨⟨⟨o1, o2⟩, o3⟩, o4⟩ := ok2
    by_cases h9 : T.1 = 60
    · refine ⟨h, ?_, by rw [u_tried, if_pos ok, if_pos h9]; exact hT0, Fr.rf⟩
      unfold f_X12_tried
      simp only [M_isStall hS, M_isHand hH, f_in_eq, f_pl12_eq, Int32.toInt_toInt64, e0, e1, o1, o2, o3, o4, Option.bind_some, if_true, a_tried, ok, h9, hT0.1]
      rfl
    · have hlt : T.1 < 60 := by have := hT0.2.1; omega
      rcases ix_case s S.1 with ⟨i, hi, rfl, hz⟩ | hz
      · rcases ix_case j H.1 with ⟨q, hq, rfl, hz2⟩ | hz2
        · rcases seed_c d with ⟨n, hn, rfl, hz3⟩ | hz3
          · have hci : (nI i).toNatClampNeg = i := nI_clamp (by have := hS.2.1; omega)
            have hcq : (nI q).toNatClampNeg = q := nI_clamp (by have := hH.2.1; omega)
            have hcn : (nI n).toNatClampNeg = n := nI_clamp (by omega)
            have hwt : wonT S H (nI i) (nI q) a (nI n) = if wonL S H i q a (lot1 n) = true then 1 else 0 := by unfold wonT; rw [hci, hcq, hcn]
            have hb := M_wonBy hS hWS hH hWH hi hq o3 (lt := lot1 n) (by have := lot1_lt n; omega)
            rw [← hwt] at hb
            obtain ⟨h', k1, k2, k3⟩ := M_keeps hS hT0 hi hlt (nI q) a (wonT S H (nI i) (nI q) a (nI n))
            have h8' : ¬ nI T.1 = 60 := by rw [show (60 : Int32) = nI 60 from rfl, nI_eq (by omega) (by decide)]; omega
            have k4 := (k2.2.2 T.1 (Nat.lt_succ_self _)).2.2.2.1
            have k5 : hI h' 77 T.1 = wonT S H (nI i) (nI q) a (nI n) := by rw [k4]; simp [tpush, rowT]
            refine ⟨h', ?_, by rw [u_tried, if_pos ok, if_neg h9, hci]; exact k2, k3⟩
            unfold f_X12_tried
            have lo := lotOf_eq (l := n + 1) (by omega)
            have e2 : lotN (n + 1) = lot1 n := rfl
            simp only [M_isStall hS, M_isHand hH, f_in_eq, f_pl12_eq, Int32.toInt_toInt64, e0, e1, o1, o2, o3, o4, Option.bind_some, if_true, a_tried, ok, hT0.1, if_neg h8', seed_l (show n < 2 ^ 31 by omega), lo, e2, hb, k1, ixb_n hlt (by decide), nI_clamp (show T.1 < 2 ^ 31 by omega), k5, if_neg h9]
          · rw [hz3] at o4; cases o4
        · rw [hz2] at o2; cases o2
      · rw [hz] at o1; cases o1
  · refine ⟨h, ?_, by rw [u_tried, if_neg ok]; exact hT0, Fr.rf⟩
    unfold f_X12_tried a_tried
    rw [if_neg ok]
    simp only [M_isStall hS, M_isHand hH, f_in_eq, f_pl12_eq, Int32.toInt_toInt64, e0, e1, Option.bind_some]
    rcases okD_f ok with q | ⟨q1, q2⟩ | ⟨q1, q2, q3⟩ | ⟨q1, q2, q3, q4⟩
    · simp [q]
    · simp [q1, q2]
    · simp [q1, q2, q3]
    · simp [q1, q2, q3, q4]
theorem isSeed_eq (d : Int32) : f_X11_isSeed d = some (inZ d.toInt 0 99999) := by
  unfold f_X11_isSeed
  have e1 : (99999 : Int32).toInt = 99999 := by decide
  simp only [f_isIn_eq, e1, z_0, Option.bind_some]
theorem asBit_eq (b : Bool) : f_X11_asBit b = some (if b = true then 1 else 0) := by
  unfold f_X11_asBit
  split <;> rfl
theorem X_tried {S H T : TB} {tg : Nat → Nat} {h : HS} (hX : Xst S tg h) (hWS : Wst S) (hH : Xha H tg h) (hWH : Wha H) (hw : Wx tg h) (hT0 : Xtr T h) (s j a d : Int32) : ∃ h', f_X11_tried s j a d h = some (a_tried S H T s j a d, h') ∧ Xtr (u_tried S H T s j a d) h' ∧ Wx tg h' ∧ Fx (fun b => b = 32 ∨ b = 36) h h' ∧ ∀ k, k ≠ 5 → hI h' 32 k = hI h 32 k := by
  have h8 : S.1 ≤ 8 := by obtain ⟨el, hl, -⟩ := hX; exact hl.2.2.1
  have h6 := hH.1
  rcases X_stallAt hX s with ⟨i, p, hi, rfl, hz, hf, o, -⟩ | ⟨hz, hf⟩
  · rcases X_handAt hH j with ⟨q, p2, hq, rfl, hz2, hf2, o2⟩ | ⟨hz2, hf2⟩
    · by_cases ok : okTried S H (nI i) (nI q) a d = true
      · have ok2 := ok
        simp only [okTried, Bool.and_eq_true] at ok2
        obtain ⟨⟨-, oa⟩, od⟩ := ok2
        rcases seed_c d with ⟨n, hn, rfl, hz3⟩ | hz3
        · have hci : (nI i).toNatClampNeg = i := nI_clamp (by omega)
          have hcq : (nI q).toNatClampNeg = q := nI_clamp (by omega)
          have hcn : (nI n).toNatClampNeg = n := nI_clamp (by omega)
          by_cases h9 : T.1 = 60
          · refine ⟨h, ?_, by rw [u_tried, if_pos ok, if_pos h9]; exact hT0, hw, Fx.rf, fun _ _ => rfl⟩
            unfold f_X11_tried
            have : ¬ nI 60 < 60 := by decide
            simp only [hf, hf2, Option.bind_some, om_some, f_pl11_eq, oa, isSeed_eq, hz3, if_true, hT0.1, h9, if_neg this, a_tried, ok]
          · have hlt : T.1 < 60 := by have := hT0.2.1; omega
            have hl60 : nI T.1 < 60 := by rw [show (60 : Int32) = nI 60 from rfl]; exact nI_lt hlt (by decide)
            have hwt : wonT S H (nI i) (nI q) a (nI n) = if wonL S H i q a (lot1 n) = true then 1 else 0 := by unfold wonT; rw [hci, hcq, hcn]
            obtain ⟨h', k1, k2, k3, k4, k5, k6⟩ := X_keep hX hw hT0 hi hlt (nI q) a (wonT S H (nI i) (nI q) a (nI n))
            refine ⟨h', ?_, by rw [u_tried, if_pos ok, if_neg h9, hci]; exact k3, k4, k5, k6⟩
            unfold f_X11_tried
            simp only [hf, hf2, Option.bind_some, om_some, f_pl11_eq, oa, isSeed_eq, hz3, if_true, hT0.1, if_pos hl60, firstLot_eq (show n < 2 ^ 31 by omega), X_lands o o2 hWS hWH hi hq oa (show lot1 n < 2 ^ 62 by have := lot1_lt n; omega), asBit_eq, ← hwt, k1, a_tried, ok, if_neg h9]
        · rw [hz3] at od; cases od
      · refine ⟨h, ?_, by rw [u_tried, if_neg ok]; exact hT0, hw, Fx.rf, fun _ _ => rfl⟩
        unfold f_X11_tried a_tried
        rw [if_neg ok]
        simp only [hf, hf2, Option.bind_some, om_some, f_pl11_eq, isSeed_eq]
        simp only [okTried, hz, hz2, Bool.true_and] at ok
        revert ok
        cases plB a <;> cases inZ d.toInt 0 99999 <;> simp
    · have ok : ¬ okTried S H (nI i) j a d = true := by simp [okTried, hz2]
      refine ⟨h, ?_, by rw [u_tried, if_neg ok]; exact hT0, hw, Fx.rf, fun _ _ => rfl⟩
      unfold f_X11_tried a_tried
      rw [if_neg ok]
      simp only [hf, hf2, Option.bind_some, om_some, om_none]
  · have ok : ¬ okTried S H s j a d = true := by simp [okTried, hz]
    refine ⟨h, ?_, by rw [u_tried, if_neg ok]; exact hT0, hw, Fx.rf, fun _ _ => rfl⟩
    unfold f_X11_tried a_tried
    rw [if_neg ok]
    simp only [hf, Option.bind_some, om_none]
    rcases X_handAt hH j with ⟨q, p2, hq, rfl, hz2, hf2, o2⟩ | ⟨hz2, hf2⟩
    · simp only [hf2, Option.bind_some, om_some]
    · simp only [hf2, Option.bind_some, om_none]
