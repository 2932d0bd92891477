/-! ===== worth ===== -/
theorem mulB {a b : Int} (h1 : 0 ≤ a) (h2 : a ≤ 1000) (h3 : 0 ≤ b) (h4 : b ≤ 1000) : 0 ≤ a * b ∧ a * b ≤ 1000000 := by
  have h5 := Int.mul_nonneg h1 h3
  have h6 : a * b ≤ 1000 * 1000 := Int.mul_le_mul h2 h4 h3 (by omega)
  omega
theorem prodL {a b c d : Int32} (h1 : 0 ≤ a.toInt) (h2 : a.toInt ≤ 1000) (h3 : 0 ≤ b.toInt) (h4 : b.toInt ≤ 1000) (h5 : 0 ≤ c.toInt) (h6 : c.toInt ≤ 1000) (h7 : 0 ≤ d.toInt) (h8 : d.toInt ≤ 1000) : (a * b - c * d).toInt = a.toInt * b.toInt - c.toInt * d.toInt ∧ (a.toInt64 * b.toInt64 - c.toInt64 * d.toInt64).toInt = a.toInt * b.toInt - c.toInt * d.toInt := by
  have q1 := mulB h1 h2 h3 h4
  have q2 := mulB h5 h6 h7 h8
  have e1 : (a * b).toInt = a.toInt * b.toInt := i32_mulZ (by omega) (by omega)
  have e2 : (c * d).toInt = c.toInt * d.toInt := i32_mulZ (by omega) (by omega)
  refine ⟨by rw [i32_subZ (by omega) (by omega), e1, e2], ?_⟩
  have f1 : (a.toInt64 * b.toInt64).toInt = a.toInt * b.toInt := by
    rw [Int64.toInt_mul, Int32.toInt_toInt64, Int32.toInt_toInt64]; exact Int.bmod_eq_of_le (by omega) (by omega)
  have f2 : (c.toInt64 * d.toInt64).toInt = c.toInt * d.toInt := by
    rw [Int64.toInt_mul, Int32.toInt_toInt64, Int32.toInt_toInt64]; exact Int.bmod_eq_of_le (by omega) (by omega)
  rw [Int64.toInt_sub, f1, f2]
  exact Int.bmod_eq_of_le (by omega) (by omega)
theorem prodE {a b c d : Int32} (h1 : 0 ≤ a.toInt) (h2 : a.toInt ≤ 1000) (h3 : 0 ≤ b.toInt) (h4 : b.toInt ≤ 1000) (h5 : 0 ≤ c.toInt) (h6 : c.toInt ≤ 1000) (h7 : 0 ≤ d.toInt) (h8 : d.toInt ≤ 1000) : (a * b - c * d).toInt64 = a.toInt64 * b.toInt64 - c.toInt64 * d.toInt64 := by
  obtain ⟨q1, q2⟩ := prodL h1 h2 h3 h4 h5 h6 h7 h8
  rw [i64_eq0, Int32.toInt_toInt64, q1, q2]
def wI (w : Int32) : Nat := if w = 0 then 4 else 5
def v_worth (S H : TB) (i j : Nat) (m w p : Int32) : Int64 := a_low ((a_wn S H (S.2 6 i) i j m).toInt64 * (S.2 (wI w) i).toInt64 - (S.2 3 i).toInt64 * (allI H j).toInt64) (allI H j).toInt64 p
def a_worth (S H : TB) (s j m w p : Int32) : Int64 := if inZ s.toInt 0 (S.1 - 1) = true then (if inZ j.toInt 0 (H.1 - 1) = true then (if plB m = true then (if inZ w.toInt 0 1 = true then (if inZ p.toInt 0 1 = true then v_worth S H s.toNatClampNeg j.toNatClampNeg m w p else noL) else noL) else noL) else noL) else noL
theorem worth_b {S H : TB} (hW : Wst S) (hWH : Wha H) {i j : Nat} (hi : i < S.1) (hj : j < H.1) (m w : Int32) : (0 ≤ (S.2 (wI w) i).toInt ∧ (S.2 (wI w) i).toInt ≤ 999) ∧ (-9223372036854775808 < ((a_wn S H (S.2 6 i) i j m).toInt64 * (S.2 (wI w) i).toInt64 - (S.2 3 i).toInt64 * (allI H j).toInt64).toInt) ∧ ((a_wn S H (S.2 6 i) i j m) * (S.2 (wI w) i) - (S.2 3 i) * (allI H j)).toInt64 = (a_wn S H (S.2 6 i) i j m).toInt64 * (S.2 (wI w) i).toInt64 - (S.2 3 i).toInt64 * (allI H j).toInt64 := by
  obtain ⟨w0, w1, w2, w3, w4, w5, w6⟩ := hW i hi
  have wz := wn_Z (S := S) hWH (e := S.2 6 i) (i := i) hj m
  have az := allI_Z hWH hj
  have hb : 0 ≤ (S.2 (wI w) i).toInt ∧ (S.2 (wI w) i).toInt ≤ 999 := by
    unfold wI; split
    · exact w4
    · exact w5
  have q1 := mulB (a := (a_wn S H (S.2 6 i) i j m).toInt) (b := (S.2 (wI w) i).toInt) (by omega) (by omega) (by omega) (by omega)
  have q2 := mulB (a := (S.2 3 i).toInt) (b := (allI H j).toInt) (by omega) (by omega) (by omega) (by omega)
  refine ⟨hb, ?_, prodE (by omega) (by omega) (by omega) (by omega) (by omega) (by omega) (by omega) (by omega)⟩
  rw [(prodL (a := a_wn S H (S.2 6 i) i j m) (b := S.2 (wI w) i) (c := S.2 3 i) (d := allI H j) (by omega) (by omega) (by omega) (by omega) (by omega) (by omega) (by omega) (by omega)).2]
  omega
theorem M_worth {S H : TB} {h : HS} (hS : Mst S h) (hW : Wst S) (hH : Mha H h) (hWH : Wha H) (s j m w p : Int32) : f_X12_worth s j m w p h = some (a_worth S H s j m w p) := by
  unfold f_X12_worth a_worth
  rw [M_isStall hS, Option.bind_some, M_isHand hH, Option.bind_some, f_pl12_eq, Option.bind_some, M_isPart, Option.bind_some, f_in_eq, Int32.toInt_toInt64, show (0 : Int64).toInt = 0 from rfl, show (1 : Int64).toInt = 1 from rfl, Option.bind_some]
  rcases ix_case s S.1 with ⟨i, hi, rfl, hz⟩ | hz
  · rw [hz, if_pos rfl, if_pos rfl]
    rcases ix_case j H.1 with ⟨j, hj, rfl, hz2⟩ | hz2
    · rw [hz2, if_pos rfl, if_pos rfl]
      cases hm : plB m
      · rfl
      cases hw0 : inZ w.toInt 0 1
      · rfl
      cases hp : inZ p.toInt 0 1
      · rfl
      have h8 := hS.2.1
      have h6 := hH.2.1
      have hx := ixb_n (i := i) (n := 8) (by omega) (by decide)
      have hci : (nI i).toNatClampNeg = i := nI_clamp (by omega)
      have hcj : (nI j).toNatClampNeg = j := nI_clamp (by omega)
      have az := allI_Z hWH hj
      obtain ⟨b1, b2, b3⟩ := worth_b hW hWH hi hj m w
      have hlo := M_lowest (b := (allI H j).toInt64) b2 (by rw [Int32.toInt_toInt64]; omega) p
      obtain ⟨r0, r1, r2, r3, r4, r5, r6⟩ := hS.2.2 i hi
      have hx2 : (if w = 0 then (some (hI h 68 i)) else (some (hI h 69 i))) = some (S.2 (wI w) i) := by
        unfold wI
        rw [r4, r5]
        split <;> rfl
      rw [hci, hcj]
      simp only [if_true, M_winsAt hS hW hH hWH hi hj hm, M_allOf hH hj, Option.bind_some, hx2, if_pos hx, r3, hlo]
      rfl
    · rw [hz2]; rfl
  · rw [hz]; rfl
theorem X_worth {S H : TB} {tg : Nat → Nat} {h : HS} (hS : Xst S tg h) (hW : Wst S) (hH : Xha H tg h) (hWH : Wha H) (hw : Wx tg h) (hz : Gz h) (s j m w p : Int32) : ∃ h', f_X11_worth s j m w p h = some (a_worth S H s j m w p, h') ∧ Gz h' ∧ Wx tg h' ∧ Fx (fun b => b = 48 ∨ b = 49) h h' := by
  have h8 : S.1 ≤ 8 := by obtain ⟨el, hl, -⟩ := hS; exact hl.2.2.1
  have h6 := hH.1
  rcases X_stallAt hS s with ⟨i, a, hi, rfl, hzs, hf, oa, -⟩ | ⟨hzs, hf⟩
  · rcases X_handAt hH j with ⟨j, b, hj, rfl, hzh, hf2, ob⟩ | ⟨hzh, hf2⟩
    · have hci : (nI i).toNatClampNeg = i := nI_clamp (by omega)
      have hcj : (nI j).toNatClampNeg = j := nI_clamp (by omega)
      cases hm : plB m
      · refine ⟨h, ?_, hz, hw, Fx.rf⟩
        unfold f_X11_worth a_worth
        rw [hf, hf2, f_pl11_eq, hm, hzs, hzh]
        rfl
      cases hw0 : inZ w.toInt 0 1
      · refine ⟨h, ?_, hz, hw, Fx.rf⟩
        unfold f_X11_worth a_worth
        rw [hf, hf2, f_pl11_eq, hm, isBit_inZ, hw0, hzs, hzh]
        rfl
      cases hp : inZ p.toInt 0 1
      · refine ⟨h, ?_, hz, hw, Fx.rf⟩
        unfold f_X11_worth a_worth
        rw [hf, hf2, f_pl11_eq, hm, isBit_inZ, isBit_inZ, hw0, hp, hzs, hzh]
        rfl
      obtain ⟨-, -, -, -, -, -, w6⟩ := hW i hi
      obtain ⟨h', s1, s2, s3, s4, s5, s6, s7⟩ := X_fw hW hWH hi hj h8 h6 oa ob hw hz (e := S.2 6 i) w6
      have az := allI_Z hWH hj
      obtain ⟨b1, b2, b3⟩ := worth_b hW hWH hi hj m w
      have hlo := X_lowest (b := (allI H j).toInt64) b2 (by rw [Int32.toInt_toInt64]; omega) p
      rw [← b3] at hlo
      have h4 : hI h' b 4 = allI H j := s4.2.2.2.2.2.2
      have h7 : hI h a 7 = S.2 6 i := oa.2.2.2.2.2.2.2.2.2
      have hst : isSt (hT h a) = true := by rw [oa.2.1]; exact kcl_st _
      obtain ⟨o0, o1, o2, o3, o4', o5, o6, o7, o8, o9⟩ := s3
      have hx2 : (if w = 0 then (some (hI h' a 5)) else (some (hI h' a 6))) = some (S.2 (wI w) i) := by
        unfold wI
        rw [o7, o8]
        split <;> rfl
      refine ⟨h', ?_, s5, s6, s7⟩
      unfold f_X11_worth a_worth v_worth
      rw [hf, hf2, f_pl11_eq, hm, isBit_inZ, isBit_inZ, hw0, hp, hzs, hzh, hci, hcj]
      simp only [Option.bind_some, om_some, if_true, if_pos hst, h7, s1, s2 m hm, hx2, if_pos s4.2.1, h4, o6, hlo]
      rw [b3]
    · refine ⟨h, ?_, hz, hw, Fx.rf⟩
      unfold f_X11_worth a_worth
      rw [hf, hf2, hzs, hzh]
      rfl
  · refine ⟨h, ?_, hz, hw, Fx.rf⟩
    rcases X_handAt hH j with ⟨j, b, hj, rfl, hzh, hf2, ob⟩ | ⟨hzh, hf2⟩
    · unfold f_X11_worth a_worth
      rw [hf, hf2, hzs]
      rfl
    · unfold f_X11_worth a_worth
      rw [hf, hf2, hzs]
      rfl
