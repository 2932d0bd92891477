/-! ===== odds, worth ===== -/
abbrev noL : Int64 := -4611686018427387904
def allI (H : TB) (j : Nat) : Int32 := (2 * H.2 2 j + 1) * (2 * H.2 2 j + 1)
def a_wn (S H : TB) (e : Int32) (i j : Nat) (m : Int32) : Int32 := nI (cntW (S.2 0 i).toInt (S.2 2 i).toInt e.toInt (m.toInt / 100 + (H.2 0 j).toInt - (S.2 1 i).toInt / 100) (m.toInt % 100 + (H.2 1 j).toInt - (S.2 1 i).toInt % 100) (H.2 2 j).toInt.toNat)
theorem v6 {v : Int32} (h : 0 ≤ v.toInt ∧ v.toInt ≤ 5) : v = 0 ∨ v = 1 ∨ v = 2 ∨ v = 3 ∨ v = 4 ∨ v = 5 := k6 h
theorem allI_Z {H : TB} (hW : Wha H) {j : Nat} (hj : j < H.1) : 1 ≤ (allI H j).toInt ∧ (allI H j).toInt ≤ 121 := by
  obtain ⟨-, -, w⟩ := hW j hj
  unfold allI
  rcases v6 w with e | e | e | e | e | e <;> rw [e] <;> decide
theorem wn_Z {S H : TB} (hW : Wha H) {e : Int32} {i j : Nat} (hj : j < H.1) (m : Int32) : 0 ≤ (a_wn S H e i j m).toInt ∧ (a_wn S H e i j m).toInt ≤ 121 := by
  obtain ⟨-, -, w1, w2⟩ := hW j hj
  unfold a_wn
  have hle := cntW_le (S.2 0 i).toInt (S.2 2 i).toInt e.toInt (m.toInt / 100 + (H.2 0 j).toInt - (S.2 1 i).toInt / 100) (m.toInt % 100 + (H.2 1 j).toInt - (S.2 1 i).toInt % 100) (H.2 2 j).toInt.toNat
  have hv : (H.2 2 j).toInt.toNat ≤ 5 := by omega
  have h2 : (2 * (H.2 2 j).toInt.toNat + 1) * (2 * (H.2 2 j).toInt.toNat + 1) ≤ 11 * 11 := Nat.mul_le_mul (by omega) (by omega)
  rw [nI_Z (by omega)]
  omega
theorem M_allOf {H : TB} {h : HS} (hH : Mha H h) {j : Nat} (hj : j < H.1) : f_X12_allOf (nI j) h = some (allI H j) := by
  have h6 := hH.2.1
  have hx := ixb_n (i := j) (n := 6) (by omega) (by decide)
  have hc : (nI j).toNatClampNeg = j := nI_clamp (by omega)
  unfold f_X12_allOf
  rw [if_pos hx, if_pos hx, hc, (hH.2.2 j hj).2.2]
  rfl
theorem M_winsAt {S H : TB} {h : HS} (hS : Mst S h) (hW : Wst S) (hH : Mha H h) (hWH : Wha H) {i j : Nat} (hi : i < S.1) (hj : j < H.1) {m : Int32} (hm : plB m = true) : f_X12_winsAt (nI i) (nI j) m h = some (a_wn S H (S.2 6 i) i j m) := by
  have h8 := hS.2.1
  have hx := ixb_n (i := i) (n := 8) (by omega) (by decide)
  have hc : (nI i).toNatClampNeg = i := nI_clamp (by omega)
  obtain ⟨r0, r1, r2, r3, r4, r5, r6⟩ := hS.2.2 i hi
  obtain ⟨w0, w1, w2, w3, w4, w5, w6⟩ := hW i hi
  unfold f_X12_winsAt
  rw [if_pos hx, if_pos hx, if_pos hx, if_pos hx, hc, r0, r1, r2, r6, M_winsOf hH hWH hj w0 w1 w2 w6 hm]
  rfl
def a_odds (S H : TB) (s j m p : Int32) : Int64 := if inZ s.toInt 0 (S.1 - 1) = true then (if inZ j.toInt 0 (H.1 - 1) = true then (if plB m = true then (if inZ p.toInt 0 1 = true then a_low (a_wn S H (S.2 6 s.toNatClampNeg) s.toNatClampNeg j.toNatClampNeg m).toInt64 (allI H j.toNatClampNeg).toInt64 p else noL) else noL) else noL) else noL
theorem M_odds {S H : TB} {h : HS} (hS : Mst S h) (hW : Wst S) (hH : Mha H h) (hWH : Wha H) (s j m p : Int32) : f_X12_odds s j m p h = some (a_odds S H s j m p) := by
  unfold f_X12_odds a_odds
  rw [M_isStall hS, Option.bind_some, M_isHand hH, Option.bind_some, f_pl12_eq, Option.bind_some, M_isPart, Option.bind_some]
  rcases ix_case s S.1 with ⟨i, hi, rfl, hz⟩ | hz
  · rw [hz, if_pos rfl, if_pos rfl]
    rcases ix_case j H.1 with ⟨j, hj, rfl, hz2⟩ | hz2
    · rw [hz2, if_pos rfl, if_pos rfl]
      cases hm : plB m
      · rfl
      cases hp : inZ p.toInt 0 1
      · rfl
      have h8 := hS.2.1
      have h6 := hH.2.1
      have hci : (nI i).toNatClampNeg = i := nI_clamp (by omega)
      have hcj : (nI j).toNatClampNeg = j := nI_clamp (by omega)
      have wz := wn_Z (S := S) hWH (e := S.2 6 i) (i := i) hj m
      have az := allI_Z hWH hj
      rw [if_pos rfl, if_pos rfl, if_pos rfl, if_pos rfl, M_winsAt hS hW hH hWH hi hj hm, M_allOf hH hj, Option.bind_some, Option.bind_some, M_lowest (by rw [Int32.toInt_toInt64]; omega) (by rw [Int32.toInt_toInt64]; omega), hci, hcj]
      rfl
    · rw [hz2]; rfl
  · rw [hz]; rfl
/-- a stall and a hand: the grid is filled, the throws are told -/
theorem X_fw {S H : TB} {tg : Nat → Nat} {h : HS} {i j a b : Nat} (hW : Wst S) (hWH : Wha H) (hi : i < S.1) (hj : j < H.1) (h8 : S.1 ≤ 8) (h6 : H.1 ≤ 6) (oa : Ost S tg h i a) (ob : Oha H tg h j b) (hw : Wx tg h) (hz : Gz h) {e : Int32} (he : 0 ≤ e.toInt ∧ e.toInt ≤ 1) : ∃ h', f_X2_fill a e h = some h' ∧ (∀ m, plB m = true → f_X2_winning b m h' = some (a_wn S H e i j m)) ∧ Ost S tg h' i a ∧ Oha H tg h' j b ∧ Gz h' ∧ Wx tg h' ∧ Fx (fun b => b = 48 ∨ b = 49) h h' := by
  obtain ⟨h', s1, s2, s3, s4, s5⟩ := X_fill hW hi h8 oa hw hz he
  have hb := hw.1 b (by have := ob.1; omega)
  have ob' := ob.fx hw s5 (fun _ _ => rfl) (by omega)
  exact ⟨h', s1, fun m hm => X_winning hW hWH hi hj s2 ob' hm, s3, ob', s2.1, s4, s5⟩
theorem X_odds {S H : TB} {tg : Nat → Nat} {h : HS} (hS : Xst S tg h) (hW : Wst S) (hH : Xha H tg h) (hWH : Wha H) (hw : Wx tg h) (hz : Gz h) (s j m p : Int32) : ∃ h', f_X11_odds s j m p h = some (a_odds S H s j m p, h') ∧ Gz h' ∧ Wx tg h' ∧ Fx (fun b => b = 48 ∨ b = 49) h h' := by
  have h8 : S.1 ≤ 8 := by obtain ⟨el, hl, -⟩ := hS; exact hl.2.2.1
  have h6 := hH.1
  rcases X_stallAt hS s with ⟨i, a, hi, rfl, hzs, hf, oa, -⟩ | ⟨hzs, hf⟩
  · rcases X_handAt hH j with ⟨j, b, hj, rfl, hzh, hf2, ob⟩ | ⟨hzh, hf2⟩
    · have hci : (nI i).toNatClampNeg = i := nI_clamp (by omega)
      have hcj : (nI j).toNatClampNeg = j := nI_clamp (by omega)
      cases hm : plB m
      · refine ⟨h, ?_, hz, hw, Fx.rf⟩
        unfold f_X11_odds a_odds
        rw [hf, hf2, f_pl11_eq, hm, hzs, hzh]
        rfl
      cases hp : inZ p.toInt 0 1
      · refine ⟨h, ?_, hz, hw, Fx.rf⟩
        unfold f_X11_odds a_odds
        rw [hf, hf2, f_pl11_eq, hm, isBit_inZ, hp, hzs, hzh]
        rfl
      obtain ⟨-, -, -, -, -, -, w6⟩ := hW i hi
      obtain ⟨h', s1, s2, s3, s4, s5, s6, s7⟩ := X_fw hW hWH hi hj h8 h6 oa ob hw hz (e := S.2 6 i) w6
      have wz := wn_Z (S := S) hWH (e := S.2 6 i) (i := i) hj m
      have az := allI_Z hWH hj
      have hlo := X_lowest (a := (a_wn S H (S.2 6 i) i j m).toInt64) (b := (allI H j).toInt64) (by rw [Int32.toInt_toInt64]; omega) (by rw [Int32.toInt_toInt64]; omega) p
      have h4 : hI h' b 4 = allI H j := s4.2.2.2.2.2.2
      have h7 : hI h a 7 = S.2 6 i := oa.2.2.2.2.2.2.2.2.2
      have hst : isSt (hT h a) = true := by rw [oa.2.1]; exact kcl_st _
      refine ⟨h', ?_, s5, s6, s7⟩
      unfold f_X11_odds a_odds
      rw [hf, hf2, f_pl11_eq, hm, isBit_inZ, hp, hzs, hzh, hci, hcj]
      simp only [Option.bind_some, om_some, if_true, if_pos hst, h7, s1, s2 m hm, if_pos s4.2.1, h4, hlo]
    · refine ⟨h, ?_, hz, hw, Fx.rf⟩
      unfold f_X11_odds a_odds
      rw [hf, hf2, hzs, hzh]
      rfl
  · refine ⟨h, ?_, hz, hw, Fx.rf⟩
    rcases X_handAt hH j with ⟨j, b, hj, rfl, hzh, hf2, ob⟩ | ⟨hzh, hf2⟩
    · unfold f_X11_odds a_odds
      rw [hf, hf2, hzs]
      rfl
    · unfold f_X11_odds a_odds
      rw [hf, hf2, hzs]
      rfl
