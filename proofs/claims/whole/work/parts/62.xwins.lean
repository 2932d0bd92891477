/-! ===== what the grid tells ===== -/
theorem line_eq {o : Int32} (h : -100000 ≤ o.toInt ∧ o.toInt ≤ 100000) : f_X2_line o = some (nI (clp o.toInt)) := by
  have e9 : (9 : Int32).toInt = 9 := rfl
  have e19 : (19 : Int32).toInt = 19 := rfl
  have a9 : (o + (9 : Int32)).toInt = o.toInt + 9 := by rw [i32_addZ (by omega) (by omega), e9]
  obtain ⟨u1, u2, u3, u4⟩ := clp_s o.toInt
  unfold f_X2_line
  congr 1
  by_cases c1 : o + (9 : Int32) < (19 : Int32)
  · rw [if_pos c1]
    rw [i32_lt0, a9, e19] at c1
    by_cases c2 : (0 : Int32) < o + (9 : Int32)
    · rw [if_pos c2]
      rw [i32_lt0, a9, z_0] at c2
      rw [i32_eqZ, a9, nI_Z (by omega)]
      omega
    · rw [if_neg c2]
      rw [i32_lt0, a9, z_0] at c2
      rw [i32_eqZ, z_0, nI_Z (by omega)]
      omega
  · rw [if_neg c1, if_pos (by decide)]
    rw [i32_lt0, a9, e19] at c1
    rw [i32_eqZ, e19, nI_Z (by omega)]
    omega
theorem sum_eq {F : Int → Int → Bool} {h : HS} (hd : Gd F 20 0 h) {i j : Nat} (hi : i < 20) (hj : j < 20) : f_X2_sum (nI i) (nI j) h = some (nI (gsum F i j)) := by
  have m1 : nI i * (20 : Int32) + nI j = nI (i * 20 + j) := by rw [show (20 : Int32) = nI 20 from rfl, pk_mul, nI_add]
  have hx := ixb_n (i := i * 20 + j) (n := 400) (by omega) (by decide)
  have hc : (nI (i * 20 + j)).toNatClampNeg = i * 20 + j := nI_clamp (by omega)
  have hz : inZ (nI (i * 20 + j)).toInt (0 : Int32).toInt ((400 : Int32) - 1).toInt = true := by
    rw [inZ_t, nI_Z (by omega), z_0, show ((400 : Int32) - 1).toInt = 399 from by decide]; omega
  unfold f_X2_sum
  rw [m1, f_isIn_eq, hz, Option.bind_some, if_pos rfl, if_pos hx, hc, hd i j hi hj (Or.inl hi)]
theorem i32_alc (a b c : Int32) : a + (b + c) = b + (a + c) := by rw [← Int32.add_assoc, Int32.add_comm a b, Int32.add_assoc]
theorem X_winning {S H : TB} {tg : Nat → Nat} {h : HS} {i j b : Nat} {e : Int32} (hW : Wst S) (hWH : Wha H) (hi : i < S.1) (hj : j < H.1) (hG : Xgr (wonZ (S.2 0 i).toInt (S.2 2 i).toInt e.toInt) (S.2 1 i) h) (ho : Oha H tg h j b) {m : Int32} (hm : plB m = true) : f_X2_winning b m h = some (nI (cntW (S.2 0 i).toInt (S.2 2 i).toInt e.toInt (m.toInt / 100 + (H.2 0 j).toInt - (S.2 1 i).toInt / 100) (m.toInt % 100 + (H.2 1 j).toInt - (S.2 1 i).toInt % 100) (H.2 2 j).toInt.toNat)) := by
  obtain ⟨o0, o1, o2, o3, o4, o5, o6⟩ := ho
  obtain ⟨hz, hd, g1, g2⟩ := hG
  obtain ⟨w0, w1, w2⟩ := hWH j hj
  obtain ⟨-, hp, hzz, -⟩ := hW i hi
  obtain ⟨p1, p2, p3, p4⟩ := plB_t hp
  obtain ⟨m1, m2, m3, m4⟩ := plB_t hm
  have ev : (H.2 2 j).toInt = ((H.2 2 j).toInt.toNat : Int) := by omega
  generalize (H.2 2 j).toInt.toNat = v at ev ⊢
  have z1 := i32_d100 p1
  have z2 := i32_r100 p1
  have z3 := i32_d100 m1
  have z4 := i32_r100 m1
  generalize hA : m.toInt / 100 + (H.2 0 j).toInt - (S.2 1 i).toInt / 100 = A
  generalize hB : m.toInt % 100 + (H.2 1 j).toInt - (S.2 1 i).toInt % 100 = B
  have a1 : (m / 100 + H.2 0 j).toInt = m.toInt / 100 + (H.2 0 j).toInt := by rw [i32_addZ (by omega) (by omega), z3]
  have a2 : (m / 100 + H.2 0 j - S.2 1 i / 100).toInt = A := by rw [i32_subZ (by omega) (by omega), a1, z1, hA]
  have b1 : (m - m / 100 * 100 + H.2 1 j).toInt = m.toInt % 100 + (H.2 1 j).toInt := by rw [i32_addZ (by omega) (by omega), z4]
  have b2 : (m - m / 100 * 100 + H.2 1 j - (S.2 1 i - S.2 1 i / 100 * 100)).toInt = B := by rw [i32_subZ (by omega) (by omega), b1, z2, hB]
  have a3 : (m / 100 + H.2 0 j - S.2 1 i / 100 - H.2 2 j).toInt = A - v := by rw [i32_subZ (by omega) (by omega), a2, ev]
  have b3 : (m - m / 100 * 100 + H.2 1 j - (S.2 1 i - S.2 1 i / 100 * 100) - H.2 2 j).toInt = B - v := by rw [i32_subZ (by omega) (by omega), b2, ev]
  have a4 : (m / 100 + H.2 0 j - S.2 1 i / 100 + H.2 2 j).toInt = A + v := by rw [i32_addZ (by omega) (by omega), a2, ev]
  have b4 : (m - m / 100 * 100 + H.2 1 j - (S.2 1 i - S.2 1 i / 100 * 100) + H.2 2 j).toInt = B + v := by rw [i32_addZ (by omega) (by omega), b2, ev]
  have a5 : (m / 100 + H.2 0 j - S.2 1 i / 100 + H.2 2 j + (1 : Int32)).toInt = A + v + 1 := by rw [i32_addZ (by rw [one_Z]; omega) (by rw [one_Z]; omega), a4, one_Z]
  have b5 : (m - m / 100 * 100 + H.2 1 j - (S.2 1 i - S.2 1 i / 100 * 100) + H.2 2 j + (1 : Int32)).toInt = B + v + 1 := by rw [i32_addZ (by rw [one_Z]; omega) (by rw [one_Z]; omega), b4, one_Z]
  have c1 := (clp_s (A - v)).1
  have c2 := (clp_s (B - v)).1
  have c3 := (clp_s (A + v + 1)).1
  have c4 := (clp_s (B + v + 1)).1
  have hs := cntW_sums (k := (S.2 0 i).toInt) (z := (S.2 2 i).toInt) (e := e.toInt) (a := A) (b := B) hzz v
  unfold f_X2_winning
  rw [if_pos o1, g1, g2, o2, o3, o4, line_eq (by rw [a3]; omega), line_eq (by rw [b3]; omega), line_eq (by rw [a5]; omega), line_eq (by rw [b5]; omega), a3, b3, a5, b5]
  simp only [Option.bind_some]
  rw [sum_eq hd (by omega) (by omega), sum_eq hd (by omega) (by omega), sum_eq hd (by omega) (by omega), sum_eq hd (by omega) (by omega)]
  simp only [Option.bind_some]
  congr 1
  generalize gsum (wonZ (S.2 0 i).toInt (S.2 2 i).toInt e.toInt) (clp (A + v + 1)) (clp (B + v + 1)) = g1 at hs ⊢
  generalize gsum (wonZ (S.2 0 i).toInt (S.2 2 i).toInt e.toInt) (clp (A - v)) (clp (B - v)) = g2 at hs ⊢
  generalize gsum (wonZ (S.2 0 i).toInt (S.2 2 i).toInt e.toInt) (clp (A - v)) (clp (B + v + 1)) = g3 at hs ⊢
  generalize gsum (wonZ (S.2 0 i).toInt (S.2 2 i).toInt e.toInt) (clp (A + v + 1)) (clp (B - v)) = g4 at hs ⊢
  generalize cntW (S.2 0 i).toInt (S.2 2 i).toInt e.toInt A B v = g5 at hs ⊢
  have h1 : nI g1 + nI g2 = nI g3 + nI g4 + nI g5 := by rw [nI_add, nI_add, nI_add, hs]
  have h2 : nI g1 - nI g3 - nI g4 + nI g2 = (nI g1 + nI g2) - nI g3 - nI g4 := by
    simp only [Int32.sub_eq_add_neg, Int32.add_assoc, Int32.add_comm, i32_alc]
  rw [h2, h1]
  simp only [Int32.sub_eq_add_neg]
  rw [show nI g3 + nI g4 + nI g5 + -nI g3 + -nI g4 = nI g5 + (nI g3 + -nI g3) + (nI g4 + -nI g4) by
    simp only [Int32.add_assoc, Int32.add_comm, i32_alc]]
  rw [Int32.add_right_neg, Int32.add_right_neg, Int32.add_zero, Int32.add_zero]
