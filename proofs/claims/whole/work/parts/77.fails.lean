/-! ===== walk: what fails after a try ===== -/
def fA (x w all : Int32) : Int32 := ((x.toInt64 * w.toInt64) / all.toInt64).toInt32
theorem all64 {all : Int32} (ha : 1 ≤ all.toInt) : ¬ all.toInt64 = (0 : Int64) := by
  rw [i64_eq0, Int32.toInt_toInt64, show (0 : Int64).toInt = 0 from rfl]; omega
theorem M_fails {h : HS} {x all b : Int32} {s : Nat} (hs : s < 8) (ha : 1 ≤ all.toInt) (hb : hI h 82 s = b) : f_X12_fails x (nI s) all h = some (fA x (all - b) all) := by
  have hx := ixb_n (i := s) (n := 8) hs (by decide)
  have hc : (nI s).toNatClampNeg = s := nI_clamp (by omega)
  unfold f_X12_fails fA
  rw [if_pos hx, if_pos (all64 ha), hc, hb]
theorem X_fails {h : HS} {x all w : Int32} {s b : Nat} (hs : s < 8) (ha : 1 ≤ all.toInt) (hb : hT h b = 5) (h4 : hI h b 4 = all) (hw : hI h 54 s = w) : f_X11_failAfter b x (nI s) h = some (fA x w all) := by
  have hx := ixb_n (i := s) (n := 8) hs (by decide)
  have hc : (nI s).toNatClampNeg = s := nI_clamp (by omega)
  have hz : inZ (nI s).toInt (0 : Int32).toInt ((8 : Int32) - 1).toInt = true := by
    rw [inZ_t, nI_Z (by omega), z_0, show ((8 : Int32) - 1).toInt = 7 from by decide]; omega
  unfold f_X11_failAfter f_X11_quotient fA
  rw [f_isIn_eq, hz, Option.bind_some, if_pos rfl, if_pos hx, if_pos hb, hc, hw, h4, if_neg (all64 ha), if_pos (all64 ha), Option.bind_some]
