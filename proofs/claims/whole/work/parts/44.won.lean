/-! ===== where a throw wins ===== -/
def innZ (z a b : Int) : Bool := decide (-z ≤ a ∧ a ≤ z ∧ -z ≤ b ∧ b ≤ z)
def wonZ (k z e a b : Int) : Bool :=
  if k = 1 then innZ (z / 2) a b
  else if k = 2 then innZ z a b && decide (0 ≤ a)
  else if k = 3 then innZ z a b && decide (0 ≤ a) && (if e = 1 then decide (a ≠ 0 ∧ b ≠ 0) else decide (a ≠ 0 ∨ b ≠ 0))
  else if k = 4 then innZ z a b && decide ((a + 2 * b + e) % 3 = 0)
  else if k = 5 then (if e = 1 then innZ (z / 2) a b && decide (a = 0) else innZ z a b)
  else innZ z a b
theorem k6 {k : Int32} (h : 0 ≤ k.toInt ∧ k.toInt ≤ 5) : k = 0 ∨ k = 1 ∨ k = 2 ∨ k = 3 ∨ k = 4 ∨ k = 5 := by
  simp only [i32_eqZ]
  have e0 : (0 : Int32).toInt = 0 := rfl
  have e1 : (1 : Int32).toInt = 1 := rfl
  have e2 : (2 : Int32).toInt = 2 := rfl
  have e3 : (3 : Int32).toInt = 3 := rfl
  have e4 : (4 : Int32).toInt = 4 := rfl
  have e5 : (5 : Int32).toInt = 5 := rfl
  omega
theorem plain_Z {v : Int32} (hb : -2147483648 < v.toInt) : ∃ w, f_X12_plain v = some w ∧ w.toInt = if 0 ≤ v.toInt then v.toInt else -v.toInt := by
  unfold f_X12_plain
  by_cases c : 0 ≤ v
  · exact ⟨v, if_pos c, by rw [if_pos (by simpa using i32_le0.mp c)]⟩
  · have c2 : ¬ 0 ≤ v.toInt := fun q => c (i32_le0.mpr (by simpa using q))
    exact ⟨-v, if_neg c, by rw [if_neg c2, i32_negZ hb]⟩
theorem M_inn {z a b : Int32} (ha : -2147483648 < a.toInt) (hb : -2147483648 < b.toInt) : f_X12_isIn z a b = some (innZ z.toInt a.toInt b.toInt) := by
  obtain ⟨wa, a1, a2⟩ := plain_Z ha
  obtain ⟨wb, b1, b2⟩ := plain_Z hb
  unfold f_X12_isIn
  simp only [a1, b1, Option.bind_some, i32_lt0]
  by_cases c : z.toInt < wa.toInt
  · rw [if_pos c]
    congr 1
    symm
    simp only [innZ, decide_eq_false_iff_not]
    split at a2 <;> omega
  · rw [if_neg c]
    by_cases c2 : z.toInt < wb.toInt
    · rw [if_pos c2]
      congr 1
      symm
      simp only [innZ, decide_eq_false_iff_not]
      split at b2 <;> omega
    · rw [if_neg c2]
      congr 1
      symm
      simp only [innZ, decide_eq_true_eq]
      split at a2 <;> split at b2 <;> omega
theorem X_inn {z a b : Int32} (hz : -2147483648 < z.toInt) : f_X8_isWithin a b z = some (innZ z.toInt a.toInt b.toInt) := by
  unfold f_X8_isWithin
  simp only [i32_lt0, i32_negZ hz]
  by_cases c1 : a.toInt < -z.toInt
  · rw [if_pos c1]; congr 1; symm; simp only [innZ, decide_eq_false_iff_not]; omega
  rw [if_neg c1]
  by_cases c2 : z.toInt < a.toInt
  · rw [if_pos c2]; congr 1; symm; simp only [innZ, decide_eq_false_iff_not]; omega
  rw [if_neg c2]
  by_cases c3 : b.toInt < -z.toInt
  · rw [if_pos c3]; congr 1; symm; simp only [innZ, decide_eq_false_iff_not]; omega
  rw [if_neg c3]
  by_cases c4 : z.toInt < b.toInt
  · rw [if_pos c4]; congr 1; symm; simp only [innZ, decide_eq_false_iff_not]; omega
  rw [if_neg c4]; congr 1; symm; simp only [innZ, decide_eq_true_eq]; omega
theorem half_Z {z : Int32} (h0 : 0 ≤ z.toInt) : (z / 2).toInt = z.toInt / 2 := by
  rw [i32_divZ (by decide), Int.tdiv_eq_ediv_of_nonneg h0]; rfl
theorem tmod0 {X q : Int} (h0 : 0 < q) : X.tmod q = 0 ↔ X % q = 0 := by
  rw [← Int.dvd_iff_tmod_eq_zero, ← Int.dvd_iff_emod_eq_zero]
theorem rem3 {a b e : Int32} (a0 : -1000 ≤ a.toInt) (a1 : a.toInt ≤ 1000) (b0 : -1000 ≤ b.toInt) (b1 : b.toInt ≤ 1000) (e0 : 0 ≤ e.toInt) (e1 : e.toInt ≤ 1) : ((a + (2 : Int32) * b + e) - (a + (2 : Int32) * b + e) / (3 : Int32) * (3 : Int32) = 0) ↔ (a.toInt + 2 * b.toInt + e.toInt) % 3 = 0 := by
  have g1 : ((2 : Int32) * b).toInt = 2 * b.toInt := by rw [i32_mulZ (by simp; omega) (by simp; omega)]; rfl
  have g2 : (a + 2 * b).toInt = a.toInt + 2 * b.toInt := by rw [i32_addZ (by omega) (by omega), g1]
  have g3 : (a + 2 * b + e).toInt = a.toInt + 2 * b.toInt + e.toInt := by rw [i32_addZ (by omega) (by omega), g2]
  rw [i32_eqZ, i32_remZ (q := 3) rfl (by decide), g3, z_0, tmod0 (by decide)]
theorem M_won {k z e a b : Int32} (hk : 0 ≤ k.toInt ∧ k.toInt ≤ 5) (hz : 0 ≤ z.toInt ∧ z.toInt ≤ 9) (he : 0 ≤ e.toInt ∧ e.toInt ≤ 1) (ha : -1000 ≤ a.toInt ∧ a.toInt ≤ 1000) (hb : -1000 ≤ b.toInt ∧ b.toInt ≤ 1000) : f_X12_isWon k z e a b = some (wonZ k.toInt z.toInt e.toInt a.toInt b.toInt) := by
  have i1 : f_X12_isIn z a b = some (innZ z.toInt a.toInt b.toInt) := M_inn (by omega) (by omega)
  have i2 : f_X12_isIn (z / 2) a b = some (innZ (z.toInt / 2) a.toInt b.toInt) := by rw [M_inn (by omega) (by omega), half_Z hz.1]
  have r3 := rem3 ha.1 ha.2 hb.1 hb.2 he.1 he.2
  have ee : e = 1 ↔ e.toInt = 1 := by rw [i32_eqZ]; rfl
  have aa : a = 0 ↔ a.toInt = 0 := by rw [i32_eqZ]; rfl
  have bb : b = 0 ↔ b.toInt = 0 := by rw [i32_eqZ]; rfl
  have al : a < 0 ↔ a.toInt < 0 := i32_lt0
  unfold f_X12_isWon wonZ
  rcases k6 hk with q | q | q | q | q | q <;> subst q <;> simp (config := { decide := true }) only [i1, i2, r3, ee, aa, bb, al, Option.bind_some, if_true, if_false]
  · cases hI : innZ z.toInt a.toInt b.toInt <;> simp
    by_cases c : a.toInt < 0
    · simp [c]
    · simp [c]; omega
  · cases hI : innZ z.toInt a.toInt b.toInt <;> simp
    by_cases c : a.toInt < 0
    · simp [c]; omega
    · by_cases c1 : e.toInt = 1 <;> by_cases c2 : a.toInt = 0 <;> by_cases c3 : b.toInt = 0 <;> simp [c, c1, c2, c3] <;> omega
  · cases hI : innZ z.toInt a.toInt b.toInt <;> simp
    by_cases c : (a.toInt + 2 * b.toInt + e.toInt) % 3 = 0 <;> simp [c]
  · by_cases c1 : e.toInt = 1
    · simp only [c1, if_true]
      cases hI : innZ (z.toInt / 2) a.toInt b.toInt <;> simp
      by_cases c2 : a.toInt = 0 <;> simp [c2]
    · simp only [c1, if_false]
theorem X_won {p : Nat} {h : HS} {k z e a b : Int32} (hT0 : hT h p = kcl k) (h3 : hI h p 3 = z) (hk : 0 ≤ k.toInt ∧ k.toInt ≤ 5) (hz : 0 ≤ z.toInt ∧ z.toInt ≤ 9) (he : 0 ≤ e.toInt ∧ e.toInt ≤ 1) (ha : -1000 ≤ a.toInt ∧ a.toInt ≤ 1000) (hb : -1000 ≤ b.toInt ∧ b.toInt ≤ 1000) : f_V_pays p a b e h = some (wonZ k.toInt z.toInt e.toInt a.toInt b.toInt) := by
  have i1 : f_X8_isWithin a b z = some (innZ z.toInt a.toInt b.toInt) := X_inn (by omega)
  have i2 : f_X8_isWithin a b (z / 2) = some (innZ (z.toInt / 2) a.toInt b.toInt) := by
    have := half_Z hz.1
    rw [X_inn (by omega), this]
  have r3 := rem3 ha.1 ha.2 hb.1 hb.2 he.1 he.2
  have ee : e = 1 ↔ e.toInt = 1 := by rw [i32_eqZ]; rfl
  have aa : a = 0 ↔ a.toInt = 0 := by rw [i32_eqZ]; rfl
  have bb : b = 0 ↔ b.toInt = 0 := by rw [i32_eqZ]; rfl
  have al : a < 0 ↔ a.toInt < 0 := i32_lt0
  have st : isSt (hT h p) = true := by rw [hT0]; exact kcl_st k
  unfold f_V_pays f_X8_pays f_X4_pays f_X10_pays f_X7_pays f_X0_pays f_X1_pays wonZ
  unfold f_X10_pays f_X4_pays f_X8_pays
  rcases k6 hk with q | q | q | q | q | q <;> subst q
  · have hT1 : hT h p = 10 := hT0
    simp (config := { decide := true }) only [hT1, h3, i1, i2, Option.bind_some, if_true, if_false]
  · have hT1 : hT h p = 6 := hT0
    simp (config := { decide := true }) only [hT1, h3, i1, i2, Option.bind_some, if_true, if_false]
  · have hT1 : hT h p = 12 := hT0
    simp (config := { decide := true }) only [hT1, h3, i1, i2, al, Option.bind_some, if_true, if_false]
    cases hI : innZ z.toInt a.toInt b.toInt <;> simp
    by_cases c : a.toInt < 0
    · simp [c]
    · simp [c]; omega
  · have hT1 : hT h p = 9 := hT0
    simp (config := { decide := true }) only [hT1, h3, i1, i2, al, ee, aa, bb, Option.bind_some, if_true, if_false]
    cases hI : innZ z.toInt a.toInt b.toInt
    · by_cases c1 : e.toInt = 1 <;> by_cases c2 : a.toInt = 0 <;> by_cases c3 : b.toInt = 0 <;> simp [c1, c2, c3]
    · by_cases c1 : e.toInt = 1 <;> by_cases c2 : a.toInt = 0 <;> by_cases c3 : b.toInt = 0 <;> by_cases c : a.toInt < 0 <;> simp [c1, c2, c3, c] <;> omega
  · have hT1 : hT h p = 2 := hT0
    simp (config := { decide := true }) only [hT1, h3, i1, i2, r3, Option.bind_some, if_true, if_false]
    cases hI : innZ z.toInt a.toInt b.toInt <;> simp
    by_cases c : (a.toInt + 2 * b.toInt + e.toInt) % 3 = 0 <;> simp [c]
  · have hT1 : hT h p = 3 := hT0
    simp (config := { decide := true }) only [hT1, h3, i1, i2, ee, aa, Option.bind_some, if_true, if_false]
    by_cases c1 : e.toInt = 1
    · by_cases c2 : a.toInt = 0
      · simp only [c1, c2, if_true]
        cases hI : innZ (z.toInt / 2) 0 b.toInt <;> simp
      · simp [c1, c2]
    · simp only [c1, if_false]
