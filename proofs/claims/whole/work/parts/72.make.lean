/-! ===== make: the prices of one size ===== -/
def mkP (all cost left w z : Int32) : Nat → Nat → Int32 × Int32 → Int32 × Int32
  | 0, _, q => q
  | d + 1, k, q => mkP all cost left w z d (k + 1) (if nI k * all - w * cost < left * all then q else if q.1 = (-1 : Int32) then ((100 : Int32) * z + nI k, nI k * all - w * cost) else if nI k * all - w * cost < q.2 then ((100 : Int32) * z + nI k, nI k * all - w * cost) else q)
theorem L_mmk {k0 h0 od all cost left w z : Int32} {h : HS} : ∀ (d k f : Nat) (q : Int32 × Int32), k + d = 100 → d < f → l_X12_make_120 k0 h0 cost od left all z w h f q.1 q.2 (nI k) = some (mkP all cost left w z d k q) := by
  intro d
  induction d with
  | zero =>
    intro k f q hk hf
    obtain ⟨f, rfl⟩ : ∃ f', f = f' + 1 := ⟨f - 1, by omega⟩
    have : k = 100 := by omega
    subst this
    rw [l_X12_make_120, if_pos (by decide), mkP]
  | succ d ih =>
    intro k f q hk hf
    obtain ⟨f, rfl⟩ : ∃ f', f = f' + 1 := ⟨f - 1, by omega⟩
    have h100 : ¬ (100 : Int32) ≤ nI k := by rw [show (100 : Int32) = nI 100 from rfl]; exact nI_ge (by omega) (by decide)
    rw [l_X12_make_120, if_neg h100, nI_1, mkP]
    by_cases c1 : nI k * all - w * cost < left * all
    · rw [if_pos c1, if_pos c1]
      exact ih (k + 1) f q (by omega) (by omega)
    · rw [if_neg c1, if_neg c1]
      by_cases c2 : q.1 = (-1 : Int32)
      · rw [if_pos c2, if_pos c2]
        exact ih (k + 1) f ((100 : Int32) * z + nI k, nI k * all - w * cost) (by omega) (by omega)
      · rw [if_neg c2, if_neg c2]
        by_cases c3 : nI k * all - w * cost < q.2
        · rw [if_pos c3, if_pos c3]
          exact ih (k + 1) f ((100 : Int32) * z + nI k, nI k * all - w * cost) (by omega) (by omega)
        · rw [if_neg c3, if_neg c3]
          exact ih (k + 1) f q (by omega) (by omega)
theorem L_xmk {k0 od all cost left w z : Int32} {b : Nat} {h : HS} (hb : hT h b = 5) (h4 : hI h b 4 = all) : ∀ (d k f : Nat) (q : Int32 × Int32), k + d = 100 → d < f → l_X11_make_127 k0 cost od left b z w (1 : Int32) h f q.1 q.2 (nI k) = some (mkP all cost left w z d k q) := by
  intro d
  induction d with
  | zero =>
    intro k f q hk hf
    obtain ⟨f, rfl⟩ : ∃ f', f = f' + 1 := ⟨f - 1, by omega⟩
    have : k = 100 := by omega
    subst this
    rw [l_X11_make_127, if_pos (by decide), mkP]
  | succ d ih =>
    intro k f q hk hf
    obtain ⟨f, rfl⟩ : ∃ f', f = f' + 1 := ⟨f - 1, by omega⟩
    have h100 : ¬ (99 : Int32) < nI k := by rw [i32_lt0, nI_Z (by omega), show (99 : Int32).toInt = 99 from rfl]; omega
    rw [l_X11_make_127, if_neg h100, if_neg (by decide), if_pos hb, h4, nI_1, mkP]
    by_cases c1 : nI k * all - w * cost < left * all
    · rw [if_pos c1, if_pos c1]
      exact ih (k + 1) f q (by omega) (by omega)
    · rw [if_neg c1, if_neg c1]
      by_cases c2 : q.1 = (-1 : Int32)
      · rw [if_pos c2, if_pos c2]
        exact ih (k + 1) f ((100 : Int32) * z + nI k, nI k * all - w * cost) (by omega) (by omega)
      · rw [if_neg c2, if_neg c2]
        by_cases c3 : nI k * all - w * cost < q.2
        · rw [if_pos c3, if_neg (fun y => by rw [i32_lt0] at c3; rw [i32_le0] at y; omega)]
          exact ih (k + 1) f ((100 : Int32) * z + nI k, nI k * all - w * cost) (by omega) (by omega)
        · rw [if_neg c3, if_pos (by rw [i32_lt0] at c3; rw [i32_le0]; omega)]
          exact ih (k + 1) f q (by omega) (by omega)
/-- when there are too few odds the class looks at no price -/
theorem X_mk0 {k0 od cost left w z x y : Int32} {b : Nat} {h : HS} : l_X11_make_127 k0 cost od left b z w (0 : Int32) h 1000 x y (1 : Int32) = some (x, y) := by
  rw [show (1000 : Nat) = 999 + 1 from rfl, l_X11_make_127, if_neg (by decide), if_pos rfl]
/-- enough odds, both ways of asking -/
theorem enough {w all od : Int32} (hw : 0 ≤ w.toInt ∧ w.toInt ≤ 121) (ha : 1 ≤ all.toInt ∧ all.toInt ≤ 121) : f_X11_quotient ((1000 : Int64) * w.toInt64) all.toInt64 = some ((1000 : Int32) * w / all).toInt64 := by
  have e1 : ((1000 : Int32) * w).toInt = 1000 * w.toInt := by
    rw [i32_mulZ (by rw [show (1000 : Int32).toInt = 1000 from rfl]; omega) (by rw [show (1000 : Int32).toInt = 1000 from rfl]; omega)]
    rfl
  have e2 : ((1000 : Int64) * w.toInt64).toInt = 1000 * w.toInt := by
    rw [Int64.toInt_mul, Int32.toInt_toInt64, show (1000 : Int64).toInt = 1000 from rfl]
    exact Int.bmod_eq_of_le (by omega) (by omega)
  have hne : ¬ all.toInt64 = (0 : Int64) := by
    rw [i64_eq0, Int32.toInt_toInt64, show (0 : Int64).toInt = 0 from rfl]; omega
  unfold f_X11_quotient
  rw [if_neg hne, if_pos hne]
  congr 1
  rw [i64_eq0, Int64.toInt_div, Int32.toInt_toInt64, Int32.toInt_toInt64, i32_divZ (by omega), e1, e2, Int.tdiv_eq_ediv_of_nonneg (by omega)]
  have h1 : 0 ≤ 1000 * w.toInt / all.toInt := Int.ediv_nonneg (by omega) (by omega)
  have h2 : 1000 * w.toInt / all.toInt ≤ 1000 * w.toInt := Int.ediv_le_self _ (by omega)
  generalize 1000 * w.toInt / all.toInt = r at h1 h2
  exact Int.bmod_eq_of_le (by omega) (by omega)
