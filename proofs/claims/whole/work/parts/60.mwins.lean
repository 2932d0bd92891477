/-! ===== the reference counts ===== -/
theorem one_Z : (1 : Int32).toInt = 1 := rfl
theorem L_mw2 {k z e y7 y8 y11 : Int32} {h : HS} {v : Nat} (hk : 0 ≤ k.toInt ∧ k.toInt ≤ 5) (hz : 0 ≤ z.toInt ∧ z.toInt ≤ 9) (he : 0 ≤ e.toInt ∧ e.toInt ≤ 1) (h7 : -500 ≤ y7.toInt ∧ y7.toInt ≤ 500) (h8 : -500 ≤ y8.toInt ∧ y8.toInt ≤ 500) (h11 : -100 ≤ y11.toInt ∧ y11.toInt ≤ 100) (hv : v ≤ 5) : ∀ (t f c : Nat) (x : Int32), x.toInt + t = v + 1 → -(v : Int) ≤ x.toInt → t < f → l_X12_winsOf_69 k z e y7 y8 (nI v) y11 h f (nI c) x = some (nI (c + cntF (fun j => wonZ k.toInt z.toInt e.toInt (y7.toInt + y11.toInt) (y8.toInt + j)) t x.toInt)) := by
  intro t
  induction t with
  | zero =>
    intro f c x hx hl hf
    obtain ⟨f, rfl⟩ : ∃ f', f = f' + 1 := ⟨f - 1, by omega⟩
    rw [l_X12_winsOf_69, if_pos (by rw [i32_lt0, nI_Z (by omega)]; omega)]
    rfl
  | succ t ih =>
    intro f c x hx hl hf
    obtain ⟨f, rfl⟩ : ∃ f', f = f' + 1 := ⟨f - 1, by omega⟩
    have e1 : (x + (1 : Int32)).toInt = x.toInt + 1 := by rw [i32_addZ (by rw [one_Z]; omega) (by rw [one_Z]; omega), one_Z]
    have ea : (y7 + y11).toInt = y7.toInt + y11.toInt := i32_addZ (by omega) (by omega)
    have eb : (y8 + x).toInt = y8.toInt + x.toInt := i32_addZ (by omega) (by omega)
    have hw := M_won (k := k) (z := z) (e := e) (a := y7 + y11) (b := y8 + x) hk hz he (by omega) (by omega)
    rw [l_X12_winsOf_69, if_neg (by rw [i32_lt0, nI_Z (by omega)]; omega), hw, Option.bind_some, cntF, ea, eb]
    have i1 := ih f (c + 1) (x + 1) (by rw [e1]; omega) (by rw [e1]; omega) (by omega)
    have i0 := ih f c (x + 1) (by rw [e1]; omega) (by rw [e1]; omega) (by omega)
    rw [e1] at i1 i0
    cases wonZ k.toInt z.toInt e.toInt (y7.toInt + y11.toInt) (y8.toInt + x.toInt)
    · rw [if_neg (by decide), show nI c + (0 : Int32) = nI c from nI_add c 0, i0, if_neg (by decide), Nat.zero_add]
    · rw [if_pos rfl, nI_1, i1, if_pos rfl, Nat.add_assoc]
theorem L_mw1 {k z e y7 y8 : Int32} {h : HS} {v : Nat} (hk : 0 ≤ k.toInt ∧ k.toInt ≤ 5) (hz : 0 ≤ z.toInt ∧ z.toInt ≤ 9) (he : 0 ≤ e.toInt ∧ e.toInt ≤ 1) (h7 : -500 ≤ y7.toInt ∧ y7.toInt ≤ 500) (h8 : -500 ≤ y8.toInt ∧ y8.toInt ≤ 500) (hv : v ≤ 5) : ∀ (t f c : Nat) (x : Int32), x.toInt + t = v + 1 → -(v : Int) ≤ x.toInt → t < f → l_X12_winsOf_57 k z e y7 y8 (nI v) h f (nI c) x = some (nI (c + cnt2F (fun i j => wonZ k.toInt z.toInt e.toInt (y7.toInt + i) (y8.toInt + j)) (2 * v + 1) (-v) t x.toInt)) := by
  have ev : (-(nI v)).toInt = -(v : Int) := by rw [i32_negZ (by rw [nI_Z (by omega)]; omega), nI_Z (by omega)]
  intro t
  induction t with
  | zero =>
    intro f c x hx hl hf
    obtain ⟨f, rfl⟩ : ∃ f', f = f' + 1 := ⟨f - 1, by omega⟩
    rw [l_X12_winsOf_57, if_pos (by rw [i32_lt0, nI_Z (by omega)]; omega)]
    rfl
  | succ t ih =>
    intro f c x hx hl hf
    obtain ⟨f, rfl⟩ : ∃ f', f = f' + 1 := ⟨f - 1, by omega⟩
    have e1 : (x + (1 : Int32)).toInt = x.toInt + 1 := by rw [i32_addZ (by rw [one_Z]; omega) (by rw [one_Z]; omega), one_Z]
    have h2 := L_mw2 (y11 := x) (h := h) hk hz he h7 h8 (by omega) hv (2 * v + 1) 1000 c (-(nI v)) (by rw [ev]; omega) (by rw [ev]; omega) (by omega)
    rw [ev] at h2
    rw [l_X12_winsOf_57, if_neg (by rw [i32_lt0, nI_Z (by omega)]; omega), h2, Option.bind_some, ih f _ (x + 1) (by rw [e1]; omega) (by rw [e1]; omega) (by omega), cnt2F, e1, Nat.add_assoc]
theorem M_winsOf {H : TB} {h : HS} (hH : Mha H h) (hWH : Wha H) {k p z e m : Int32} {j : Nat} (hj : j < H.1) (hk : 0 ≤ k.toInt ∧ k.toInt ≤ 5) (hp : plB p = true) (hz : 0 ≤ z.toInt ∧ z.toInt ≤ 9) (he : 0 ≤ e.toInt ∧ e.toInt ≤ 1) (hm : plB m = true) : f_X12_winsOf k p z e (nI j) m h = some (nI (cntW k.toInt z.toInt e.toInt (m.toInt / 100 + (H.2 0 j).toInt - p.toInt / 100) (m.toInt % 100 + (H.2 1 j).toInt - p.toInt % 100) (H.2 2 j).toInt.toNat)) := by
  have h6 := hH.2.1
  obtain ⟨r0, r1, r2⟩ := hH.2.2 j hj
  obtain ⟨w0, w1, w2⟩ := hWH j hj
  obtain ⟨p1, p2, p3, p4⟩ := plB_t hp
  obtain ⟨m1, m2, m3, m4⟩ := plB_t hm
  have hx := ixb_n (i := j) (n := 6) (by omega) (by decide)
  have hc : (nI j).toNatClampNeg = j := nI_clamp (by omega)
  have ev : H.2 2 j = nI (H.2 2 j).toInt.toNat := by rw [i32_eqZ, nI_Z (by omega)]; omega
  have hv5 : (H.2 2 j).toInt.toNat ≤ 5 := by omega
  have z1 := i32_d100 p1
  have z2 := i32_r100 p1
  have z3 := i32_d100 m1
  have z4 := i32_r100 m1
  have a1 : (m / 100 + H.2 0 j).toInt = m.toInt / 100 + (H.2 0 j).toInt := by rw [i32_addZ (by omega) (by omega), z3]
  have a2 : (m / 100 + H.2 0 j - p / 100).toInt = m.toInt / 100 + (H.2 0 j).toInt - p.toInt / 100 := by rw [i32_subZ (by omega) (by omega), a1, z1]
  have b1 : (m - m / 100 * 100 + H.2 1 j).toInt = m.toInt % 100 + (H.2 1 j).toInt := by rw [i32_addZ (by omega) (by omega), z4]
  have b2 : (m - m / 100 * 100 + H.2 1 j - (p - p / 100 * 100)).toInt = m.toInt % 100 + (H.2 1 j).toInt - p.toInt % 100 := by rw [i32_subZ (by omega) (by omega), b1, z2]
  have hn : (-(nI (H.2 2 j).toInt.toNat)).toInt = -((H.2 2 j).toInt.toNat : Int) := by rw [i32_negZ (by rw [nI_Z (by omega)]; omega), nI_Z (by omega)]
  have hl := L_mw1 (k := k) (z := z) (e := e) (y7 := m / 100 + H.2 0 j - p / 100) (y8 := m - m / 100 * 100 + H.2 1 j - (p - p / 100 * 100)) (h := h) hk hz he (by omega) (by omega) hv5 (2 * (H.2 2 j).toInt.toNat + 1) 1000 0 (-(nI (H.2 2 j).toInt.toNat)) (by rw [hn]; omega) (by rw [hn]; omega) (by omega)
  rw [← ev] at hl
  rw [← ev] at hn
  unfold f_X12_winsOf
  rw [if_pos hx, if_pos hx, if_pos hx, hc, r0, r1, r2]
  rw [show l_X12_winsOf_57 k z e (m / 100 + H.2 0 j - p / 100) (m - m / 100 * 100 + H.2 1 j - (p - p / 100 * 100)) (H.2 2 j) h 1000 (0 : Int32) (-(H.2 2 j)) = _ from hl, Option.bind_some, hn, a2, b2, Nat.zero_add]
  rfl
theorem cntF_sh (f : Int → Bool) (s : Int) : ∀ (t : Nat) (j : Int), cntF (fun x => f (s + x)) t j = cntF f t (s + j)
  | 0, _ => rfl
  | t + 1, j => by
    rw [cntF, cntF, cntF_sh f s t (j + 1), show s + (j + 1) = s + j + 1 by omega]
theorem cnt2F_sh (f : Int → Int → Bool) (r s : Int) (w : Nat) (b0 : Int) : ∀ (t : Nat) (j : Int), cnt2F (fun x y => f (r + x) (s + y)) w b0 t j = cnt2F f w (s + b0) t (r + j)
  | 0, _ => rfl
  | t + 1, j => by
    rw [cnt2F, cnt2F, cnt2F_sh f r s w b0 t (j + 1), cntF_sh (f (r + j)) s w b0, show r + (j + 1) = r + j + 1 by omega]
/-- nothing pays farther than 9 -/
theorem wonZ_far {k z e x y : Int} (hz : 0 ≤ z ∧ z ≤ 9) (h : x < -9 ∨ 9 < x ∨ y < -9 ∨ 9 < y) : wonZ k z e x y = false := by
  have i1 : innZ z x y = false := by simp only [innZ, decide_eq_false_iff_not]; omega
  have i2 : innZ (z / 2) x y = false := by simp only [innZ, decide_eq_false_iff_not]; omega
  unfold wonZ
  simp [i1, i2]
def clp (o : Int) : Nat := if o + 9 < 0 then 0 else if 19 < o + 9 then 19 else (o + 9).toNat
theorem clp_s (o : Int) : clp o ≤ 19 ∧ (o + 9 < 0 → clp o = 0) ∧ (19 < o + 9 → clp o = 19) ∧ (0 ≤ o + 9 → o + 9 ≤ 19 → (clp o : Int) = o + 9) := by
  unfold clp
  by_cases h1 : o + 9 < 0
  · rw [if_pos h1]; omega
  · rw [if_neg h1]
    by_cases h2 : 19 < o + 9
    · rw [if_pos h2]; omega
    · rw [if_neg h2]; omega
theorem cnt_rows (f : Int → Int → Bool) (hf : ∀ x y, x < -9 ∨ 9 < x → f x y = false) (w : Nat) (b0 a : Int) (v : Nat) : cnt2F f w b0 (2 * v + 1) (a - v) = cnt2F f w b0 (clp (a + v + 1) - clp (a - v)) (-9 + clp (a - v)) := by
  obtain ⟨u1, u2, u3, u4⟩ := clp_s (a - v)
  obtain ⟨w1, w2, w3, w4⟩ := clp_s (a + v + 1)
  by_cases c : clp (a + v + 1) ≤ clp (a - v)
  · rw [show clp (a + v + 1) - clp (a - v) = 0 by omega]
    rw [cnt2F_0 f w b0 (2 * v + 1) (a - v) (fun x y h1 h2 _ _ => hf x y (by omega))]
    rfl
  · have h1 : ∃ s1 s2, 2 * v + 1 = s1 + ((clp (a + v + 1) - clp (a - v)) + s2) ∧ a - v + (s1 : Int) = -9 + clp (a - v) ∧ (s1 = 0 ∨ clp (a - v) = 0) ∧ (s2 = 0 ∨ clp (a + v + 1) = 19) := by
      exact ⟨((-9 + clp (a - v) : Int) - (a - v)).toNat, ((a + v + 1) - (-9 + clp (a + v + 1) : Int)).toNat, by omega, by omega, by omega, by omega⟩
    obtain ⟨s1, s2, e1, e2, e3, e4⟩ := h1
    rw [e1, cnt2F_add, cnt2F_add, e2]
    have q1 : cnt2F f w b0 s1 (a - v) = 0 := cnt2F_0 f w b0 s1 (a - v) (fun x y h1 h2 _ _ => hf x y (by omega))
    have q2 : cnt2F f w b0 s2 (-9 + (clp (a - v) : Int) + ((clp (a + v + 1) - clp (a - v) : Nat) : Int)) = 0 := cnt2F_0 f w b0 s2 _ (fun x y h1 h2 _ _ => hf x y (by omega))
    rw [q1, q2]
    omega
theorem cnt_cols (f : Int → Int → Bool) (hf : ∀ x y, y < -9 ∨ 9 < y → f x y = false) (b : Int) (v : Nat) : ∀ (t : Nat) (j : Int), cnt2F f (2 * v + 1) (b - v) t j = cnt2F f (clp (b + v + 1) - clp (b - v)) (-9 + clp (b - v)) t j := by
  obtain ⟨u1, u2, u3, u4⟩ := clp_s (b - v)
  obtain ⟨w1, w2, w3, w4⟩ := clp_s (b + v + 1)
  intro t
  induction t with
  | zero => intro j; rfl
  | succ t ih =>
    intro j
    rw [cnt2F, cnt2F, ih]
    have : cntF (f j) (2 * v + 1) (b - v) = cntF (f j) (clp (b + v + 1) - clp (b - v)) (-9 + clp (b - v)) := by
      by_cases c : clp (b + v + 1) ≤ clp (b - v)
      · rw [show clp (b + v + 1) - clp (b - v) = 0 by omega]
        rw [cntF_0 (f j) (2 * v + 1) (b - v) (fun y h1 h2 => hf j y (by omega))]
        rfl
      · obtain ⟨s1, s2, e1, e2, e3, e4⟩ : ∃ s1 s2, 2 * v + 1 = s1 + ((clp (b + v + 1) - clp (b - v)) + s2) ∧ b - v + (s1 : Int) = -9 + clp (b - v) ∧ (s1 = 0 ∨ clp (b - v) = 0) ∧ (s2 = 0 ∨ clp (b + v + 1) = 19) := ⟨((-9 + clp (b - v) : Int) - (b - v)).toNat, ((b + v + 1) - (-9 + clp (b + v + 1) : Int)).toNat, by omega, by omega, by omega, by omega⟩
        rw [e1, cntF_add, cntF_add, e2]
        have q1 : cntF (f j) s1 (b - v) = 0 := cntF_0 (f j) s1 (b - v) (fun y h1 h2 => hf j y (by omega))
        have q2 : cntF (f j) s2 (-9 + (clp (b - v) : Int) + ((clp (b + v + 1) - clp (b - v) : Nat) : Int)) = 0 := cntF_0 (f j) s2 _ (fun y h1 h2 => hf j y (by omega))
        rw [q1, q2]
        omega
    rw [this]
/-- the sums of a grid: what pays in the first i lines and the first j columns -/
def gsum (f : Int → Int → Bool) (i j : Nat) : Nat := cnt2F f j (-9) i (-9)
theorem gsum_le (f : Int → Int → Bool) (i j : Nat) : gsum f i j ≤ i * j := cnt2F_le _ _ _ _ _
theorem gsum_box (f : Int → Int → Bool) (i t j u : Nat) : gsum f (i + t) (j + u) + gsum f i j = gsum f i (j + u) + gsum f (i + t) j + cnt2F f u (-9 + j) t (-9 + i) := by
  unfold gsum
  rw [cnt2F_add, cnt2F_add, cnt2F_w, cnt2F_w]
  omega
/-- four sums tell the count -/
theorem cntW_sums {k z e a b : Int} (hz : 0 ≤ z ∧ z ≤ 9) (v : Nat) : gsum (wonZ k z e) (clp (a + v + 1)) (clp (b + v + 1)) + gsum (wonZ k z e) (clp (a - v)) (clp (b - v)) = gsum (wonZ k z e) (clp (a - v)) (clp (b + v + 1)) + gsum (wonZ k z e) (clp (a + v + 1)) (clp (b - v)) + cntW k z e a b v := by
  have h1 : clp (a - v) ≤ clp (a + v + 1) := by
    obtain ⟨u1, u2, u3, u4⟩ := clp_s (a - v)
    obtain ⟨w1, w2, w3, w4⟩ := clp_s (a + v + 1)
    omega
  have h2 : clp (b - v) ≤ clp (b + v + 1) := by
    obtain ⟨u1, u2, u3, u4⟩ := clp_s (b - v)
    obtain ⟨w1, w2, w3, w4⟩ := clp_s (b + v + 1)
    omega
  have ee : cntW k z e a b v = cnt2F (wonZ k z e) (clp (b + v + 1) - clp (b - v)) (-9 + clp (b - v)) (clp (a + v + 1) - clp (a - v)) (-9 + clp (a - v)) := by
    unfold cntW
    rw [cnt2F_sh (wonZ k z e) a b, show b + -(v : Int) = b - v by omega, show a + -(v : Int) = a - v by omega, cnt_rows (wonZ k z e) (fun x y h => wonZ_far hz (by omega)), cnt_cols (wonZ k z e) (fun x y h => wonZ_far hz (by omega))]
  have g := gsum_box (wonZ k z e) (clp (a - v)) (clp (a + v + 1) - clp (a - v)) (clp (b - v)) (clp (b + v + 1) - clp (b - v))
  rw [show clp (a - v) + (clp (a + v + 1) - clp (a - v)) = clp (a + v + 1) by omega, show clp (b - v) + (clp (b + v + 1) - clp (b - v)) = clp (b + v + 1) by omega] at g
  rw [ee]
  exact g
