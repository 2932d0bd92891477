def innZ (z a b : Int) : Bool := decide (-z ≤ a ∧ a ≤ z ∧ -z ≤ b ∧ b ≤ z)
def wonZ (k z e a b : Int) : Bool :=
  if k = 1 then innZ (z / 2) a b
  else if k = 2 then innZ z a b && decide (0 ≤ a)
  else if k = 3 then innZ z a b && decide (0 ≤ a) && (if e = 1 then decide (a ≠ 0 ∧ b ≠ 0) else decide (a ≠ 0 ∨ b ≠ 0))
  else if k = 4 then innZ z a b && decide ((a + 2 * b + e) % 3 = 0)
  else if k = 5 then (if e = 1 then innZ (z / 2) a b && decide (a = 0) else innZ z a b)
  else innZ z a b
theorem absI_Z {v : Int32} {A : Int} (h : v.toInt = A) (hb : -2147483648 < A) : (absI v).toInt = if 0 ≤ A then A else -A := by
  subst h
  unfold absI
  by_cases c : 0 ≤ v
  · rw [if_pos c, if_pos (by simpa using Int32.le_iff_toInt_le.mp c)]
  · have c2 : ¬ 0 ≤ v.toInt := fun q => c (Int32.le_iff_toInt_le.mpr (by simpa using q))
    rw [if_neg c, if_neg c2, i32_neg hb]
theorem isInB_Z {z a b : Int32} {Z A B : Int} (hz : z.toInt = Z) (ha : a.toInt = A) (hb : b.toInt = B) (h1 : -2147483648 < A) (h2 : -2147483648 < B) : isInB z a b = innZ Z A B := by
  have e1 := absI_Z ha h1
  have e2 := absI_Z hb h2
  unfold isInB innZ
  rw [Bool.eq_iff_iff]
  simp only [Bool.and_eq_true, decide_eq_true_eq, Int32.lt_iff_toInt_lt, e1, e2, hz]
  split <;> split <;> omega
theorem i32_half {z : Int32} {Z : Int} (hz : z.toInt = Z) (h0 : 0 ≤ Z) : (z / 2).toInt = Z / 2 := by
  rw [i32_div (by decide), hz, Int.tdiv_eq_ediv_of_nonneg h0]; rfl
theorem i32_rem {x : Int32} {X : Int} {k : Int32} {q : Int} (hx : x.toInt = X) (hk : k.toInt = q) (h0 : 0 < q) : (x - x / k * k).toInt = X.tmod q := by
  have hx2 := i32_lo x
  have hk2 := i32_lo k
  have hd : (x / k).toInt = X.tdiv q := by rw [i32_div (by omega), hx, hk]
  have he := Int.tmod_add_mul_tdiv X q
  have hm1 := Int.tmod_lt_of_pos X h0
  have hm2 := Int.lt_tmod_of_pos X h0
  have hmul : (x / k).toInt * k.toInt = X - X.tmod q := by rw [hd, hk, Int.mul_comm]; omega
  have hsg : (0 ≤ X → 0 ≤ X.tmod q ∧ X.tmod q ≤ X) ∧ (X < 0 → X.tmod q ≤ 0 ∧ X ≤ X.tmod q) := by
    refine ⟨fun hX => ⟨Int.tmod_nonneg q hX, ?_⟩, fun hX => ?_⟩
    · have := Int.mul_nonneg (Int.le_of_lt h0) (Int.tdiv_nonneg hX (Int.le_of_lt h0))
      omega
    · have e1 : X.tmod q = -((-X).tmod q) := by rw [Int.neg_tmod, Int.neg_neg]
      have e2 : X.tdiv q = -((-X).tdiv q) := by rw [Int.neg_tdiv, Int.neg_neg]
      have h3 := Int.tmod_nonneg q (show 0 ≤ -X by omega)
      have h4 := Int.mul_nonneg (Int.le_of_lt h0) (Int.tdiv_nonneg (show 0 ≤ -X by omega) (Int.le_of_lt h0))
      rw [e2, Int.mul_neg] at he
      omega
  have hm := i32_mul (x := x / k) (y := k) (by rw [hmul]; omega) (by rw [hmul]; omega)
  rw [hmul] at hm
  rw [i32_sub (by rw [hm, hx]; omega) (by rw [hm, hx]; omega), hm, hx]
  omega
theorem tmod0 {X q : Int} (h0 : 0 < q) : X.tmod q = 0 ↔ X % q = 0 := by
  rw [← Int.dvd_iff_tmod_eq_zero, ← Int.dvd_iff_emod_eq_zero]

set_option maxHeartbeats 4000000 in
set_option maxRecDepth 20000 in
theorem t_X12_isInZ {G : GE} (d : Nat) {h : HS} {z a b : Int32} {Z A B : Int} (hz : z.toInt = Z) (ha : a.toInt = A) (hb : b.toInt = B) (h1 : -2147483648 < A) (h2 : -2147483648 < B) : CE G (d + 1) yX12_isIn miX12_isIn [.int z, .int a, .int b] h (some (.int (b2i (innZ Z A B)))) (h) := by
  refine ce_of rfl (by decide) (fun q => by first | rfl | cases q) (Nat.le_of_ble_eq_true rfl) rfl ?_
  rw [← isInB_Z hz ha hb h1 h2]
  refine e_iload_n dX12_isIn_0 rfl ?_
  refine s1 lmX12_163 lsX12_plain msX12_plain dX12_isIn_1 (t_X12_plain (d + 0)) rfl (Nat.le_of_ble_eq_true rfl) (by omega) ?_
  refine e_iload_n dX12_isIn_4 rfl ?_
  refine e_icmp_gt (tgt := 20) dX12_isIn_5 (by decide) (fun c5 => ?_) (fun c5 => ?_)
  · refine e_iconst (v := 0) dX12_isIn_20 (by decide) ?_
    exact z_iret rfl rfl dX12_isIn_21 (rB0 (by simp [isInB, *])) rfl
  · refine e_iload_n dX12_isIn_8 rfl ?_
    refine s1 lmX12_163 lsX12_plain msX12_plain dX12_isIn_9 (t_X12_plain (d + 0)) rfl (Nat.le_of_ble_eq_true rfl) (by omega) ?_
    refine e_iload_n dX12_isIn_12 rfl ?_
    refine e_icmp_gt (tgt := 20) dX12_isIn_13 (by decide) (fun c13 => ?_) (fun c13 => ?_)
    · refine e_iconst (v := 0) dX12_isIn_20 (by decide) ?_
      exact z_iret rfl rfl dX12_isIn_21 (rB0 (by simp [isInB, *])) rfl
    · refine e_iconst (v := 1) dX12_isIn_16 (by decide) ?_
      refine e_goto (tgt := 21) dX12_isIn_17 (by decide) ?_
      exact z_iret rfl rfl dX12_isIn_21 (rB1 (by simp [isInB, *])) rfl

set_option maxHeartbeats 4000000 in
set_option maxRecDepth 20000 in
theorem t_X12_isWon {G : GE} (d : Nat) {h : HS} {k z e a b : Int32} {K Z E A B : Int} (hk : k.toInt = K) (hz : z.toInt = Z) (he : e.toInt = E) (ha : a.toInt = A) (hb : b.toInt = B) (z0 : 0 ≤ Z) (z9 : Z ≤ 9) (e0 : 0 ≤ E) (e1 : E ≤ 1) (a0 : -1000 ≤ A) (a1 : A ≤ 1000) (b0 : -1000 ≤ B) (b1 : B ≤ 1000) : CE G (d + 2) yX12_isWon miX12_isWon [.int k, .int z, .int e, .int a, .int b] h (some (.int (b2i (wonZ K Z E A B)))) (h) := by
  refine ce_of rfl (by decide) (fun q => by first | rfl | cases q) (Nat.le_of_ble_eq_true rfl) rfl ?_
  have hka : ∀ n : Int32, k = n → K = n.toInt := fun n q => by rw [← hk, q]
  have hkb : ∀ n : Int32, ¬ k = n → K ≠ n.toInt := fun n q z => q (Int32.toInt_inj.mp (hk.trans z))
  have hea : ∀ n : Int32, e = n → E = n.toInt := fun n q => by rw [← he, q]
  have heb : ∀ n : Int32, ¬ e = n → E ≠ n.toInt := fun n q z => q (Int32.toInt_inj.mp (he.trans z))
  have haa : ∀ n : Int32, a = n → A = n.toInt := fun n q => by rw [← ha, q]
  have hab : ∀ n : Int32, ¬ a = n → A ≠ n.toInt := fun n q z => q (Int32.toInt_inj.mp (ha.trans z))
  have hba : ∀ n : Int32, b = n → B = n.toInt := fun n q => by rw [← hb, q]
  have hbb : ∀ n : Int32, ¬ b = n → B ≠ n.toInt := fun n q z => q (Int32.toInt_inj.mp (hb.trans z))
  have hr3 : (a + 2 * b + e - (a + 2 * b + e) / 3 * 3).toInt = (A + 2 * B + E).tmod 3 := by
    have g1 : (2 * b).toInt = 2 * B := by rw [i32_mul (by rw [hb]; simp; omega) (by rw [hb]; simp; omega), hb]; rfl
    have g2 : (a + 2 * b).toInt = A + 2 * B := by rw [i32_add (by omega) (by omega), g1, ha]
    have g3 : (a + 2 * b + e).toInt = A + 2 * B + E := by rw [i32_add (by omega) (by omega), g2, he]
    exact i32_rem g3 rfl (by decide)
  refine e_iload_n dX12_isWon_0 rfl ?_
  by_cases k1_1 : k = 1
  · refine e_tableIn (off := 35) (tgt := 36) dX12_isWon_1 (by rw [k1_1]; decide) (by rw [k1_1]; decide) (by rw [k1_1]; rfl) (by decide) ?_
    refine e_iload_n dX12_isWon_36 rfl ?_
    refine e_iconst (v := 2) dX12_isWon_37 (by decide) ?_
    refine e_idiv dX12_isWon_38 (by decide) ?_
    refine e_iload_n dX12_isWon_39 rfl ?_
    refine e_iload dX12_isWon_40 rfl ?_
    refine s1 lmX12_166 lsX12_isIn msX12_isIn dX12_isWon_42 (t_X12_isInZ (d + 0) (Z := Z / 2) (A := A) (B := B) (i32_half hz z0) ha hb (by omega) (by omega)) rfl (Nat.le_of_ble_eq_true rfl) (by omega) ?_
    exact z_bret rfl dX12_isWon_45 (by first | (have p : K = 1 := hka 1 k1_1; subst p; (first | (simp_all [wonZ, tmod0]; done) | (simp_all [wonZ, innZ, tmod0]; omega))) | (have p : K = 2 := hka 2 k1_2; subst p; (first | (simp_all [wonZ, tmod0]; done) | (simp_all [wonZ, innZ, tmod0]; omega))) | (have p : K = 3 := hka 3 k1_3; subst p; (first | (simp_all [wonZ, tmod0]; done) | (simp_all [wonZ, innZ, tmod0]; omega))) | (have p : K = 4 := hka 4 k1_4; subst p; (first | (simp_all [wonZ, tmod0]; done) | (simp_all [wonZ, innZ, tmod0]; omega))) | (have p : K = 5 := hka 5 k1_5; subst p; (first | (simp_all [wonZ, tmod0]; done) | (simp_all [wonZ, innZ, tmod0]; omega))) | (have n1 : K ≠ 1 := hkb 1 k1_1; have n2 : K ≠ 2 := hkb 2 k1_2; have n3 : K ≠ 3 := hkb 3 k1_3; have n4 : K ≠ 4 := hkb 4 k1_4; have n5 : K ≠ 5 := hkb 5 k1_5; simp [wonZ, n1, n2, n3, n4, n5])) rfl
  by_cases k1_2 : k = 2
  · refine e_tableIn (off := 45) (tgt := 46) dX12_isWon_1 (by rw [k1_2]; decide) (by rw [k1_2]; decide) (by rw [k1_2]; rfl) (by decide) ?_
    refine e_iload_n dX12_isWon_46 rfl ?_
    refine e_iload_n dX12_isWon_47 rfl ?_
    refine e_iload dX12_isWon_48 rfl ?_
    refine s1 lmX12_166 lsX12_isIn msX12_isIn dX12_isWon_50 (t_X12_isInZ (d + 0) hz ha hb (by omega) (by omega)) rfl (Nat.le_of_ble_eq_true rfl) (by omega) ?_
    refine e_ifB_eq (tgt := 64) dX12_isWon_53 (by decide) (fun c53 => ?_) (fun c53 => ?_)
    · refine e_iconst (v := 0) dX12_isWon_64 (by decide) ?_
      exact z_iret rfl rfl dX12_isWon_65 (rB0 (by first | (have p : K = 1 := hka 1 k1_1; subst p; (first | (simp_all [wonZ, tmod0]; done) | (simp_all [wonZ, innZ, tmod0]; omega))) | (have p : K = 2 := hka 2 k1_2; subst p; (first | (simp_all [wonZ, tmod0]; done) | (simp_all [wonZ, innZ, tmod0]; omega))) | (have p : K = 3 := hka 3 k1_3; subst p; (first | (simp_all [wonZ, tmod0]; done) | (simp_all [wonZ, innZ, tmod0]; omega))) | (have p : K = 4 := hka 4 k1_4; subst p; (first | (simp_all [wonZ, tmod0]; done) | (simp_all [wonZ, innZ, tmod0]; omega))) | (have p : K = 5 := hka 5 k1_5; subst p; (first | (simp_all [wonZ, tmod0]; done) | (simp_all [wonZ, innZ, tmod0]; omega))) | (have n1 : K ≠ 1 := hkb 1 k1_1; have n2 : K ≠ 2 := hkb 2 k1_2; have n3 : K ≠ 3 := hkb 3 k1_3; have n4 : K ≠ 4 := hkb 4 k1_4; have n5 : K ≠ 5 := hkb 5 k1_5; simp [wonZ, n1, n2, n3, n4, n5]))) rfl
    · refine e_iload_n dX12_isWon_56 rfl ?_
      refine zi_lt (tgt := 64) ha dX12_isWon_57 (by decide) (fun c57 => ?_) (fun c57 => ?_)
      · refine e_iconst (v := 0) dX12_isWon_64 (by decide) ?_
        exact z_iret rfl rfl dX12_isWon_65 (rB0 (by first | (have p : K = 1 := hka 1 k1_1; subst p; (first | (simp_all [wonZ, tmod0]; done) | (simp_all [wonZ, innZ, tmod0]; omega))) | (have p : K = 2 := hka 2 k1_2; subst p; (first | (simp_all [wonZ, tmod0]; done) | (simp_all [wonZ, innZ, tmod0]; omega))) | (have p : K = 3 := hka 3 k1_3; subst p; (first | (simp_all [wonZ, tmod0]; done) | (simp_all [wonZ, innZ, tmod0]; omega))) | (have p : K = 4 := hka 4 k1_4; subst p; (first | (simp_all [wonZ, tmod0]; done) | (simp_all [wonZ, innZ, tmod0]; omega))) | (have p : K = 5 := hka 5 k1_5; subst p; (first | (simp_all [wonZ, tmod0]; done) | (simp_all [wonZ, innZ, tmod0]; omega))) | (have n1 : K ≠ 1 := hkb 1 k1_1; have n2 : K ≠ 2 := hkb 2 k1_2; have n3 : K ≠ 3 := hkb 3 k1_3; have n4 : K ≠ 4 := hkb 4 k1_4; have n5 : K ≠ 5 := hkb 5 k1_5; simp [wonZ, n1, n2, n3, n4, n5]))) rfl
      · refine e_iconst (v := 1) dX12_isWon_60 (by decide) ?_
        refine e_goto (tgt := 65) dX12_isWon_61 (by decide) ?_
        exact z_iret rfl rfl dX12_isWon_65 (rB1 (by first | (have p : K = 1 := hka 1 k1_1; subst p; (first | (simp_all [wonZ, tmod0]; done) | (simp_all [wonZ, innZ, tmod0]; omega))) | (have p : K = 2 := hka 2 k1_2; subst p; (first | (simp_all [wonZ, tmod0]; done) | (simp_all [wonZ, innZ, tmod0]; omega))) | (have p : K = 3 := hka 3 k1_3; subst p; (first | (simp_all [wonZ, tmod0]; done) | (simp_all [wonZ, innZ, tmod0]; omega))) | (have p : K = 4 := hka 4 k1_4; subst p; (first | (simp_all [wonZ, tmod0]; done) | (simp_all [wonZ, innZ, tmod0]; omega))) | (have p : K = 5 := hka 5 k1_5; subst p; (first | (simp_all [wonZ, tmod0]; done) | (simp_all [wonZ, innZ, tmod0]; omega))) | (have n1 : K ≠ 1 := hkb 1 k1_1; have n2 : K ≠ 2 := hkb 2 k1_2; have n3 : K ≠ 3 := hkb 3 k1_3; have n4 : K ≠ 4 := hkb 4 k1_4; have n5 : K ≠ 5 := hkb 5 k1_5; simp [wonZ, n1, n2, n3, n4, n5]))) rfl
  by_cases k1_3 : k = 3
  · refine e_tableIn (off := 65) (tgt := 66) dX12_isWon_1 (by rw [k1_3]; decide) (by rw [k1_3]; decide) (by rw [k1_3]; rfl) (by decide) ?_
    refine e_iload_n dX12_isWon_66 rfl ?_
    refine e_iload_n dX12_isWon_67 rfl ?_
    refine e_iload dX12_isWon_68 rfl ?_
    refine s1 lmX12_166 lsX12_isIn msX12_isIn dX12_isWon_70 (t_X12_isInZ (d + 0) hz ha hb (by omega) (by omega)) rfl (Nat.le_of_ble_eq_true rfl) (by omega) ?_
    refine e_ifB_eq (tgt := 110) dX12_isWon_73 (by decide) (fun c73 => ?_) (fun c73 => ?_)
    · refine e_iconst (v := 0) dX12_isWon_110 (by decide) ?_
      exact z_iret rfl rfl dX12_isWon_111 (rB0 (by first | (have p : K = 1 := hka 1 k1_1; subst p; (first | (simp_all [wonZ, tmod0]; done) | (simp_all [wonZ, innZ, tmod0]; omega))) | (have p : K = 2 := hka 2 k1_2; subst p; (first | (simp_all [wonZ, tmod0]; done) | (simp_all [wonZ, innZ, tmod0]; omega))) | (have p : K = 3 := hka 3 k1_3; subst p; (first | (simp_all [wonZ, tmod0]; done) | (simp_all [wonZ, innZ, tmod0]; omega))) | (have p : K = 4 := hka 4 k1_4; subst p; (first | (simp_all [wonZ, tmod0]; done) | (simp_all [wonZ, innZ, tmod0]; omega))) | (have p : K = 5 := hka 5 k1_5; subst p; (first | (simp_all [wonZ, tmod0]; done) | (simp_all [wonZ, innZ, tmod0]; omega))) | (have n1 : K ≠ 1 := hkb 1 k1_1; have n2 : K ≠ 2 := hkb 2 k1_2; have n3 : K ≠ 3 := hkb 3 k1_3; have n4 : K ≠ 4 := hkb 4 k1_4; have n5 : K ≠ 5 := hkb 5 k1_5; simp [wonZ, n1, n2, n3, n4, n5]))) rfl
    · refine e_iload_n dX12_isWon_76 rfl ?_
      refine zi_lt (tgt := 110) ha dX12_isWon_77 (by decide) (fun c77 => ?_) (fun c77 => ?_)
      · refine e_iconst (v := 0) dX12_isWon_110 (by decide) ?_
        exact z_iret rfl rfl dX12_isWon_111 (rB0 (by first | (have p : K = 1 := hka 1 k1_1; subst p; (first | (simp_all [wonZ, tmod0]; done) | (simp_all [wonZ, innZ, tmod0]; omega))) | (have p : K = 2 := hka 2 k1_2; subst p; (first | (simp_all [wonZ, tmod0]; done) | (simp_all [wonZ, innZ, tmod0]; omega))) | (have p : K = 3 := hka 3 k1_3; subst p; (first | (simp_all [wonZ, tmod0]; done) | (simp_all [wonZ, innZ, tmod0]; omega))) | (have p : K = 4 := hka 4 k1_4; subst p; (first | (simp_all [wonZ, tmod0]; done) | (simp_all [wonZ, innZ, tmod0]; omega))) | (have p : K = 5 := hka 5 k1_5; subst p; (first | (simp_all [wonZ, tmod0]; done) | (simp_all [wonZ, innZ, tmod0]; omega))) | (have n1 : K ≠ 1 := hkb 1 k1_1; have n2 : K ≠ 2 := hkb 2 k1_2; have n3 : K ≠ 3 := hkb 3 k1_3; have n4 : K ≠ 4 := hkb 4 k1_4; have n5 : K ≠ 5 := hkb 5 k1_5; simp [wonZ, n1, n2, n3, n4, n5]))) rfl
      · refine e_iload_n dX12_isWon_80 rfl ?_
        refine e_iconst (v := 1) dX12_isWon_81 (by decide) ?_
        refine zc_ne (tgt := 97) he rfl dX12_isWon_82 (by decide) (fun c82 => ?_) (fun c82 => ?_)
        · refine e_iload_n dX12_isWon_97 rfl ?_
          refine zi_ne (tgt := 106) ha dX12_isWon_98 (by decide) (fun c98 => ?_) (fun c98 => ?_)
          · refine e_iconst (v := 1) dX12_isWon_106 (by decide) ?_
            refine e_goto (tgt := 111) dX12_isWon_107 (by decide) ?_
            exact z_iret rfl rfl dX12_isWon_111 (rB1 (by first | (have p : K = 1 := hka 1 k1_1; subst p; (first | (simp_all [wonZ, tmod0]; done) | (simp_all [wonZ, innZ, tmod0]; omega))) | (have p : K = 2 := hka 2 k1_2; subst p; (first | (simp_all [wonZ, tmod0]; done) | (simp_all [wonZ, innZ, tmod0]; omega))) | (have p : K = 3 := hka 3 k1_3; subst p; (first | (simp_all [wonZ, tmod0]; done) | (simp_all [wonZ, innZ, tmod0]; omega))) | (have p : K = 4 := hka 4 k1_4; subst p; (first | (simp_all [wonZ, tmod0]; done) | (simp_all [wonZ, innZ, tmod0]; omega))) | (have p : K = 5 := hka 5 k1_5; subst p; (first | (simp_all [wonZ, tmod0]; done) | (simp_all [wonZ, innZ, tmod0]; omega))) | (have n1 : K ≠ 1 := hkb 1 k1_1; have n2 : K ≠ 2 := hkb 2 k1_2; have n3 : K ≠ 3 := hkb 3 k1_3; have n4 : K ≠ 4 := hkb 4 k1_4; have n5 : K ≠ 5 := hkb 5 k1_5; simp [wonZ, n1, n2, n3, n4, n5]))) rfl
          · refine e_iload dX12_isWon_101 rfl ?_
            refine zi_eq (tgt := 110) hb dX12_isWon_103 (by decide) (fun c103 => ?_) (fun c103 => ?_)
            · refine e_iconst (v := 0) dX12_isWon_110 (by decide) ?_
              exact z_iret rfl rfl dX12_isWon_111 (rB0 (by first | (have p : K = 1 := hka 1 k1_1; subst p; (first | (simp_all [wonZ, tmod0]; done) | (simp_all [wonZ, innZ, tmod0]; omega))) | (have p : K = 2 := hka 2 k1_2; subst p; (first | (simp_all [wonZ, tmod0]; done) | (simp_all [wonZ, innZ, tmod0]; omega))) | (have p : K = 3 := hka 3 k1_3; subst p; (first | (simp_all [wonZ, tmod0]; done) | (simp_all [wonZ, innZ, tmod0]; omega))) | (have p : K = 4 := hka 4 k1_4; subst p; (first | (simp_all [wonZ, tmod0]; done) | (simp_all [wonZ, innZ, tmod0]; omega))) | (have p : K = 5 := hka 5 k1_5; subst p; (first | (simp_all [wonZ, tmod0]; done) | (simp_all [wonZ, innZ, tmod0]; omega))) | (have n1 : K ≠ 1 := hkb 1 k1_1; have n2 : K ≠ 2 := hkb 2 k1_2; have n3 : K ≠ 3 := hkb 3 k1_3; have n4 : K ≠ 4 := hkb 4 k1_4; have n5 : K ≠ 5 := hkb 5 k1_5; simp [wonZ, n1, n2, n3, n4, n5]))) rfl
            · refine e_iconst (v := 1) dX12_isWon_106 (by decide) ?_
              refine e_goto (tgt := 111) dX12_isWon_107 (by decide) ?_
              exact z_iret rfl rfl dX12_isWon_111 (rB1 (by first | (have p : K = 1 := hka 1 k1_1; subst p; (first | (simp_all [wonZ, tmod0]; done) | (simp_all [wonZ, innZ, tmod0]; omega))) | (have p : K = 2 := hka 2 k1_2; subst p; (first | (simp_all [wonZ, tmod0]; done) | (simp_all [wonZ, innZ, tmod0]; omega))) | (have p : K = 3 := hka 3 k1_3; subst p; (first | (simp_all [wonZ, tmod0]; done) | (simp_all [wonZ, innZ, tmod0]; omega))) | (have p : K = 4 := hka 4 k1_4; subst p; (first | (simp_all [wonZ, tmod0]; done) | (simp_all [wonZ, innZ, tmod0]; omega))) | (have p : K = 5 := hka 5 k1_5; subst p; (first | (simp_all [wonZ, tmod0]; done) | (simp_all [wonZ, innZ, tmod0]; omega))) | (have n1 : K ≠ 1 := hkb 1 k1_1; have n2 : K ≠ 2 := hkb 2 k1_2; have n3 : K ≠ 3 := hkb 3 k1_3; have n4 : K ≠ 4 := hkb 4 k1_4; have n5 : K ≠ 5 := hkb 5 k1_5; simp [wonZ, n1, n2, n3, n4, n5]))) rfl
        · refine e_iload_n dX12_isWon_85 rfl ?_
          refine zi_eq (tgt := 110) ha dX12_isWon_86 (by decide) (fun c86 => ?_) (fun c86 => ?_)
          · refine e_iconst (v := 0) dX12_isWon_110 (by decide) ?_
            exact z_iret rfl rfl dX12_isWon_111 (rB0 (by first | (have p : K = 1 := hka 1 k1_1; subst p; (first | (simp_all [wonZ, tmod0]; done) | (simp_all [wonZ, innZ, tmod0]; omega))) | (have p : K = 2 := hka 2 k1_2; subst p; (first | (simp_all [wonZ, tmod0]; done) | (simp_all [wonZ, innZ, tmod0]; omega))) | (have p : K = 3 := hka 3 k1_3; subst p; (first | (simp_all [wonZ, tmod0]; done) | (simp_all [wonZ, innZ, tmod0]; omega))) | (have p : K = 4 := hka 4 k1_4; subst p; (first | (simp_all [wonZ, tmod0]; done) | (simp_all [wonZ, innZ, tmod0]; omega))) | (have p : K = 5 := hka 5 k1_5; subst p; (first | (simp_all [wonZ, tmod0]; done) | (simp_all [wonZ, innZ, tmod0]; omega))) | (have n1 : K ≠ 1 := hkb 1 k1_1; have n2 : K ≠ 2 := hkb 2 k1_2; have n3 : K ≠ 3 := hkb 3 k1_3; have n4 : K ≠ 4 := hkb 4 k1_4; have n5 : K ≠ 5 := hkb 5 k1_5; simp [wonZ, n1, n2, n3, n4, n5]))) rfl
          · refine e_iload dX12_isWon_89 rfl ?_
            refine zi_eq (tgt := 110) hb dX12_isWon_91 (by decide) (fun c91 => ?_) (fun c91 => ?_)
            · refine e_iconst (v := 0) dX12_isWon_110 (by decide) ?_
              exact z_iret rfl rfl dX12_isWon_111 (rB0 (by first | (have p : K = 1 := hka 1 k1_1; subst p; (first | (simp_all [wonZ, tmod0]; done) | (simp_all [wonZ, innZ, tmod0]; omega))) | (have p : K = 2 := hka 2 k1_2; subst p; (first | (simp_all [wonZ, tmod0]; done) | (simp_all [wonZ, innZ, tmod0]; omega))) | (have p : K = 3 := hka 3 k1_3; subst p; (first | (simp_all [wonZ, tmod0]; done) | (simp_all [wonZ, innZ, tmod0]; omega))) | (have p : K = 4 := hka 4 k1_4; subst p; (first | (simp_all [wonZ, tmod0]; done) | (simp_all [wonZ, innZ, tmod0]; omega))) | (have p : K = 5 := hka 5 k1_5; subst p; (first | (simp_all [wonZ, tmod0]; done) | (simp_all [wonZ, innZ, tmod0]; omega))) | (have n1 : K ≠ 1 := hkb 1 k1_1; have n2 : K ≠ 2 := hkb 2 k1_2; have n3 : K ≠ 3 := hkb 3 k1_3; have n4 : K ≠ 4 := hkb 4 k1_4; have n5 : K ≠ 5 := hkb 5 k1_5; simp [wonZ, n1, n2, n3, n4, n5]))) rfl
            · refine e_goto (tgt := 106) dX12_isWon_94 (by decide) ?_
              refine e_iconst (v := 1) dX12_isWon_106 (by decide) ?_
              refine e_goto (tgt := 111) dX12_isWon_107 (by decide) ?_
              exact z_iret rfl rfl dX12_isWon_111 (rB1 (by first | (have p : K = 1 := hka 1 k1_1; subst p; (first | (simp_all [wonZ, tmod0]; done) | (simp_all [wonZ, innZ, tmod0]; omega))) | (have p : K = 2 := hka 2 k1_2; subst p; (first | (simp_all [wonZ, tmod0]; done) | (simp_all [wonZ, innZ, tmod0]; omega))) | (have p : K = 3 := hka 3 k1_3; subst p; (first | (simp_all [wonZ, tmod0]; done) | (simp_all [wonZ, innZ, tmod0]; omega))) | (have p : K = 4 := hka 4 k1_4; subst p; (first | (simp_all [wonZ, tmod0]; done) | (simp_all [wonZ, innZ, tmod0]; omega))) | (have p : K = 5 := hka 5 k1_5; subst p; (first | (simp_all [wonZ, tmod0]; done) | (simp_all [wonZ, innZ, tmod0]; omega))) | (have n1 : K ≠ 1 := hkb 1 k1_1; have n2 : K ≠ 2 := hkb 2 k1_2; have n3 : K ≠ 3 := hkb 3 k1_3; have n4 : K ≠ 4 := hkb 4 k1_4; have n5 : K ≠ 5 := hkb 5 k1_5; simp [wonZ, n1, n2, n3, n4, n5]))) rfl
  by_cases k1_4 : k = 4
  · refine e_tableIn (off := 111) (tgt := 112) dX12_isWon_1 (by rw [k1_4]; decide) (by rw [k1_4]; decide) (by rw [k1_4]; rfl) (by decide) ?_
    refine e_iload_n dX12_isWon_112 rfl ?_
    refine e_iload_n dX12_isWon_113 rfl ?_
    refine e_iload dX12_isWon_114 rfl ?_
    refine s1 lmX12_166 lsX12_isIn msX12_isIn dX12_isWon_116 (t_X12_isInZ (d + 0) hz ha hb (by omega) (by omega)) rfl (Nat.le_of_ble_eq_true rfl) (by omega) ?_
    refine e_ifB_eq (tgt := 139) dX12_isWon_119 (by decide) (fun c119 => ?_) (fun c119 => ?_)
    · refine e_iconst (v := 0) dX12_isWon_139 (by decide) ?_
      exact z_iret rfl rfl dX12_isWon_140 (rB0 (by first | (have p : K = 1 := hka 1 k1_1; subst p; (first | (simp_all [wonZ, tmod0]; done) | (simp_all [wonZ, innZ, tmod0]; omega))) | (have p : K = 2 := hka 2 k1_2; subst p; (first | (simp_all [wonZ, tmod0]; done) | (simp_all [wonZ, innZ, tmod0]; omega))) | (have p : K = 3 := hka 3 k1_3; subst p; (first | (simp_all [wonZ, tmod0]; done) | (simp_all [wonZ, innZ, tmod0]; omega))) | (have p : K = 4 := hka 4 k1_4; subst p; (first | (simp_all [wonZ, tmod0]; done) | (simp_all [wonZ, innZ, tmod0]; omega))) | (have p : K = 5 := hka 5 k1_5; subst p; (first | (simp_all [wonZ, tmod0]; done) | (simp_all [wonZ, innZ, tmod0]; omega))) | (have n1 : K ≠ 1 := hkb 1 k1_1; have n2 : K ≠ 2 := hkb 2 k1_2; have n3 : K ≠ 3 := hkb 3 k1_3; have n4 : K ≠ 4 := hkb 4 k1_4; have n5 : K ≠ 5 := hkb 5 k1_5; simp [wonZ, n1, n2, n3, n4, n5]))) rfl
    · refine e_iload_n dX12_isWon_122 rfl ?_
      refine e_iconst (v := 2) dX12_isWon_123 (by decide) ?_
      refine e_iload dX12_isWon_124 rfl ?_
      refine e_imul dX12_isWon_126 ?_
      refine e_iadd dX12_isWon_127 ?_
      refine e_iload_n dX12_isWon_128 rfl ?_
      refine e_iadd dX12_isWon_129 ?_
      refine e_iconst (v := 3) dX12_isWon_130 (by decide) ?_
      refine e_irem dX12_isWon_131 (by decide) ?_
      refine zi_ne (tgt := 139) hr3 dX12_isWon_132 (by decide) (fun c132 => ?_) (fun c132 => ?_)
      · refine e_iconst (v := 0) dX12_isWon_139 (by decide) ?_
        exact z_iret rfl rfl dX12_isWon_140 (rB0 (by first | (have p : K = 1 := hka 1 k1_1; subst p; (first | (simp_all [wonZ, tmod0]; done) | (simp_all [wonZ, innZ, tmod0]; omega))) | (have p : K = 2 := hka 2 k1_2; subst p; (first | (simp_all [wonZ, tmod0]; done) | (simp_all [wonZ, innZ, tmod0]; omega))) | (have p : K = 3 := hka 3 k1_3; subst p; (first | (simp_all [wonZ, tmod0]; done) | (simp_all [wonZ, innZ, tmod0]; omega))) | (have p : K = 4 := hka 4 k1_4; subst p; (first | (simp_all [wonZ, tmod0]; done) | (simp_all [wonZ, innZ, tmod0]; omega))) | (have p : K = 5 := hka 5 k1_5; subst p; (first | (simp_all [wonZ, tmod0]; done) | (simp_all [wonZ, innZ, tmod0]; omega))) | (have n1 : K ≠ 1 := hkb 1 k1_1; have n2 : K ≠ 2 := hkb 2 k1_2; have n3 : K ≠ 3 := hkb 3 k1_3; have n4 : K ≠ 4 := hkb 4 k1_4; have n5 : K ≠ 5 := hkb 5 k1_5; simp [wonZ, n1, n2, n3, n4, n5]))) rfl
      · refine e_iconst (v := 1) dX12_isWon_135 (by decide) ?_
        refine e_goto (tgt := 140) dX12_isWon_136 (by decide) ?_
        exact z_iret rfl rfl dX12_isWon_140 (rB1 (by first | (have p : K = 1 := hka 1 k1_1; subst p; (first | (simp_all [wonZ, tmod0]; done) | (simp_all [wonZ, innZ, tmod0]; omega))) | (have p : K = 2 := hka 2 k1_2; subst p; (first | (simp_all [wonZ, tmod0]; done) | (simp_all [wonZ, innZ, tmod0]; omega))) | (have p : K = 3 := hka 3 k1_3; subst p; (first | (simp_all [wonZ, tmod0]; done) | (simp_all [wonZ, innZ, tmod0]; omega))) | (have p : K = 4 := hka 4 k1_4; subst p; (first | (simp_all [wonZ, tmod0]; done) | (simp_all [wonZ, innZ, tmod0]; omega))) | (have p : K = 5 := hka 5 k1_5; subst p; (first | (simp_all [wonZ, tmod0]; done) | (simp_all [wonZ, innZ, tmod0]; omega))) | (have n1 : K ≠ 1 := hkb 1 k1_1; have n2 : K ≠ 2 := hkb 2 k1_2; have n3 : K ≠ 3 := hkb 3 k1_3; have n4 : K ≠ 4 := hkb 4 k1_4; have n5 : K ≠ 5 := hkb 5 k1_5; simp [wonZ, n1, n2, n3, n4, n5]))) rfl
  by_cases k1_5 : k = 5
  · refine e_tableIn (off := 140) (tgt := 141) dX12_isWon_1 (by rw [k1_5]; decide) (by rw [k1_5]; decide) (by rw [k1_5]; rfl) (by decide) ?_
    refine e_iload_n dX12_isWon_141 rfl ?_
    refine e_iconst (v := 1) dX12_isWon_142 (by decide) ?_
    refine zc_ne (tgt := 170) he rfl dX12_isWon_143 (by decide) (fun c143 => ?_) (fun c143 => ?_)
    · refine e_iload_n dX12_isWon_170 rfl ?_
      refine e_iload_n dX12_isWon_171 rfl ?_
      refine e_iload dX12_isWon_172 rfl ?_
      refine s1 lmX12_166 lsX12_isIn msX12_isIn dX12_isWon_174 (t_X12_isInZ (d + 0) hz ha hb (by omega) (by omega)) rfl (Nat.le_of_ble_eq_true rfl) (by omega) ?_
      exact z_bret rfl dX12_isWon_177 (by first | (have p : K = 1 := hka 1 k1_1; subst p; (first | (simp_all [wonZ, tmod0]; done) | (simp_all [wonZ, innZ, tmod0]; omega))) | (have p : K = 2 := hka 2 k1_2; subst p; (first | (simp_all [wonZ, tmod0]; done) | (simp_all [wonZ, innZ, tmod0]; omega))) | (have p : K = 3 := hka 3 k1_3; subst p; (first | (simp_all [wonZ, tmod0]; done) | (simp_all [wonZ, innZ, tmod0]; omega))) | (have p : K = 4 := hka 4 k1_4; subst p; (first | (simp_all [wonZ, tmod0]; done) | (simp_all [wonZ, innZ, tmod0]; omega))) | (have p : K = 5 := hka 5 k1_5; subst p; (first | (simp_all [wonZ, tmod0]; done) | (simp_all [wonZ, innZ, tmod0]; omega))) | (have n1 : K ≠ 1 := hkb 1 k1_1; have n2 : K ≠ 2 := hkb 2 k1_2; have n3 : K ≠ 3 := hkb 3 k1_3; have n4 : K ≠ 4 := hkb 4 k1_4; have n5 : K ≠ 5 := hkb 5 k1_5; simp [wonZ, n1, n2, n3, n4, n5])) rfl
    · refine e_iload_n dX12_isWon_146 rfl ?_
      refine e_iconst (v := 2) dX12_isWon_147 (by decide) ?_
      refine e_idiv dX12_isWon_148 (by decide) ?_
      refine e_iload_n dX12_isWon_149 rfl ?_
      refine e_iload dX12_isWon_150 rfl ?_
      refine s1 lmX12_166 lsX12_isIn msX12_isIn dX12_isWon_152 (t_X12_isInZ (d + 0) (Z := Z / 2) (A := A) (B := B) (i32_half hz z0) ha hb (by omega) (by omega)) rfl (Nat.le_of_ble_eq_true rfl) (by omega) ?_
      refine e_ifB_eq (tgt := 166) dX12_isWon_155 (by decide) (fun c155 => ?_) (fun c155 => ?_)
      · refine e_iconst (v := 0) dX12_isWon_166 (by decide) ?_
        refine e_goto (tgt := 177) dX12_isWon_167 (by decide) ?_
        exact z_iret rfl rfl dX12_isWon_177 (rB0 (by first | (have p : K = 1 := hka 1 k1_1; subst p; (first | (simp_all [wonZ, tmod0]; done) | (simp_all [wonZ, innZ, tmod0]; omega))) | (have p : K = 2 := hka 2 k1_2; subst p; (first | (simp_all [wonZ, tmod0]; done) | (simp_all [wonZ, innZ, tmod0]; omega))) | (have p : K = 3 := hka 3 k1_3; subst p; (first | (simp_all [wonZ, tmod0]; done) | (simp_all [wonZ, innZ, tmod0]; omega))) | (have p : K = 4 := hka 4 k1_4; subst p; (first | (simp_all [wonZ, tmod0]; done) | (simp_all [wonZ, innZ, tmod0]; omega))) | (have p : K = 5 := hka 5 k1_5; subst p; (first | (simp_all [wonZ, tmod0]; done) | (simp_all [wonZ, innZ, tmod0]; omega))) | (have n1 : K ≠ 1 := hkb 1 k1_1; have n2 : K ≠ 2 := hkb 2 k1_2; have n3 : K ≠ 3 := hkb 3 k1_3; have n4 : K ≠ 4 := hkb 4 k1_4; have n5 : K ≠ 5 := hkb 5 k1_5; simp [wonZ, n1, n2, n3, n4, n5]))) rfl
      · refine e_iload_n dX12_isWon_158 rfl ?_
        refine zi_ne (tgt := 166) ha dX12_isWon_159 (by decide) (fun c159 => ?_) (fun c159 => ?_)
        · refine e_iconst (v := 0) dX12_isWon_166 (by decide) ?_
          refine e_goto (tgt := 177) dX12_isWon_167 (by decide) ?_
          exact z_iret rfl rfl dX12_isWon_177 (rB0 (by first | (have p : K = 1 := hka 1 k1_1; subst p; (first | (simp_all [wonZ, tmod0]; done) | (simp_all [wonZ, innZ, tmod0]; omega))) | (have p : K = 2 := hka 2 k1_2; subst p; (first | (simp_all [wonZ, tmod0]; done) | (simp_all [wonZ, innZ, tmod0]; omega))) | (have p : K = 3 := hka 3 k1_3; subst p; (first | (simp_all [wonZ, tmod0]; done) | (simp_all [wonZ, innZ, tmod0]; omega))) | (have p : K = 4 := hka 4 k1_4; subst p; (first | (simp_all [wonZ, tmod0]; done) | (simp_all [wonZ, innZ, tmod0]; omega))) | (have p : K = 5 := hka 5 k1_5; subst p; (first | (simp_all [wonZ, tmod0]; done) | (simp_all [wonZ, innZ, tmod0]; omega))) | (have n1 : K ≠ 1 := hkb 1 k1_1; have n2 : K ≠ 2 := hkb 2 k1_2; have n3 : K ≠ 3 := hkb 3 k1_3; have n4 : K ≠ 4 := hkb 4 k1_4; have n5 : K ≠ 5 := hkb 5 k1_5; simp [wonZ, n1, n2, n3, n4, n5]))) rfl
        · refine e_iconst (v := 1) dX12_isWon_162 (by decide) ?_
          refine e_goto (tgt := 177) dX12_isWon_163 (by decide) ?_
          exact z_iret rfl rfl dX12_isWon_177 (rB1 (by first | (have p : K = 1 := hka 1 k1_1; subst p; (first | (simp_all [wonZ, tmod0]; done) | (simp_all [wonZ, innZ, tmod0]; omega))) | (have p : K = 2 := hka 2 k1_2; subst p; (first | (simp_all [wonZ, tmod0]; done) | (simp_all [wonZ, innZ, tmod0]; omega))) | (have p : K = 3 := hka 3 k1_3; subst p; (first | (simp_all [wonZ, tmod0]; done) | (simp_all [wonZ, innZ, tmod0]; omega))) | (have p : K = 4 := hka 4 k1_4; subst p; (first | (simp_all [wonZ, tmod0]; done) | (simp_all [wonZ, innZ, tmod0]; omega))) | (have p : K = 5 := hka 5 k1_5; subst p; (first | (simp_all [wonZ, tmod0]; done) | (simp_all [wonZ, innZ, tmod0]; omega))) | (have n1 : K ≠ 1 := hkb 1 k1_1; have n2 : K ≠ 2 := hkb 2 k1_2; have n3 : K ≠ 3 := hkb 3 k1_3; have n4 : K ≠ 4 := hkb 4 k1_4; have n5 : K ≠ 5 := hkb 5 k1_5; simp [wonZ, n1, n2, n3, n4, n5]))) rfl
  refine e_tableOut (tgt := 178) dX12_isWon_1 (by have q1 : k.toInt ≠ 1 := i32_ne k1_1; have q2 : k.toInt ≠ 2 := i32_ne k1_2; have q3 : k.toInt ≠ 3 := i32_ne k1_3; have q4 : k.toInt ≠ 4 := i32_ne k1_4; have q5 : k.toInt ≠ 5 := i32_ne k1_5; omega) (by decide) ?_
  refine e_iload_n dX12_isWon_178 rfl ?_
  refine e_iload_n dX12_isWon_179 rfl ?_
  refine e_iload dX12_isWon_180 rfl ?_
  refine s1 lmX12_166 lsX12_isIn msX12_isIn dX12_isWon_182 (t_X12_isInZ (d + 0) hz ha hb (by omega) (by omega)) rfl (Nat.le_of_ble_eq_true rfl) (by omega) ?_
  exact z_bret rfl dX12_isWon_185 (by first | (have p : K = 1 := hka 1 k1_1; subst p; (first | (simp_all [wonZ, tmod0]; done) | (simp_all [wonZ, innZ, tmod0]; omega))) | (have p : K = 2 := hka 2 k1_2; subst p; (first | (simp_all [wonZ, tmod0]; done) | (simp_all [wonZ, innZ, tmod0]; omega))) | (have p : K = 3 := hka 3 k1_3; subst p; (first | (simp_all [wonZ, tmod0]; done) | (simp_all [wonZ, innZ, tmod0]; omega))) | (have p : K = 4 := hka 4 k1_4; subst p; (first | (simp_all [wonZ, tmod0]; done) | (simp_all [wonZ, innZ, tmod0]; omega))) | (have p : K = 5 := hka 5 k1_5; subst p; (first | (simp_all [wonZ, tmod0]; done) | (simp_all [wonZ, innZ, tmod0]; omega))) | (have n1 : K ≠ 1 := hkb 1 k1_1; have n2 : K ≠ 2 := hkb 2 k1_2; have n3 : K ≠ 3 := hkb 3 k1_3; have n4 : K ≠ 4 := hkb 4 k1_4; have n5 : K ≠ 5 := hkb 5 k1_5; simp [wonZ, n1, n2, n3, n4, n5])) rfl
