theorem i32_ne {x y : Int32} (h : ¬ x = y) : x.toInt ≠ y.toInt := fun q => h (Int32.toInt_inj.mp q)
theorem rB1 {b : Bool} (h : b = true) : (some (.int (b2i b)) : Option Value) = some (.int 1) := by rw [h]; rfl
theorem rB0 {b : Bool} (h : b = false) : (some (.int (b2i b)) : Option Value) = some (.int 0) := by rw [h]; rfl
def inZ (v l m : Int) : Bool := decide (l ≤ v) && decide (v ≤ m)
theorem inZ_t {v l m : Int} (h : inZ v l m = true) : l ≤ v ∧ v ≤ m := by simpa [inZ] using h
theorem inZ_f {v l m : Int} (h : inZ v l m = false) : v < l ∨ m < v := by
  simp only [inZ, Bool.and_eq_false_iff, decide_eq_false_iff_not] at h
  omega
theorem inZ_T {v l m : Int} (h1 : l ≤ v) (h2 : v ≤ m) : inZ v l m = true := by simp [inZ, h1, h2]
theorem inZ_F {v l m : Int} (h1 : v < l ∨ m < v) : inZ v l m = false := by
  simp only [inZ, Bool.and_eq_false_iff, decide_eq_false_iff_not]
  omega
def plB (p : Int32) : Bool := decide (¬ p < 0) && decide (¬ 20 ≤ p / 100) && decide (¬ 20 ≤ p - p / 100 * 100)
def bitB (v : Int32) : Bool := decide (v = 0) || decide (v = 1)
def ofB (s i : Int32) : Bool := decide ((s >>> (i &&& 31)) &&& 1 = 1)
theorem i32_add {x y : Int32} (h1 : -2147483648 ≤ x.toInt + y.toInt) (h2 : x.toInt + y.toInt < 2147483648) : (x + y).toInt = x.toInt + y.toInt := by
  rw [Int32.toInt_add]; exact Int.bmod_eq_of_le (by omega) (by omega)
theorem i32_sub {x y : Int32} (h1 : -2147483648 ≤ x.toInt - y.toInt) (h2 : x.toInt - y.toInt < 2147483648) : (x - y).toInt = x.toInt - y.toInt := by
  rw [Int32.toInt_sub]; exact Int.bmod_eq_of_le (by omega) (by omega)
theorem i32_mul {x y : Int32} (h1 : -2147483648 ≤ x.toInt * y.toInt) (h2 : x.toInt * y.toInt < 2147483648) : (x * y).toInt = x.toInt * y.toInt := by
  rw [Int32.toInt_mul]; exact Int.bmod_eq_of_le (by omega) (by omega)
theorem i32_neg {x : Int32} (h1 : -2147483648 < x.toInt) : (-x).toInt = -x.toInt := by
  have := x.toInt_lt
  rw [Int32.toInt_neg]; exact Int.bmod_eq_of_le (by omega) (by omega)
theorem i32_lo (x : Int32) : -2147483648 ≤ x.toInt ∧ x.toInt < 2147483648 := ⟨x.le_toInt, x.toInt_lt⟩
theorem i64_lo (x : Int64) : -9223372036854775808 ≤ x.toInt ∧ x.toInt < 9223372036854775808 := ⟨x.le_toInt, x.toInt_lt⟩
theorem i64_of (x : Int32) : x.toInt64.toInt = x.toInt := by simp
theorem i32_div {x y : Int32} (h : y.toInt ≠ -1) : (x / y).toInt = x.toInt.tdiv y.toInt := by
  rw [Int32.toInt_div]
  have hx := i32_lo x
  have hy := i32_lo y
  have h2 : (x.toInt.tdiv y.toInt).natAbs ≤ x.toInt.natAbs := by
    rw [Int.natAbs_tdiv]; exact Nat.div_le_self _ _
  by_cases h1 : x.toInt = -2147483648
  · by_cases h3 : y.toInt = 0
    · rw [h3]; simp
    · have h4 : 2 ≤ y.toInt.natAbs ∨ y.toInt = 1 := by omega
      rcases h4 with h4 | h4
      · have h5 : (x.toInt.tdiv y.toInt).natAbs ≤ x.toInt.natAbs / 2 := by
          rw [Int.natAbs_tdiv]; exact Nat.div_le_div_left h4 (by omega)
        exact Int.bmod_eq_of_le (by omega) (by omega)
      · rw [h4, Int.tdiv_one]; exact Int.bmod_eq_of_le (by omega) (by omega)
  · exact Int.bmod_eq_of_le (by omega) (by omega)
def quoL (v w : Int64) : Int64 := if w = 0 then 0 else v / w
def remL (v w : Int64) : Int64 := if w = 0 then 0 else v - v / w * w

theorem i32_eqZ {x y : Int32} {X Y : Int} (hx : x.toInt = X) (hy : y.toInt = Y) : x = y ↔ X = Y := by rw [← hx, ← hy]; exact ⟨fun q => by rw [q], fun q => Int32.toInt_inj.mp q⟩
theorem i32_ltZ {x y : Int32} {X Y : Int} (hx : x.toInt = X) (hy : y.toInt = Y) : x < y ↔ X < Y := by rw [← hx, ← hy]; exact Int32.lt_iff_toInt_lt
theorem i32_leZ {x y : Int32} {X Y : Int} (hx : x.toInt = X) (hy : y.toInt = Y) : x ≤ y ↔ X ≤ Y := by rw [← hx, ← hy]; exact Int32.le_iff_toInt_le

section
variable {G : GE} {d : Nat} {mi : MI} {pc : Nat} {ls st : List Value} {h h' : HS} {r : Option Value}
theorem zc_eq {x y : Int32} {X Y : Int} {off : Int} {tgt : Nat} (hx : x.toInt = X) (hy : y.toInt = Y) (hd : decode mi.2.1 pc = .ok (.if_icmp .eq off, 3)) (ht : (pc : Int) + off = (tgt : Int)) (kt : X = Y → En G d mi tgt ls st h r h') (kf : ¬ (X = Y) → En G d mi (pc + 3) ls st h r h') : En G d mi pc ls (.int y :: .int x :: st) h r h' := e_icmp_eq hd ht (fun q => kt ((i32_eqZ hx hy).mp q)) (fun q => kf (fun z => q ((i32_eqZ hx hy).mpr z)))
theorem zi_eq {x : Int32} {X : Int} {off : Int} {tgt : Nat} (hx : x.toInt = X) (hd : decode mi.2.1 pc = .ok (.ifCond .eq off, 3)) (ht : (pc : Int) + off = (tgt : Int)) (kt : X = 0 → En G d mi tgt ls st h r h') (kf : ¬ (X = 0) → En G d mi (pc + 3) ls st h r h') : En G d mi pc ls (.int x :: st) h r h' := e_if_eq hd ht (fun q => kt ((i32_eqZ hx (rfl : (0 : Int32).toInt = 0)).mp q)) (fun q => kf (fun z => q ((i32_eqZ hx (rfl : (0 : Int32).toInt = 0)).mpr z)))
theorem zc_ne {x y : Int32} {X Y : Int} {off : Int} {tgt : Nat} (hx : x.toInt = X) (hy : y.toInt = Y) (hd : decode mi.2.1 pc = .ok (.if_icmp .ne off, 3)) (ht : (pc : Int) + off = (tgt : Int)) (kt : ¬ X = Y → En G d mi tgt ls st h r h') (kf : X = Y → En G d mi (pc + 3) ls st h r h') : En G d mi pc ls (.int y :: .int x :: st) h r h' := e_icmp_ne hd ht (fun q => kt (fun z => q ((i32_eqZ hx hy).mpr z))) (fun q => kf ((i32_eqZ hx hy).mp q))
theorem zi_ne {x : Int32} {X : Int} {off : Int} {tgt : Nat} (hx : x.toInt = X) (hd : decode mi.2.1 pc = .ok (.ifCond .ne off, 3)) (ht : (pc : Int) + off = (tgt : Int)) (kt : ¬ X = 0 → En G d mi tgt ls st h r h') (kf : X = 0 → En G d mi (pc + 3) ls st h r h') : En G d mi pc ls (.int x :: st) h r h' := e_if_ne hd ht (fun q => kt (fun z => q ((i32_eqZ hx rfl).mpr z))) (fun q => kf ((i32_eqZ hx rfl).mp q))
theorem zc_lt {x y : Int32} {X Y : Int} {off : Int} {tgt : Nat} (hx : x.toInt = X) (hy : y.toInt = Y) (hd : decode mi.2.1 pc = .ok (.if_icmp .lt off, 3)) (ht : (pc : Int) + off = (tgt : Int)) (kt : X < Y → En G d mi tgt ls st h r h') (kf : ¬ (X < Y) → En G d mi (pc + 3) ls st h r h') : En G d mi pc ls (.int y :: .int x :: st) h r h' := e_icmp_lt hd ht (fun q => kt ((i32_ltZ hx hy).mp q)) (fun q => kf (fun z => q ((i32_ltZ hx hy).mpr z)))
theorem zi_lt {x : Int32} {X : Int} {off : Int} {tgt : Nat} (hx : x.toInt = X) (hd : decode mi.2.1 pc = .ok (.ifCond .lt off, 3)) (ht : (pc : Int) + off = (tgt : Int)) (kt : X < 0 → En G d mi tgt ls st h r h') (kf : ¬ (X < 0) → En G d mi (pc + 3) ls st h r h') : En G d mi pc ls (.int x :: st) h r h' := e_if_lt hd ht (fun q => kt ((i32_ltZ hx (rfl : (0 : Int32).toInt = 0)).mp q)) (fun q => kf (fun z => q ((i32_ltZ hx (rfl : (0 : Int32).toInt = 0)).mpr z)))
theorem zc_ge {x y : Int32} {X Y : Int} {off : Int} {tgt : Nat} (hx : x.toInt = X) (hy : y.toInt = Y) (hd : decode mi.2.1 pc = .ok (.if_icmp .ge off, 3)) (ht : (pc : Int) + off = (tgt : Int)) (kt : Y ≤ X → En G d mi tgt ls st h r h') (kf : ¬ (Y ≤ X) → En G d mi (pc + 3) ls st h r h') : En G d mi pc ls (.int y :: .int x :: st) h r h' := e_icmp_ge hd ht (fun q => kt ((i32_leZ hy hx).mp q)) (fun q => kf (fun z => q ((i32_leZ hy hx).mpr z)))
theorem zi_ge {x : Int32} {X : Int} {off : Int} {tgt : Nat} (hx : x.toInt = X) (hd : decode mi.2.1 pc = .ok (.ifCond .ge off, 3)) (ht : (pc : Int) + off = (tgt : Int)) (kt : 0 ≤ X → En G d mi tgt ls st h r h') (kf : ¬ (0 ≤ X) → En G d mi (pc + 3) ls st h r h') : En G d mi pc ls (.int x :: st) h r h' := e_if_ge hd ht (fun q => kt ((i32_leZ (rfl : (0 : Int32).toInt = 0) hx).mp q)) (fun q => kf (fun z => q ((i32_leZ (rfl : (0 : Int32).toInt = 0) hx).mpr z)))
theorem zc_gt {x y : Int32} {X Y : Int} {off : Int} {tgt : Nat} (hx : x.toInt = X) (hy : y.toInt = Y) (hd : decode mi.2.1 pc = .ok (.if_icmp .gt off, 3)) (ht : (pc : Int) + off = (tgt : Int)) (kt : Y < X → En G d mi tgt ls st h r h') (kf : ¬ (Y < X) → En G d mi (pc + 3) ls st h r h') : En G d mi pc ls (.int y :: .int x :: st) h r h' := e_icmp_gt hd ht (fun q => kt ((i32_ltZ hy hx).mp q)) (fun q => kf (fun z => q ((i32_ltZ hy hx).mpr z)))
theorem zi_gt {x : Int32} {X : Int} {off : Int} {tgt : Nat} (hx : x.toInt = X) (hd : decode mi.2.1 pc = .ok (.ifCond .gt off, 3)) (ht : (pc : Int) + off = (tgt : Int)) (kt : 0 < X → En G d mi tgt ls st h r h') (kf : ¬ (0 < X) → En G d mi (pc + 3) ls st h r h') : En G d mi pc ls (.int x :: st) h r h' := e_if_gt hd ht (fun q => kt ((i32_ltZ (rfl : (0 : Int32).toInt = 0) hx).mp q)) (fun q => kf (fun z => q ((i32_ltZ (rfl : (0 : Int32).toInt = 0) hx).mpr z)))
theorem zc_le {x y : Int32} {X Y : Int} {off : Int} {tgt : Nat} (hx : x.toInt = X) (hy : y.toInt = Y) (hd : decode mi.2.1 pc = .ok (.if_icmp .le off, 3)) (ht : (pc : Int) + off = (tgt : Int)) (kt : X ≤ Y → En G d mi tgt ls st h r h') (kf : ¬ (X ≤ Y) → En G d mi (pc + 3) ls st h r h') : En G d mi pc ls (.int y :: .int x :: st) h r h' := e_icmp_le hd ht (fun q => kt ((i32_leZ hx hy).mp q)) (fun q => kf (fun z => q ((i32_leZ hx hy).mpr z)))
theorem zi_le {x : Int32} {X : Int} {off : Int} {tgt : Nat} (hx : x.toInt = X) (hd : decode mi.2.1 pc = .ok (.ifCond .le off, 3)) (ht : (pc : Int) + off = (tgt : Int)) (kt : X ≤ 0 → En G d mi tgt ls st h r h') (kf : ¬ (X ≤ 0) → En G d mi (pc + 3) ls st h r h') : En G d mi pc ls (.int x :: st) h r h' := e_if_le hd ht (fun q => kt ((i32_leZ hx (rfl : (0 : Int32).toInt = 0)).mp q)) (fun q => kf (fun z => q ((i32_leZ hx (rfl : (0 : Int32).toInt = 0)).mpr z)))
end

set_option maxHeartbeats 4000000 in
set_option maxRecDepth 20000 in
theorem t_X11_isIn {G : GE} (d : Nat) {h : HS} {v l m : Int32} {L M : Int} (hl : l.toInt = L) (hm : m.toInt = M) : CE G (d + 0) yX11_isIn miX11_isIn [.int v, .int l, .int m] h (some (.int (b2i (inZ v.toInt L M)))) (h) := by
  refine ce_of rfl (by decide) (fun q => by first | rfl | cases q) (Nat.le_of_ble_eq_true rfl) rfl ?_
  refine e_iload_n dX11_isIn_0 rfl ?_
  refine e_iload_n dX11_isIn_1 rfl ?_
  refine e_icmp_lt (tgt := 14) dX11_isIn_2 (by decide) (fun c2 => ?_) (fun c2 => ?_)
  · refine e_iconst (v := 0) dX11_isIn_14 (by decide) ?_
    exact z_iret rfl rfl dX11_isIn_15 (rB0 (by simp only [Int32.lt_iff_toInt_lt, Int32.le_iff_toInt_le] at *; subst hl hm; first | exact inZ_T (by omega) (by omega) | exact inZ_F (by omega))) rfl
  · refine e_iload_n dX11_isIn_5 rfl ?_
    refine e_iload_n dX11_isIn_6 rfl ?_
    refine e_icmp_gt (tgt := 14) dX11_isIn_7 (by decide) (fun c7 => ?_) (fun c7 => ?_)
    · refine e_iconst (v := 0) dX11_isIn_14 (by decide) ?_
      exact z_iret rfl rfl dX11_isIn_15 (rB0 (by simp only [Int32.lt_iff_toInt_lt, Int32.le_iff_toInt_le] at *; subst hl hm; first | exact inZ_T (by omega) (by omega) | exact inZ_F (by omega))) rfl
    · refine e_iconst (v := 1) dX11_isIn_10 (by decide) ?_
      refine e_goto (tgt := 15) dX11_isIn_11 (by decide) ?_
      exact z_iret rfl rfl dX11_isIn_15 (rB1 (by simp only [Int32.lt_iff_toInt_lt, Int32.le_iff_toInt_le] at *; subst hl hm; first | exact inZ_T (by omega) (by omega) | exact inZ_F (by omega))) rfl

set_option maxHeartbeats 4000000 in
set_option maxRecDepth 20000 in
theorem t_X11_isPlace {G : GE} (d : Nat) {h : HS} {p : Int32} : CE G (d + 0) yX11_isPlace miX11_isPlace [.int p] h (some (.int (b2i (plB p)))) (h) := by
  refine ce_of rfl (by decide) (fun q => by first | rfl | cases q) (Nat.le_of_ble_eq_true rfl) rfl ?_
  refine e_iload_n dX11_isPlace_0 rfl ?_
  refine e_if_lt (tgt := 26) dX11_isPlace_1 (by decide) (fun c1 => ?_) (fun c1 => ?_)
  · refine e_iconst (v := 0) dX11_isPlace_26 (by decide) ?_
    exact z_iret rfl rfl dX11_isPlace_27 (rB0 (by simp [plB, *])) rfl
  · refine e_iload_n dX11_isPlace_4 rfl ?_
    refine e_bipush (v := 100) dX11_isPlace_5 (by decide) ?_
    refine e_idiv dX11_isPlace_7 (by decide) ?_
    refine e_bipush (v := 20) dX11_isPlace_8 (by decide) ?_
    refine e_icmp_ge (tgt := 26) dX11_isPlace_10 (by decide) (fun c10 => ?_) (fun c10 => ?_)
    · refine e_iconst (v := 0) dX11_isPlace_26 (by decide) ?_
      exact z_iret rfl rfl dX11_isPlace_27 (rB0 (by simp [plB, *])) rfl
    · refine e_iload_n dX11_isPlace_13 rfl ?_
      refine e_bipush (v := 100) dX11_isPlace_14 (by decide) ?_
      refine e_irem dX11_isPlace_16 (by decide) ?_
      refine e_bipush (v := 20) dX11_isPlace_17 (by decide) ?_
      refine e_icmp_ge (tgt := 26) dX11_isPlace_19 (by decide) (fun c19 => ?_) (fun c19 => ?_)
      · refine e_iconst (v := 0) dX11_isPlace_26 (by decide) ?_
        exact z_iret rfl rfl dX11_isPlace_27 (rB0 (by simp [plB, *])) rfl
      · refine e_iconst (v := 1) dX11_isPlace_22 (by decide) ?_
        refine e_goto (tgt := 27) dX11_isPlace_23 (by decide) ?_
        exact z_iret rfl rfl dX11_isPlace_27 (rB1 (by simp [plB, *])) rfl

set_option maxHeartbeats 4000000 in
set_option maxRecDepth 20000 in
theorem t_X11_isSeed {G : GE} (d : Nat) {h : HS} {p : Int32} : CE G (d + 1) yX11_isSeed miX11_isSeed [.int p] h (some (.int (b2i (inZ p.toInt 0 99999)))) (h) := by
  refine ce_of rfl (by decide) (fun q => by first | rfl | cases q) (Nat.le_of_ble_eq_true rfl) rfl ?_
  refine e_iload_n dX11_isSeed_0 rfl ?_
  refine e_iconst (v := 0) dX11_isSeed_1 (by decide) ?_
  refine e_ldcw lkX11_434 dX11_isSeed_2 ?_
  refine s1 lmX11_106 lsX11_isIn msX11_isIn dX11_isSeed_5 (t_X11_isIn (d + 0) (L := 0) (M := 99999) rfl rfl) rfl (Nat.le_of_ble_eq_true rfl) (by omega) ?_
  exact z_bret rfl dX11_isSeed_8 (by rfl) rfl

set_option maxHeartbeats 4000000 in
set_option maxRecDepth 20000 in
theorem t_X11_isBit {G : GE} (d : Nat) {h : HS} {p : Int32} : CE G (d + 0) yX11_isBit miX11_isBit [.int p] h (some (.int (b2i (bitB p)))) (h) := by
  refine ce_of rfl (by decide) (fun q => by first | rfl | cases q) (Nat.le_of_ble_eq_true rfl) rfl ?_
  refine e_iload_n dX11_isBit_0 rfl ?_
  refine e_if_eq (tgt := 9) dX11_isBit_1 (by decide) (fun c1 => ?_) (fun c1 => ?_)
  · refine e_iconst (v := 1) dX11_isBit_9 (by decide) ?_
    refine e_goto (tgt := 14) dX11_isBit_10 (by decide) ?_
    exact z_iret rfl rfl dX11_isBit_14 (rB1 (by simp [bitB, *])) rfl
  · refine e_iload_n dX11_isBit_4 rfl ?_
    refine e_iconst (v := 1) dX11_isBit_5 (by decide) ?_
    refine e_icmp_ne (tgt := 13) dX11_isBit_6 (by decide) (fun c6 => ?_) (fun c6 => ?_)
    · refine e_iconst (v := 0) dX11_isBit_13 (by decide) ?_
      exact z_iret rfl rfl dX11_isBit_14 (rB0 (by simp [bitB, *])) rfl
    · refine e_iconst (v := 1) dX11_isBit_9 (by decide) ?_
      refine e_goto (tgt := 14) dX11_isBit_10 (by decide) ?_
      exact z_iret rfl rfl dX11_isBit_14 (rB1 (by simp [bitB, *])) rfl

set_option maxHeartbeats 4000000 in
set_option maxRecDepth 20000 in
theorem t_X11_isOf {G : GE} (d : Nat) {h : HS} {s i : Int32} : CE G (d + 0) yX11_isOf miX11_isOf [.int s, .int i] h (some (.int (b2i (ofB s i)))) (h) := by
  refine ce_of rfl (by decide) (fun q => by first | rfl | cases q) (Nat.le_of_ble_eq_true rfl) rfl ?_
  refine e_iload_n dX11_isOf_0 rfl ?_
  refine e_iload_n dX11_isOf_1 rfl ?_
  refine e_ishr dX11_isOf_2 ?_
  refine e_iconst (v := 1) dX11_isOf_3 (by decide) ?_
  refine e_iand dX11_isOf_4 ?_
  refine e_iconst (v := 1) dX11_isOf_5 (by decide) ?_
  refine e_icmp_ne (tgt := 13) dX11_isOf_6 (by decide) (fun c6 => ?_) (fun c6 => ?_)
  · refine e_iconst (v := 0) dX11_isOf_13 (by decide) ?_
    exact z_iret rfl rfl dX11_isOf_14 (rB0 (by simp [ofB, *])) rfl
  · refine e_iconst (v := 1) dX11_isOf_9 (by decide) ?_
    refine e_goto (tgt := 14) dX11_isOf_10 (by decide) ?_
    exact z_iret rfl rfl dX11_isOf_14 (rB1 (by simp [ofB, *])) rfl

set_option maxHeartbeats 4000000 in
set_option maxRecDepth 20000 in
theorem t_X11_asBit {G : GE} (d : Nat) {h : HS} {b : Bool} : CE G (d + 0) yX11_asBit miX11_asBit [.int (b2i b)] h (some (.int (b2i b))) (h) := by
  refine ce_of rfl (by decide) (fun q => by first | rfl | cases q) (Nat.le_of_ble_eq_true rfl) rfl ?_
  refine e_iload_n dX11_asBit_0 rfl ?_
  refine e_ifB_eq (tgt := 8) dX11_asBit_1 (by decide) (fun c1 => ?_) (fun c1 => ?_)
  · refine e_iconst (v := 0) dX11_asBit_8 (by decide) ?_
    exact z_iret rfl rfl dX11_asBit_9 (by cases b <;> first | rfl | cases c1) rfl
  · refine e_iconst (v := 1) dX11_asBit_4 (by decide) ?_
    refine e_goto (tgt := 9) dX11_asBit_5 (by decide) ?_
    exact z_iret rfl rfl dX11_asBit_9 (by cases b <;> first | rfl | cases c1) rfl

set_option maxHeartbeats 4000000 in
set_option maxRecDepth 20000 in
theorem t_X11_quotient {G : GE} (d : Nat) {h : HS} {v w : Int64} : CE G (d + 0) yX11_quotient miX11_quotient [.long v, .long w] h (some (.long (quoL v w))) (h) := by
  refine ce_of rfl (by decide) (fun q => by first | rfl | cases q) (Nat.le_of_ble_eq_true rfl) rfl ?_
  refine e_lload_n dX11_quotient_0 rfl ?_
  refine e_lconst (v := 0) dX11_quotient_1 (by decide) ?_
  refine e_lcmp dX11_quotient_2 ?_
  refine e_if_ne (tgt := 10) dX11_quotient_3 (by decide) (fun c3 => ?_) (fun c3 => ?_)
  · refine e_lload_n dX11_quotient_10 rfl ?_
    refine e_lload_n dX11_quotient_11 rfl ?_
    refine e_ldiv dX11_quotient_12 (fun q => c3 ((lg_cmp_eq _ _).mpr q)) ?_
    exact z_lret rfl dX11_quotient_13 (by simp only [quoL, ← lg_cmp_eq]; first | rw [if_pos c3] | rw [if_neg c3]) rfl
  · refine e_lconst (v := 0) dX11_quotient_6 (by decide) ?_
    refine e_goto (tgt := 13) dX11_quotient_7 (by decide) ?_
    exact z_lret rfl dX11_quotient_13 (by simp only [quoL, ← lg_cmp_eq]; first | rw [if_pos c3] | rw [if_neg c3]) rfl

set_option maxHeartbeats 4000000 in
set_option maxRecDepth 20000 in
theorem t_X11_remainder {G : GE} (d : Nat) {h : HS} {v w : Int64} : CE G (d + 0) yX11_remainder miX11_remainder [.long v, .long w] h (some (.long (remL v w))) (h) := by
  refine ce_of rfl (by decide) (fun q => by first | rfl | cases q) (Nat.le_of_ble_eq_true rfl) rfl ?_
  refine e_lload_n dX11_remainder_0 rfl ?_
  refine e_lconst (v := 0) dX11_remainder_1 (by decide) ?_
  refine e_lcmp dX11_remainder_2 ?_
  refine e_if_ne (tgt := 10) dX11_remainder_3 (by decide) (fun c3 => ?_) (fun c3 => ?_)
  · refine e_lload_n dX11_remainder_10 rfl ?_
    refine e_lload_n dX11_remainder_11 rfl ?_
    refine e_lrem dX11_remainder_12 (fun q => c3 ((lg_cmp_eq _ _).mpr q)) ?_
    exact z_lret rfl dX11_remainder_13 (by simp only [remL, ← lg_cmp_eq]; first | rw [if_pos c3] | rw [if_neg c3]) rfl
  · refine e_lconst (v := 0) dX11_remainder_6 (by decide) ?_
    refine e_goto (tgt := 13) dX11_remainder_7 (by decide) ?_
    exact z_lret rfl dX11_remainder_13 (by simp only [remL, ← lg_cmp_eq]; first | rw [if_pos c3] | rw [if_neg c3]) rfl

set_option maxHeartbeats 4000000 in
set_option maxRecDepth 20000 in
theorem t_X12_in {G : GE} (d : Nat) {h : HS} {v l m : Int64} {V L M : Int} (hv : v.toInt = V) (hl : l.toInt = L) (hm : m.toInt = M) : CE G (d + 0) yX12_in miX12_in [.long v, .long l, .long m] h (some (.int (b2i (inZ V L M)))) (h) := by
  refine ce_of rfl (by decide) (fun q => by first | rfl | cases q) (Nat.le_of_ble_eq_true rfl) rfl ?_
  refine e_lload_n dX12_in_0 rfl ?_
  refine e_lload_n dX12_in_1 rfl ?_
  refine e_lcmp dX12_in_2 ?_
  refine e_if_lt (tgt := 17) dX12_in_3 (by decide) (fun c3 => ?_) (fun c3 => ?_)
  · refine e_iconst (v := 0) dX12_in_17 (by decide) ?_
    exact z_iret rfl rfl dX12_in_18 (rB0 (by simp only [lg_cmp_lt, lg_cmp_gt, Int64.lt_iff_toInt_lt] at *; subst hv hl hm; first | exact inZ_T (by omega) (by omega) | exact inZ_F (by omega))) rfl
  · refine e_lload_n dX12_in_6 rfl ?_
    refine e_lload dX12_in_7 rfl ?_
    refine e_lcmp dX12_in_9 ?_
    refine e_if_gt (tgt := 17) dX12_in_10 (by decide) (fun c10 => ?_) (fun c10 => ?_)
    · refine e_iconst (v := 0) dX12_in_17 (by decide) ?_
      exact z_iret rfl rfl dX12_in_18 (rB0 (by simp only [lg_cmp_lt, lg_cmp_gt, Int64.lt_iff_toInt_lt] at *; subst hv hl hm; first | exact inZ_T (by omega) (by omega) | exact inZ_F (by omega))) rfl
    · refine e_iconst (v := 1) dX12_in_13 (by decide) ?_
      refine e_goto (tgt := 18) dX12_in_14 (by decide) ?_
      exact z_iret rfl rfl dX12_in_18 (rB1 (by simp only [lg_cmp_lt, lg_cmp_gt, Int64.lt_iff_toInt_lt] at *; subst hv hl hm; first | exact inZ_T (by omega) (by omega) | exact inZ_F (by omega))) rfl

set_option maxHeartbeats 4000000 in
set_option maxRecDepth 20000 in
theorem t_X12_isPlace {G : GE} (d : Nat) {h : HS} {p : Int32} : CE G (d + 0) yX12_isPlace miX12_isPlace [.int p] h (some (.int (b2i (plB p)))) (h) := by
  refine ce_of rfl (by decide) (fun q => by first | rfl | cases q) (Nat.le_of_ble_eq_true rfl) rfl ?_
  refine e_iload_n dX12_isPlace_0 rfl ?_
  refine e_if_lt (tgt := 26) dX12_isPlace_1 (by decide) (fun c1 => ?_) (fun c1 => ?_)
  · refine e_iconst (v := 0) dX12_isPlace_26 (by decide) ?_
    exact z_iret rfl rfl dX12_isPlace_27 (rB0 (by simp [plB, *])) rfl
  · refine e_iload_n dX12_isPlace_4 rfl ?_
    refine e_bipush (v := 100) dX12_isPlace_5 (by decide) ?_
    refine e_idiv dX12_isPlace_7 (by decide) ?_
    refine e_bipush (v := 20) dX12_isPlace_8 (by decide) ?_
    refine e_icmp_ge (tgt := 26) dX12_isPlace_10 (by decide) (fun c10 => ?_) (fun c10 => ?_)
    · refine e_iconst (v := 0) dX12_isPlace_26 (by decide) ?_
      exact z_iret rfl rfl dX12_isPlace_27 (rB0 (by simp [plB, *])) rfl
    · refine e_iload_n dX12_isPlace_13 rfl ?_
      refine e_bipush (v := 100) dX12_isPlace_14 (by decide) ?_
      refine e_irem dX12_isPlace_16 (by decide) ?_
      refine e_bipush (v := 20) dX12_isPlace_17 (by decide) ?_
      refine e_icmp_ge (tgt := 26) dX12_isPlace_19 (by decide) (fun c19 => ?_) (fun c19 => ?_)
      · refine e_iconst (v := 0) dX12_isPlace_26 (by decide) ?_
        exact z_iret rfl rfl dX12_isPlace_27 (rB0 (by simp [plB, *])) rfl
      · refine e_iconst (v := 1) dX12_isPlace_22 (by decide) ?_
        refine e_goto (tgt := 27) dX12_isPlace_23 (by decide) ?_
        exact z_iret rfl rfl dX12_isPlace_27 (rB1 (by simp [plB, *])) rfl

def absI (v : Int32) : Int32 := if 0 ≤ v then v else -v
theorem absI_lt {v : Int32} (h : ¬ 0 ≤ v) : absI v = -v := if_neg h

set_option maxHeartbeats 4000000 in
set_option maxRecDepth 20000 in
theorem t_X12_plain {G : GE} (d : Nat) {h : HS} {v : Int32} : CE G (d + 0) yX12_plain miX12_plain [.int v] h (some (.int (absI v))) (h) := by
  refine ce_of rfl (by decide) (fun q => by first | rfl | cases q) (Nat.le_of_ble_eq_true rfl) rfl ?_
  refine e_iload_n dX12_plain_0 rfl ?_
  refine e_if_ge (tgt := 9) dX12_plain_1 (by decide) (fun c1 => ?_) (fun c1 => ?_)
  · refine e_iload_n dX12_plain_9 rfl ?_
    exact z_iret rfl rfl dX12_plain_10 (by simp only [absI]; first | rw [if_pos c1] | rw [if_neg c1]) rfl
  · refine e_iload_n dX12_plain_4 rfl ?_
    refine e_ineg dX12_plain_5 ?_
    refine e_goto (tgt := 10) dX12_plain_6 (by decide) ?_
    exact z_iret rfl rfl dX12_plain_10 (by simp only [absI]; first | rw [if_pos c1] | rw [if_neg c1]) rfl

def isInB (z a b : Int32) : Bool := decide (¬ z < absI a) && decide (¬ z < absI b)

set_option maxHeartbeats 4000000 in
set_option maxRecDepth 20000 in
theorem t_X12_isIn {G : GE} (d : Nat) {h : HS} {z a b : Int32} : CE G (d + 1) yX12_isIn miX12_isIn [.int z, .int a, .int b] h (some (.int (b2i (isInB z a b)))) (h) := by
  refine ce_of rfl (by decide) (fun q => by first | rfl | cases q) (Nat.le_of_ble_eq_true rfl) rfl ?_
  refine e_iload_n dX12_isIn_0 rfl ?_
  refine s1 lmX12_163 lsX12_plain msX12_plain dX12_isIn_1 (t_X12_plain (d + 0)) rfl (Nat.le_of_ble_eq_true rfl) (by omega) ?_
  refine e_iload_n dX12_isIn_4 rfl ?_
  refine e_icmp_gt (tgt := 20) dX12_isIn_5 (by decide) (fun c5 => ?_) (fun c5 => ?_)
  · refine e_iconst (v := 0) dX12_isIn_20 (by decide) ?_
    exact z_iret rfl rfl dX12_isIn_21 (rB0 (by simp [isInB, *])) rfl
  · refine e_iload_n dX12_isIn_8 rfl ?_
    refine s1 lmX12_163 lsX12_plain msX12_plain dX12_isIn_9 (t_X12_plain (d + 0)) rfl (Nat.le_of_ble_eq_true rfl) (by omega) ?_
    refine e_iload_n dX12_isIn_12 rfl ?_
    refine e_icmp_gt (tgt := 20) dX12_isIn_13 (by decide) (fun c13 => ?_) (fun c13 => ?_)
    · refine e_iconst (v := 0) dX12_isIn_20 (by decide) ?_
      exact z_iret rfl rfl dX12_isIn_21 (rB0 (by simp [isInB, *])) rfl
    · refine e_iconst (v := 1) dX12_isIn_16 (by decide) ?_
      refine e_goto (tgt := 21) dX12_isIn_17 (by decide) ?_
      exact z_iret rfl rfl dX12_isIn_21 (rB1 (by simp [isInB, *])) rfl
