theorem i32_ne {x y : Int32} (h : ¬ x = y) : x.toInt ≠ y.toInt := fun q => h (Int32.toInt_inj.mp q)
theorem rB1 {b : Bool} (h : b = true) : (some (.int (b2i b)) : Option Value) = some (.int 1) := by rw [h]; rfl
theorem rB0 {b : Bool} (h : b = false) : (some (.int (b2i b)) : Option Value) = some (.int 0) := by rw [h]; rfl
def inZ (v l m : Int) : Bool := decide (l ≤ v) && decide (v ≤ m)
theorem inZ_t {v l m : Int} (h : inZ v l m = true) : l ≤ v ∧ v ≤ m := by simpa [inZ] using h
theorem inZ_f {v l m : Int} (h : inZ v l m = false) : v < l ∨ m < v := by
  simp only [inZ, Bool.and_eq_false_iff, decide_eq_false_iff_not] at h
  omega
theorem inZ_T {v l m : Int} (h1 : l ≤ v) (h2 : v ≤ m) : inZ v l m = true := by simp [inZ, h1, h2]
theorem inZ_F {v l m : Int} (h1 : v < l ∨ m < v) : inZ v l m = false := by
  simp only [inZ, Bool.and_eq_false_iff, decide_eq_false_iff_not]
  omega
def plB (p : Int32) : Bool := decide (¬ p < 0) && decide (¬ 20 ≤ p / 100) && decide (¬ 20 ≤ p - p / 100 * 100)
def bitB (v : Int32) : Bool := decide (v = 0) || decide (v = 1)
def ofB (s i : Int32) : Bool := decide ((s >>> (i &&& 31)) &&& 1 = 1)
theorem lgc0 {x y : Int64} : lg_cmp x y = 0 ↔ x = y := by
  unfold lg_cmp
  by_cases h1 : x > y
  · rw [if_pos h1]
    exact ⟨fun q => absurd q (by decide), fun q => by subst q; exact absurd h1 (Int64.lt_irrefl _)⟩
  · rw [if_neg h1]
    by_cases h2 : x = y
    · rw [if_pos h2]; exact ⟨fun _ => h2, fun _ => rfl⟩
    · rw [if_neg h2]; exact ⟨fun q => absurd q (by decide), fun q => absurd q h2⟩
def quoL (v w : Int64) : Int64 := if w = 0 then 0 else v / w
def remL (v w : Int64) : Int64 := if w = 0 then 0 else v - v / w * w

set_option maxHeartbeats 4000000 in
set_option maxRecDepth 20000 in
theorem t_X11_isIn {G : GE} (d : Nat) {h : HS} {v l m : Int32} {L M : Int} (hl : l.toInt = L) (hm : m.toInt = M) : CE G (d + 0) yX11_isIn miX11_isIn [.int v, .int l, .int m] h (some (.int (b2i (inZ v.toInt L M)))) (h) := by
  refine ce_of rfl (by decide) (fun q => by first | rfl | cases q) (Nat.le_of_ble_eq_true rfl) rfl ?_
  refine e_iload_n dX11_isIn_0 rfl ?_
  refine e_iload_n dX11_isIn_1 rfl ?_
  refine e_icmp_lt (tgt := 14) dX11_isIn_2 (by decide) (fun c2 => ?_) (fun c2 => ?_)
  · refine e_iconst (v := 0) dX11_isIn_14 (by decide) ?_
    exact z_iret rfl rfl dX11_isIn_15 (rB0 (by simp only [Int32.lt_iff_toInt_lt, Int32.le_iff_toInt_le] at *; subst hl hm; first | exact inZ_T (by omega) (by omega) | exact inZ_F (by omega))) rfl
  · refine e_iload_n dX11_isIn_5 rfl ?_
    refine e_iload_n dX11_isIn_6 rfl ?_
    refine e_icmp_gt (tgt := 14) dX11_isIn_7 (by decide) (fun c7 => ?_) (fun c7 => ?_)
    · refine e_iconst (v := 0) dX11_isIn_14 (by decide) ?_
      exact z_iret rfl rfl dX11_isIn_15 (rB0 (by simp only [Int32.lt_iff_toInt_lt, Int32.le_iff_toInt_le] at *; subst hl hm; first | exact inZ_T (by omega) (by omega) | exact inZ_F (by omega))) rfl
    · refine e_iconst (v := 1) dX11_isIn_10 (by decide) ?_
      refine e_goto (tgt := 15) dX11_isIn_11 (by decide) ?_
      exact z_iret rfl rfl dX11_isIn_15 (rB1 (by simp only [Int32.lt_iff_toInt_lt, Int32.le_iff_toInt_le] at *; subst hl hm; first | exact inZ_T (by omega) (by omega) | exact inZ_F (by omega))) rfl

set_option maxHeartbeats 4000000 in
set_option maxRecDepth 20000 in
theorem t_X11_isPlace {G : GE} (d : Nat) {h : HS} {p : Int32} : CE G (d + 0) yX11_isPlace miX11_isPlace [.int p] h (some (.int (b2i (plB p)))) (h) := by
  refine ce_of rfl (by decide) (fun q => by first | rfl | cases q) (Nat.le_of_ble_eq_true rfl) rfl ?_
  refine e_iload_n dX11_isPlace_0 rfl ?_
  refine e_if_lt (tgt := 26) dX11_isPlace_1 (by decide) (fun c1 => ?_) (fun c1 => ?_)
  · refine e_iconst (v := 0) dX11_isPlace_26 (by decide) ?_
    exact z_iret rfl rfl dX11_isPlace_27 (rB0 (by simp [plB, *])) rfl
  · refine e_iload_n dX11_isPlace_4 rfl ?_
    refine e_bipush (v := 100) dX11_isPlace_5 (by decide) ?_
    refine e_idiv dX11_isPlace_7 (by decide) ?_
    refine e_bipush (v := 20) dX11_isPlace_8 (by decide) ?_
    refine e_icmp_ge (tgt := 26) dX11_isPlace_10 (by decide) (fun c10 => ?_) (fun c10 => ?_)
    · refine e_iconst (v := 0) dX11_isPlace_26 (by decide) ?_
      exact z_iret rfl rfl dX11_isPlace_27 (rB0 (by simp [plB, *])) rfl
    · refine e_iload_n dX11_isPlace_13 rfl ?_
      refine e_bipush (v := 100) dX11_isPlace_14 (by decide) ?_
      refine e_irem dX11_isPlace_16 (by decide) ?_
      refine e_bipush (v := 20) dX11_isPlace_17 (by decide) ?_
      refine e_icmp_ge (tgt := 26) dX11_isPlace_19 (by decide) (fun c19 => ?_) (fun c19 => ?_)
      · refine e_iconst (v := 0) dX11_isPlace_26 (by decide) ?_
        exact z_iret rfl rfl dX11_isPlace_27 (rB0 (by simp [plB, *])) rfl
      · refine e_iconst (v := 1) dX11_isPlace_22 (by decide) ?_
        refine e_goto (tgt := 27) dX11_isPlace_23 (by decide) ?_
        exact z_iret rfl rfl dX11_isPlace_27 (rB1 (by simp [plB, *])) rfl

set_option maxHeartbeats 4000000 in
set_option maxRecDepth 20000 in
theorem t_X11_isSeed {G : GE} (d : Nat) {h : HS} {p : Int32} : CE G (d + 1) yX11_isSeed miX11_isSeed [.int p] h (some (.int (b2i (inZ p.toInt 0 99999)))) (h) := by
  refine ce_of rfl (by decide) (fun q => by first | rfl | cases q) (Nat.le_of_ble_eq_true rfl) rfl ?_
  refine e_iload_n dX11_isSeed_0 rfl ?_
  refine e_iconst (v := 0) dX11_isSeed_1 (by decide) ?_
  refine e_ldcw lkX11_434 dX11_isSeed_2 ?_
  refine s1 lmX11_106 lsX11_isIn msX11_isIn dX11_isSeed_5 (t_X11_isIn (d + 0) (L := 0) (M := 99999) rfl rfl) rfl (Nat.le_of_ble_eq_true rfl) (by omega) ?_
  exact z_bret rfl dX11_isSeed_8 (by rfl) rfl

set_option maxHeartbeats 4000000 in
set_option maxRecDepth 20000 in
theorem t_X11_isBit {G : GE} (d : Nat) {h : HS} {p : Int32} : CE G (d + 0) yX11_isBit miX11_isBit [.int p] h (some (.int (b2i (bitB p)))) (h) := by
  refine ce_of rfl (by decide) (fun q => by first | rfl | cases q) (Nat.le_of_ble_eq_true rfl) rfl ?_
  refine e_iload_n dX11_isBit_0 rfl ?_
  refine e_if_eq (tgt := 9) dX11_isBit_1 (by decide) (fun c1 => ?_) (fun c1 => ?_)
  · refine e_iconst (v := 1) dX11_isBit_9 (by decide) ?_
    refine e_goto (tgt := 14) dX11_isBit_10 (by decide) ?_
    exact z_iret rfl rfl dX11_isBit_14 (rB1 (by simp [bitB, *])) rfl
  · refine e_iload_n dX11_isBit_4 rfl ?_
    refine e_iconst (v := 1) dX11_isBit_5 (by decide) ?_
    refine e_icmp_ne (tgt := 13) dX11_isBit_6 (by decide) (fun c6 => ?_) (fun c6 => ?_)
    · refine e_iconst (v := 0) dX11_isBit_13 (by decide) ?_
      exact z_iret rfl rfl dX11_isBit_14 (rB0 (by simp [bitB, *])) rfl
    · refine e_iconst (v := 1) dX11_isBit_9 (by decide) ?_
      refine e_goto (tgt := 14) dX11_isBit_10 (by decide) ?_
      exact z_iret rfl rfl dX11_isBit_14 (rB1 (by simp [bitB, *])) rfl

set_option maxHeartbeats 4000000 in
set_option maxRecDepth 20000 in
theorem t_X11_isOf {G : GE} (d : Nat) {h : HS} {s i : Int32} : CE G (d + 0) yX11_isOf miX11_isOf [.int s, .int i] h (some (.int (b2i (ofB s i)))) (h) := by
  refine ce_of rfl (by decide) (fun q => by first | rfl | cases q) (Nat.le_of_ble_eq_true rfl) rfl ?_
  refine e_iload_n dX11_isOf_0 rfl ?_
  refine e_iload_n dX11_isOf_1 rfl ?_
  refine e_ishr dX11_isOf_2 ?_
  refine e_iconst (v := 1) dX11_isOf_3 (by decide) ?_
  refine e_iand dX11_isOf_4 ?_
  refine e_iconst (v := 1) dX11_isOf_5 (by decide) ?_
  refine e_icmp_ne (tgt := 13) dX11_isOf_6 (by decide) (fun c6 => ?_) (fun c6 => ?_)
  · refine e_iconst (v := 0) dX11_isOf_13 (by decide) ?_
    exact z_iret rfl rfl dX11_isOf_14 (rB0 (by simp [ofB, *])) rfl
  · refine e_iconst (v := 1) dX11_isOf_9 (by decide) ?_
    refine e_goto (tgt := 14) dX11_isOf_10 (by decide) ?_
    exact z_iret rfl rfl dX11_isOf_14 (rB1 (by simp [ofB, *])) rfl

set_option maxHeartbeats 4000000 in
set_option maxRecDepth 20000 in
theorem t_X11_asBit {G : GE} (d : Nat) {h : HS} {b : Bool} : CE G (d + 0) yX11_asBit miX11_asBit [.int (b2i b)] h (some (.int (b2i b))) (h) := by
  refine ce_of rfl (by decide) (fun q => by first | rfl | cases q) (Nat.le_of_ble_eq_true rfl) rfl ?_
  refine e_iload_n dX11_asBit_0 rfl ?_
  refine e_ifB_eq (tgt := 8) dX11_asBit_1 (by decide) (fun c1 => ?_) (fun c1 => ?_)
  · refine e_iconst (v := 0) dX11_asBit_8 (by decide) ?_
    exact z_iret rfl rfl dX11_asBit_9 (by cases b <;> first | rfl | cases c1) rfl
  · refine e_iconst (v := 1) dX11_asBit_4 (by decide) ?_
    refine e_goto (tgt := 9) dX11_asBit_5 (by decide) ?_
    exact z_iret rfl rfl dX11_asBit_9 (by cases b <;> first | rfl | cases c1) rfl

set_option maxHeartbeats 4000000 in
set_option maxRecDepth 20000 in
theorem t_X11_quotient {G : GE} (d : Nat) {h : HS} {v w : Int64} : CE G (d + 0) yX11_quotient miX11_quotient [.long v, .long w] h (some (.long (quoL v w))) (h) := by
  refine ce_of rfl (by decide) (fun q => by first | rfl | cases q) (Nat.le_of_ble_eq_true rfl) rfl ?_
  refine e_lload_n dX11_quotient_0 rfl ?_
  refine e_lconst (v := 0) dX11_quotient_1 (by decide) ?_
  refine e_lcmp dX11_quotient_2 ?_
  refine e_if_ne (tgt := 10) dX11_quotient_3 (by decide) (fun c3 => ?_) (fun c3 => ?_)
  · refine e_lload_n dX11_quotient_10 rfl ?_
    refine e_lload_n dX11_quotient_11 rfl ?_
    refine e_ldiv dX11_quotient_12 (fun q => c3 (lgc0.mpr q)) ?_
    exact z_lret rfl dX11_quotient_13 (by simp only [quoL, ← lgc0]; first | rw [if_pos c3] | rw [if_neg c3]) rfl
  · refine e_lconst (v := 0) dX11_quotient_6 (by decide) ?_
    refine e_goto (tgt := 13) dX11_quotient_7 (by decide) ?_
    exact z_lret rfl dX11_quotient_13 (by simp only [quoL, ← lgc0]; first | rw [if_pos c3] | rw [if_neg c3]) rfl

set_option maxHeartbeats 4000000 in
set_option maxRecDepth 20000 in
theorem t_X11_remainder {G : GE} (d : Nat) {h : HS} {v w : Int64} : CE G (d + 0) yX11_remainder miX11_remainder [.long v, .long w] h (some (.long (remL v w))) (h) := by
  refine ce_of rfl (by decide) (fun q => by first | rfl | cases q) (Nat.le_of_ble_eq_true rfl) rfl ?_
  refine e_lload_n dX11_remainder_0 rfl ?_
  refine e_lconst (v := 0) dX11_remainder_1 (by decide) ?_
  refine e_lcmp dX11_remainder_2 ?_
  refine e_if_ne (tgt := 10) dX11_remainder_3 (by decide) (fun c3 => ?_) (fun c3 => ?_)
  · refine e_lload_n dX11_remainder_10 rfl ?_
    refine e_lload_n dX11_remainder_11 rfl ?_
    refine e_lrem dX11_remainder_12 (fun q => c3 (lgc0.mpr q)) ?_
    exact z_lret rfl dX11_remainder_13 (by simp only [remL, ← lgc0]; first | rw [if_pos c3] | rw [if_neg c3]) rfl
  · refine e_lconst (v := 0) dX11_remainder_6 (by decide) ?_
    refine e_goto (tgt := 13) dX11_remainder_7 (by decide) ?_
    exact z_lret rfl dX11_remainder_13 (by simp only [remL, ← lgc0]; first | rw [if_pos c3] | rw [if_neg c3]) rfl
