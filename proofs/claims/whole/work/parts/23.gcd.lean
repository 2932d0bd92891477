def gcdF : Nat → Nat → Nat → Nat
  | 0, x, _ => x
  | f + 1, x, y => if y = 0 then x else gcdF f y (x % y)
theorem gcdF_le : ∀ (f x y : Nat), x < 2 ^ 63 → y < 2 ^ 63 → gcdF f x y < 2 ^ 63
  | 0, x, _, hx, _ => hx
  | f + 1, x, y, hx, hy => by
    show (if y = 0 then x else gcdF f y (x % y)) < _
    split
    · exact hx
    · rename_i h0
      exact gcdF_le f y (x % y) hy (Nat.lt_trans (Nat.mod_lt _ (Nat.pos_of_ne_zero h0)) hy)
def gcdS : Nat → Nat → Nat → Bool
  | 0, _, y => y == 0
  | f + 1, x, y => if y = 0 then true else gcdS f y (x % y)
theorem gcdF_eq : ∀ (f x y : Nat), gcdS f x y = true → gcdF f x y = Nat.gcd x y
  | 0, x, y, h => by
    have : y = 0 := by simpa [gcdS] using h
    subst this
    simp [gcdF]
  | f + 1, x, y, h => by
    show (if y = 0 then x else gcdF f y (x % y)) = _
    by_cases h0 : y = 0
    · rw [if_pos h0, h0, Nat.gcd_zero_right]
    · rw [if_neg h0]
      have h' : gcdS f y (x % y) = true := by
        have h2 := h
        unfold gcdS at h2
        rw [if_neg h0] at h2
        exact h2
      rw [gcdF_eq f y (x % y) h', Nat.gcd_comm y, ← Nat.gcd_rec, Nat.gcd_comm]
theorem gcd_small : ∀ y, y < 122 → ∀ x, x < 122 → gcdS 98 y x = true := by decide +kernel
theorem gcdF_100 {x y : Nat} (h0 : 0 < y) (h : y < 122) : gcdF 100 x y = Nat.gcd x y := by
  refine gcdF_eq 100 x y ?_
  show (if y = 0 then true else gcdS 99 y (x % y)) = true
  rw [if_neg (by omega)]
  have hm : x % y < y := Nat.mod_lt _ h0
  show (if x % y = 0 then true else gcdS 98 (x % y) (y % (x % y))) = true
  split
  · rfl
  · exact gcd_small _ (by omega) _ (by have := Nat.mod_lt y (show 0 < x % y by omega); omega)
theorem lN_Z {n : Nat} (h : n < 2 ^ 63) : (lN n).toInt = (n : Int) := pk_lT h
theorem i64_eqZ {x y : Int64} {X Y : Int} (hx : x.toInt = X) (hy : y.toInt = Y) : x = y ↔ X = Y := by rw [← hx, ← hy]; exact ⟨fun q => by rw [q], fun q => Int64.toInt_inj.mp q⟩
theorem i64_neg {x : Int64} (h1 : -9223372036854775808 < x.toInt) : (-x).toInt = -x.toInt := by
  have := x.toInt_lt
  rw [Int64.toInt_neg]; exact Int.bmod_eq_of_le (by omega) (by omega)
theorem i64_nat {x : Int64} {n : Nat} (h : x.toInt = n) : x = lN n := by
  have hx := i64_lo x
  exact (i64_eqZ h (lN_Z (by omega))).mpr rfl
def lowL (a b : Int64) (p : Int32) : Int64 := (if p = 0 then a else b) / lN (Nat.gcd a.toInt.natAbs b.toInt.natAbs)

set_option maxHeartbeats 4000000 in
set_option maxRecDepth 20000 in
theorem l_X12_common {G : GE} (d : Nat) {h : HS} {a b : Int64} : ∀ (f n m : Nat), n < f → m < 2 ^ 63 → n < 2 ^ 63 → En G d miX12_common 17 [.long a, dum, .long b, dum, .long (lN m), dum, .long (lN n), dum, dum, dum] [] h (some (.long (lN (Nat.gcd m n)))) h := by
  intro f
  induction f with
  | zero => intro n m hf; exact absurd hf (Nat.not_lt_zero _)
  | succ f ih =>
  intro n m hf hm hn
  refine e_lload dX12_common_17 rfl ?_
  refine e_lconst (v := 0) dX12_common_19 (by decide) ?_
  refine e_lcmp dX12_common_20 ?_
  refine zi_eq (X := if n = 0 then 0 else 1) (tgt := 42) (by
    by_cases h0 : n = 0
    · subst h0; rw [if_pos rfl, (lg_cmp_eq _ _).mpr (by rfl)]; rfl
    · rw [if_neg h0]
      have : lg_cmp (lN n) 0 = 1 := by
        unfold lg_cmp
        rw [if_pos (show (0 : Int64) < lN n from (pk_lLT (by decide) hn).mpr (by omega))]
      rw [this]; rfl) dX12_common_21 (by decide) (fun c21 => ?_) (fun c21 => ?_)
  · have h0 : n = 0 := by
      by_cases h0 : n = 0
      · exact h0
      · rw [if_neg h0] at c21; cases c21
    subst h0
    refine e_lload dX12_common_42 rfl ?_
    exact z_lret rfl dX12_common_44 (by rw [Nat.gcd_zero_right]) rfl
  · have h0 : 0 < n := by
      by_cases h0 : n = 0
      · rw [if_pos h0] at c21; exact absurd rfl c21
      · omega
    refine e_lload dX12_common_24 rfl ?_
    refine e_lload dX12_common_26 rfl ?_
    refine e_lrem dX12_common_28 (fun q => absurd ((pk_lEQ hn (by decide)).mp q) (by omega)) ?_
    refine e_cl (y := lN (m % n)) (pk_lRem hm h0 hn) ?_
    refine e_lstore dX12_common_29 (Nat.le_of_ble_eq_true rfl) rfl rfl ?_
    refine e_lload dX12_common_31 rfl ?_
    refine e_lstore dX12_common_33 (Nat.le_of_ble_eq_true rfl) rfl rfl ?_
    refine e_lload dX12_common_35 rfl ?_
    refine e_lstore dX12_common_37 (Nat.le_of_ble_eq_true rfl) rfl rfl ?_
    refine e_goto (tgt := 17) dX12_common_39 (by decide) ?_
    have hlt := Nat.mod_lt m h0
    have q := ih (m % n) n (by omega) hn (by omega)
    rw [Nat.gcd_comm, ← Nat.gcd_rec, Nat.gcd_comm] at q
    exact e_wk (lk1 (lk1 (lk1 (lk1 (lk1 (lk1 (lk1 (lk1 (lk0 (lk1 lkn)))))))))) q

set_option maxHeartbeats 4000000 in
set_option maxRecDepth 20000 in
theorem t_X12_common {G : GE} (d : Nat) {h : HS} {a : Int64} {m n : Nat} (ha : a.toInt.natAbs = m) (hm : m < 2 ^ 62) (hn : n < 2 ^ 62) : CE G (d + 0) yX12_common miX12_common [.long a, .long (lN n)] h (some (.long (lN (Nat.gcd m n)))) (h) := by
  refine ce_of rfl (by decide) (fun q => by first | rfl | cases q) (Nat.le_of_ble_eq_true rfl) rfl ?_
  refine e_lload_n dX12_common_0 rfl ?_
  refine e_lconst (v := 0) dX12_common_1 (by decide) ?_
  refine e_lcmp dX12_common_2 ?_
  refine e_if_ge (tgt := 11) dX12_common_3 (by decide) (fun c3 => ?_) (fun c3 => ?_)
  · refine e_lload_n dX12_common_11 rfl ?_
    refine e_cl (y := lN m) (i64_nat (by have q := Int64.le_iff_toInt_le.mp ((lg_cmp_ge _ _).mp c3); have : (0 : Int64).toInt = 0 := rfl; omega)) ?_
    refine e_lstore dX12_common_12 (Nat.le_of_ble_eq_true rfl) rfl rfl ?_
    refine e_lload_n dX12_common_14 rfl ?_
    refine e_lstore dX12_common_15 (Nat.le_of_ble_eq_true rfl) rfl rfl ?_
    exact l_X12_common (d + 0) (n + 1) n m (by omega) (by omega) (by omega)
  · refine e_lload_n dX12_common_6 rfl ?_
    refine e_lneg dX12_common_7 ?_
    refine e_cl (y := lN m) (i64_nat (by have q := Int64.lt_iff_toInt_lt.mp ((lg_cmp_lt _ _).mp (Int32.not_le.mp c3)); rw [i64_neg (by omega)]; have : (0 : Int64).toInt = 0 := rfl; omega)) ?_
    refine e_goto (tgt := 12) dX12_common_8 (by decide) ?_
    refine e_lstore dX12_common_12 (Nat.le_of_ble_eq_true rfl) rfl rfl ?_
    refine e_lload_n dX12_common_14 rfl ?_
    refine e_lstore dX12_common_15 (Nat.le_of_ble_eq_true rfl) rfl rfl ?_
    exact l_X12_common (d + 0) (n + 1) n m (by omega) (by omega) (by omega)

set_option maxHeartbeats 4000000 in
set_option maxRecDepth 20000 in
theorem t_X12_lowest {G : GE} (d : Nat) {h : HS} {a : Int64} {n : Nat} {p : Int32} (ha : a.toInt.natAbs < 2 ^ 62) (h0 : 0 < n) (hn : n < 2 ^ 62) : CE G (d + 1) yX12_lowest miX12_lowest [.long a, .long (lN n), .int p] h (some (.long (lowL a (lN n) p))) (h) := by
  refine ce_of rfl (by decide) (fun q => by first | rfl | cases q) (Nat.le_of_ble_eq_true rfl) rfl ?_
  refine e_iload dX12_lowest_0 rfl ?_
  refine e_if_ne (tgt := 9) dX12_lowest_2 (by decide) (fun c2 => ?_) (fun c2 => ?_)
  · refine e_lload_n dX12_lowest_9 rfl ?_
    refine e_lload_n dX12_lowest_10 rfl ?_
    refine e_lload_n dX12_lowest_11 rfl ?_
    refine s1 lmX12_183 lsX12_common msX12_common dX12_lowest_12 (t_X12_common (d + 0) (m := a.toInt.natAbs) rfl ha hn) rfl (Nat.le_of_ble_eq_true rfl) (by omega) ?_
    refine e_ldiv dX12_lowest_15 (fun q => by have h2 := Nat.gcd_pos_of_pos_right a.toInt.natAbs h0; have h3 := Nat.gcd_le_right a.toInt.natAbs h0; have := (pk_lEQ (show Nat.gcd a.toInt.natAbs n < 2 ^ 63 by omega) (by decide)).mp q; omega) ?_
    exact z_lret rfl dX12_lowest_16 (by unfold lowL; rw [lN_Z (by omega), Int.natAbs_natCast]; first | rw [if_neg c2] | rw [if_pos c2]) rfl
  · refine e_lload_n dX12_lowest_5 rfl ?_
    refine e_goto (tgt := 10) dX12_lowest_6 (by decide) ?_
    refine e_lload_n dX12_lowest_10 rfl ?_
    refine e_lload_n dX12_lowest_11 rfl ?_
    refine s1 lmX12_183 lsX12_common msX12_common dX12_lowest_12 (t_X12_common (d + 0) (m := a.toInt.natAbs) rfl ha hn) rfl (Nat.le_of_ble_eq_true rfl) (by omega) ?_
    refine e_ldiv dX12_lowest_15 (fun q => by have h2 := Nat.gcd_pos_of_pos_right a.toInt.natAbs h0; have h3 := Nat.gcd_le_right a.toInt.natAbs h0; have := (pk_lEQ (show Nat.gcd a.toInt.natAbs n < 2 ^ 63 by omega) (by decide)).mp q; omega) ?_
    exact z_lret rfl dX12_lowest_16 (by unfold lowL; rw [lN_Z (by omega), Int.natAbs_natCast]; first | rw [if_neg c2] | rw [if_pos c2]) rfl
