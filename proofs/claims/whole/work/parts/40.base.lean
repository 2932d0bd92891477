/-! ===== the functional part: reading over writing, numbers ===== -/
theorem hI_sI {h : HS} {a k b j : Nat} {v : Int32} : hI (sI h a k v) b j = if b = a then (if j = k then v else hI h b j) else hI h b j := Eq.trans rfl rfl
theorem hI_sL {h : HS} {a k b j : Nat} {v : Int64} : hI (sL h a k v) b j = hI h b j := Eq.trans rfl rfl
theorem hI_sR {h : HS} {a k b j : Nat} {v : Option Nat} : hI (sR h a k v) b j = hI h b j := Eq.trans rfl rfl
theorem hL_sI {h : HS} {a k b j : Nat} {v : Int32} : hL (sI h a k v) b j = hL h b j := Eq.trans rfl rfl
theorem hL_sL {h : HS} {a k b j : Nat} {v : Int64} : hL (sL h a k v) b j = if b = a then (if j = k then v else hL h b j) else hL h b j := Eq.trans rfl rfl
theorem hL_sR {h : HS} {a k b j : Nat} {v : Option Nat} : hL (sR h a k v) b j = hL h b j := Eq.trans rfl rfl
theorem hR_sI {h : HS} {a k b j : Nat} {v : Int32} : hR (sI h a k v) b j = hR h b j := Eq.trans rfl rfl
theorem hR_sL {h : HS} {a k b j : Nat} {v : Int64} : hR (sL h a k v) b j = hR h b j := Eq.trans rfl rfl
theorem hR_sR {h : HS} {a k b j : Nat} {v : Option Nat} : hR (sR h a k v) b j = if b = a then (if j = k then v else hR h b j) else hR h b j := Eq.trans rfl rfl
theorem hT_sI {h : HS} {a k b : Nat} {v : Int32} : hT (sI h a k v) b = hT h b := Eq.trans rfl rfl
theorem hT_sL {h : HS} {a k b : Nat} {v : Int64} : hT (sL h a k v) b = hT h b := Eq.trans rfl rfl
theorem hT_sR {h : HS} {a k b : Nat} {v : Option Nat} : hT (sR h a k v) b = hT h b := Eq.trans rfl rfl
theorem hLn_sI {h : HS} {a k b : Nat} {v : Int32} : hLn (sI h a k v) b = hLn h b := Eq.trans rfl rfl
theorem hLn_sL {h : HS} {a k b : Nat} {v : Int64} : hLn (sL h a k v) b = hLn h b := Eq.trans rfl rfl
theorem hLn_sR {h : HS} {a k b : Nat} {v : Option Nat} : hLn (sR h a k v) b = hLn h b := Eq.trans rfl rfl
theorem hN_sI {h : HS} {a k : Nat} {v : Int32} : hN (sI h a k v) = hN h := Eq.trans rfl rfl
theorem hN_sL {h : HS} {a k : Nat} {v : Int64} : hN (sL h a k v) = hN h := Eq.trans rfl rfl
theorem hN_sR {h : HS} {a k : Nat} {v : Option Nat} : hN (sR h a k v) = hN h := Eq.trans rfl rfl
theorem bh_eq {β : Type} (E : HS) (f : HS → β) : bh E f = f E := Eq.trans rfl rfl
theorem om_none {β : Type} {A : β} {B : Nat → β} : om none A B = A := Eq.trans rfl rfl
theorem om_some {β : Type} {a : Nat} {A : β} {B : Nat → β} : om (some a) A B = B a := Eq.trans rfl rfl
def inZ (v l m : Int) : Bool := decide (l ≤ v) && decide (v ≤ m)
theorem inZ_t {v l m : Int} : inZ v l m = true ↔ l ≤ v ∧ v ≤ m := by simp [inZ]
theorem inZ_f {v l m : Int} : inZ v l m = false ↔ v < l ∨ m < v := by
  simp only [inZ, Bool.and_eq_false_iff, decide_eq_false_iff_not]
  omega
theorem i32_lo (x : Int32) : -2147483648 ≤ x.toInt ∧ x.toInt < 2147483648 := ⟨x.le_toInt, x.toInt_lt⟩
theorem i64_lo (x : Int64) : -9223372036854775808 ≤ x.toInt ∧ x.toInt < 9223372036854775808 := ⟨x.le_toInt, x.toInt_lt⟩
theorem i32_addZ {x y : Int32} (h1 : -2147483648 ≤ x.toInt + y.toInt) (h2 : x.toInt + y.toInt < 2147483648) : (x + y).toInt = x.toInt + y.toInt := by
  rw [Int32.toInt_add]; exact Int.bmod_eq_of_le (by omega) (by omega)
theorem i32_subZ {x y : Int32} (h1 : -2147483648 ≤ x.toInt - y.toInt) (h2 : x.toInt - y.toInt < 2147483648) : (x - y).toInt = x.toInt - y.toInt := by
  rw [Int32.toInt_sub]; exact Int.bmod_eq_of_le (by omega) (by omega)
theorem i32_mulZ {x y : Int32} (h1 : -2147483648 ≤ x.toInt * y.toInt) (h2 : x.toInt * y.toInt < 2147483648) : (x * y).toInt = x.toInt * y.toInt := by
  rw [Int32.toInt_mul]; exact Int.bmod_eq_of_le (by omega) (by omega)
theorem i32_negZ {x : Int32} (h1 : -2147483648 < x.toInt) : (-x).toInt = -x.toInt := by
  have := x.toInt_lt
  rw [Int32.toInt_neg]; exact Int.bmod_eq_of_le (by omega) (by omega)
theorem i32_eqZ {x y : Int32} : x = y ↔ x.toInt = y.toInt := ⟨fun q => by rw [q], fun q => Int32.toInt_inj.mp q⟩
theorem i32_divZ {x y : Int32} (h : y.toInt ≠ -1) : (x / y).toInt = x.toInt.tdiv y.toInt := by
  rw [Int32.toInt_div]
  have hx := i32_lo x
  have hy := i32_lo y
  have h2 : (x.toInt.tdiv y.toInt).natAbs ≤ x.toInt.natAbs := by
    rw [Int.natAbs_tdiv]; exact Nat.div_le_self _ _
  by_cases h1 : x.toInt = -2147483648
  · by_cases h3 : y.toInt = 0
    · rw [h3]; simp
    · have h4 : 2 ≤ y.toInt.natAbs ∨ y.toInt = 1 := by omega
      rcases h4 with h4 | h4
      · have h5 : (x.toInt.tdiv y.toInt).natAbs ≤ x.toInt.natAbs / 2 := by
          rw [Int.natAbs_tdiv]; exact Nat.div_le_div_left h4 (by omega)
        exact Int.bmod_eq_of_le (by omega) (by omega)
      · rw [h4, Int.tdiv_one]; exact Int.bmod_eq_of_le (by omega) (by omega)
  · exact Int.bmod_eq_of_le (by omega) (by omega)
theorem i32_remZ {x k : Int32} {q : Int} (hk : k.toInt = q) (h0 : 0 < q) : (x - x / k * k).toInt = x.toInt.tmod q := by
  have hx2 := i32_lo x
  have hk2 := i32_lo k
  generalize hX : x.toInt = X at *
  have hd : (x / k).toInt = X.tdiv q := by rw [i32_divZ (by omega), hX, hk]
  have he := Int.tmod_add_mul_tdiv X q
  have hm1 := Int.tmod_lt_of_pos X h0
  have hm2 := Int.lt_tmod_of_pos X h0
  have hmul : (x / k).toInt * k.toInt = X - X.tmod q := by rw [hd, hk, Int.mul_comm]; omega
  have hsg : (0 ≤ X → 0 ≤ X.tmod q ∧ X.tmod q ≤ X) ∧ (X < 0 → X.tmod q ≤ 0 ∧ X ≤ X.tmod q) := by
    refine ⟨fun hX => ⟨Int.tmod_nonneg q hX, ?_⟩, fun hX => ?_⟩
    · have := Int.mul_nonneg (Int.le_of_lt h0) (Int.tdiv_nonneg hX (Int.le_of_lt h0))
      omega
    · have e1 : X.tmod q = -((-X).tmod q) := by rw [Int.neg_tmod, Int.neg_neg]
      have e2 : X.tdiv q = -((-X).tdiv q) := by rw [Int.neg_tdiv, Int.neg_neg]
      have h3 := Int.tmod_nonneg q (show 0 ≤ -X by omega)
      have h4 := Int.mul_nonneg (Int.le_of_lt h0) (Int.tdiv_nonneg (show 0 ≤ -X by omega) (Int.le_of_lt h0))
      rw [e2, Int.mul_neg] at he
      omega
  have hm := i32_mulZ (x := x / k) (y := k) (by rw [hmul]; omega) (by rw [hmul]; omega)
  rw [hmul] at hm
  rw [i32_subZ (by rw [hm, hX]; omega) (by rw [hm, hX]; omega), hm, hX]
  omega
theorem i32_d100 {x : Int32} (h0 : 0 ≤ x.toInt) : (x / 100).toInt = x.toInt / 100 := by
  rw [i32_divZ (by decide), Int.tdiv_eq_ediv_of_nonneg h0]; rfl
theorem i32_r100 {x : Int32} (h0 : 0 ≤ x.toInt) : (x - x / 100 * 100).toInt = x.toInt % 100 := by
  rw [i32_remZ (q := 100) rfl (by decide), Int.tmod_eq_emod_of_nonneg h0]
theorem nI_Z {n : Nat} (h : n < 2 ^ 31) : (nI n).toInt = (n : Int) := nI_toInt h
/-- an index that is told: one of those that there are, or not -/
theorem ix_case (s : Int32) (n : Nat) : (∃ i, i < n ∧ s = nI i ∧ inZ s.toInt 0 (n - 1) = true) ∨ inZ s.toInt 0 (n - 1) = false := by
  cases hz : inZ s.toInt 0 (n - 1) with
  | false => exact Or.inr rfl
  | true =>
    obtain ⟨h1, h2⟩ := inZ_t.mp hz
    have hs := i32_lo s
    refine Or.inl ⟨s.toInt.toNat, by omega, ?_, rfl⟩
    rw [i32_eqZ, nI_Z (by omega)]
    omega
theorem ixb_n {i n : Nat} (h : i < n) (hn : n ≤ 1000) : ixb (nI i) n = true := by
  unfold ixb
  rw [nI_clamp (by omega)]
  have := nI_pos (n := i) (by omega)
  simp [h, this]
def plB (p : Int32) : Bool := decide (0 ≤ p.toInt) && decide (p.toInt / 100 < 20) && decide (p.toInt % 100 < 20)
theorem plB_t {p : Int32} (h : plB p = true) : 0 ≤ p.toInt ∧ p.toInt < 2000 ∧ p.toInt / 100 < 20 ∧ p.toInt % 100 < 20 := by
  simp only [plB, Bool.and_eq_true, decide_eq_true_eq] at h
  omega
theorem i32_lt0 {x y : Int32} : x < y ↔ x.toInt < y.toInt := Int32.lt_iff_toInt_lt
theorem i32_le0 {x y : Int32} : x ≤ y ↔ x.toInt ≤ y.toInt := Int32.le_iff_toInt_le
theorem i64_lt0 {x y : Int64} : x < y ↔ x.toInt < y.toInt := Int64.lt_iff_toInt_lt
theorem i64_le0 {x y : Int64} : x ≤ y ↔ x.toInt ≤ y.toInt := Int64.le_iff_toInt_le
theorem z_0 : (0 : Int32).toInt = 0 := rfl
theorem f_in_eq (p l m : Int64) : f_X12_in p l m = some (inZ p.toInt l.toInt m.toInt) := by
  unfold f_X12_in inZ
  simp only [i64_lt0]
  by_cases h1 : p.toInt < l.toInt
  · simp [h1]; omega
  · by_cases h2 : m.toInt < p.toInt
    · simp [h1, h2]
    · simp [h1, h2]
      omega
theorem f_isIn_eq (p l m : Int32) : f_X11_isIn p l m = some (inZ p.toInt l.toInt m.toInt) := by
  unfold f_X11_isIn inZ
  simp only [i32_lt0]
  by_cases h1 : p.toInt < l.toInt
  · simp [h1]; omega
  · by_cases h2 : m.toInt < p.toInt
    · simp [h1, h2]
    · simp [h1, h2]
      omega
theorem f_pl12_eq (p : Int32) : f_X12_isPlace p = some (plB p) := by
  unfold f_X12_isPlace plB
  simp only [i32_lt0, i32_le0, z_0]
  by_cases h1 : p.toInt < 0
  · rw [if_pos h1]; simp; omega
  · rw [if_neg h1, i32_d100 (by omega), i32_r100 (by omega)]
    have e : (20 : Int32).toInt = 20 := rfl
    rw [e]
    by_cases h2 : 20 ≤ p.toInt / 100
    · rw [if_pos h2]; simp; omega
    · rw [if_neg h2]
      by_cases h3 : 20 ≤ p.toInt % 100
      · rw [if_pos h3]; simp; omega
      · rw [if_neg h3]; simp; omega
theorem f_pl11_eq (p : Int32) : f_X11_isPlace p = some (plB p) := by
  rw [← f_pl12_eq]
  rfl
/-! tables -/
abbrev TB : Type := Nat × (Nat → Nat → Int32)
def tpush (t : TB) (r : Nat → Int32) : TB := (t.1 + 1, fun f i => if i = t.1 then r f else t.2 f i)
def tset (t : TB) (f i : Nat) (v : Int32) : TB := (t.1, fun g j => if g = f then (if j = i then v else t.2 g j) else t.2 g j)
/-- to which group of the reference's state a cell belongs: 1 stalls, 2 hands, 3 tries, 4 tests, 5 tape, 6 texts, 7 image, 8 sheets, 0 none, 99 not the reference's -/
def grp (a k : Nat) : Nat :=
  if a = 60 then (if k = 14 then 1 else if k = 18 then 2 else if k = 25 then 3 else if k = 44 then 4 else if k = 6 then 5 else if k = 3 then 6 else if k = 4 then 6 else if k = 49 then 7 else if k = 50 then 7 else if k = 51 then 7 else if k = 52 then 7 else 0)
  else if a < 60 then 99 else if a ≤ 62 then 6 else if a = 63 then 5 else if a ≤ 70 then 1 else if a ≤ 73 then 2 else if a ≤ 78 then 3 else if a ≤ 80 then 4 else if a ≤ 83 then 0 else if a = 84 then 7 else if a ≤ 88 then 8 else 99
/-- nothing is changed but what belongs to group g or to none -/
def Fr (g : Nat) (h h' : HS) : Prop := hN h' = hN h ∧ hS h' = hS h ∧ hT h' = hT h ∧ hLn h' = hLn h ∧ hR h' = hR h ∧ (∀ a k, grp a k ≠ g → grp a k ≠ 0 → hI h' a k = hI h a k) ∧ ∀ a k, grp a k ≠ g → grp a k ≠ 0 → hL h' a k = hL h a k
theorem Fr.rf {g : Nat} {h : HS} : Fr g h h := ⟨rfl, rfl, rfl, rfl, rfl, fun _ _ _ _ => rfl, fun _ _ _ _ => rfl⟩
theorem Fr.tr {g : Nat} {h h1 h2 : HS} (e : Fr g h h1) (f : Fr g h1 h2) : Fr g h h2 := ⟨f.1.trans e.1, f.2.1.trans e.2.1, f.2.2.1.trans e.2.2.1, f.2.2.2.1.trans e.2.2.2.1, f.2.2.2.2.1.trans e.2.2.2.2.1, fun a k h1 h2 => (f.2.2.2.2.2.1 a k h1 h2).trans (e.2.2.2.2.2.1 a k h1 h2), fun a k h1 h2 => (f.2.2.2.2.2.2 a k h1 h2).trans (e.2.2.2.2.2.2 a k h1 h2)⟩
theorem Fr.sI {g : Nat} {h h1 : HS} {a k : Nat} {v : Int32} (e : Fr g h h1) (q : grp a k = g ∨ grp a k = 0) : Fr g h (sI h1 a k v) := ⟨e.1, e.2.1, e.2.2.1, e.2.2.2.1, e.2.2.2.2.1, fun b j h1 h2 => by
  rw [hI_sI]
  split
  · split
    · rename_i e1 e2
      subst e1; subst e2
      rcases q with q | q
      · exact absurd q h1
      · exact absurd q h2
    · exact e.2.2.2.2.2.1 _ _ h1 h2
  · exact e.2.2.2.2.2.1 _ _ h1 h2, e.2.2.2.2.2.2⟩
theorem Fr.sL {g : Nat} {h h1 : HS} {a k : Nat} {v : Int64} (e : Fr g h h1) (q : grp a k = g ∨ grp a k = 0) : Fr g h (sL h1 a k v) := ⟨e.1, e.2.1, e.2.2.1, e.2.2.2.1, e.2.2.2.2.1, e.2.2.2.2.2.1, fun b j h1 h2 => by
  rw [hL_sL]
  split
  · split
    · rename_i e1 e2
      subst e1; subst e2
      rcases q with q | q
      · exact absurd q h1
      · exact absurd q h2
    · exact e.2.2.2.2.2.2 _ _ h1 h2
  · exact e.2.2.2.2.2.2 _ _ h1 h2⟩
theorem Fr.of0 {g : Nat} {h h1 : HS} (e : Fr 0 h h1) : Fr g h h1 := ⟨e.1, e.2.1, e.2.2.1, e.2.2.2.1, e.2.2.2.2.1, fun a k _ h2 => e.2.2.2.2.2.1 a k h2 h2, fun a k _ h2 => e.2.2.2.2.2.2 a k h2 h2⟩
