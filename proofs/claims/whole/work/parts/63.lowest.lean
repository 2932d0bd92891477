/-! ===== lowest terms ===== -/
def gcdS : Nat → Nat → Nat → Bool
  | 0, _, y => y == 0
  | f + 1, x, y => if y = 0 then true else gcdS f y (x % y)
theorem gcd_small : ∀ y, y < 122 → ∀ x, x < 122 → gcdS 98 y x = true := by decide +kernel
theorem gcdS_100 {x y : Nat} (h0 : 0 < y) (h : y < 122) : gcdS 100 x y = true := by
  show (if y = 0 then true else gcdS 99 y (x % y)) = true
  rw [if_neg (by omega)]
  have hm : x % y < y := Nat.mod_lt _ h0
  show (if x % y = 0 then true else gcdS 98 (x % y) (y % (x % y))) = true
  split
  · rfl
  · exact gcd_small _ (by omega) _ (by have := Nat.mod_lt y (show 0 < x % y by omega); omega)
theorem i64_eq0 {x y : Int64} : x = y ↔ x.toInt = y.toInt := ⟨fun q => by rw [q], fun q => Int64.toInt_inj.mp q⟩
theorem lN_Z {n : Nat} (h : n < 2 ^ 63) : (lN n).toInt = (n : Int) := pk_lT h
theorem i64_remN {m n : Nat} (hm : m < 2 ^ 63) (hn : n < 2 ^ 63) : lN m - lN m / lN n * lN n = lN (m % n) := by
  have hml : m % n ≤ m := Nat.mod_le m n
  have d : (lN m / lN n).toInt = ((m / n : Nat) : Int) := by
    rw [Int64.toInt_div, lN_Z hm, lN_Z hn, Int.tdiv_eq_ediv_of_nonneg (by omega), ← Int.natCast_ediv]
    have := Nat.div_le_self m n
    generalize m / n = q at *
    exact Int.bmod_eq_of_le (by omega) (by omega)
  have m1 : (lN m / lN n * lN n).toInt = ((m / n * n : Nat) : Int) := by
    rw [Int64.toInt_mul, d, lN_Z hn, ← Int.natCast_mul]
    have := Nat.div_mul_le_self m n
    generalize m / n * n = q at *
    exact Int.bmod_eq_of_le (by omega) (by omega)
  have e := Nat.div_add_mod' m n
  rw [i64_eq0, Int64.toInt_sub, lN_Z hm, m1, lN_Z (by omega)]
  generalize m / n * n = q at *
  generalize m % n = r at *
  have : ((m : Int) - q) = r := by omega
  rw [this]
  exact Int.bmod_eq_of_le (by omega) (by omega)
theorem lN_eq0 {n : Nat} (h : n < 2 ^ 63) : lN n = (0 : Int64) ↔ n = 0 := by
  rw [i64_eq0, lN_Z h, show (0 : Int64).toInt = 0 from rfl]; omega
theorem L_mcommon : ∀ (t f m n : Nat), t < f → m < 2 ^ 63 → n < 2 ^ 63 → gcdS t m n = true → l_X12_common_17 f (lN m) (lN n) = some (lN (Nat.gcd m n)) := by
  intro t
  induction t with
  | zero =>
    intro f m n hf hm hn hg
    obtain ⟨f, rfl⟩ : ∃ f', f = f' + 1 := ⟨f - 1, by omega⟩
    have : n = 0 := by simpa [gcdS] using hg
    subst this
    rw [l_X12_common_17, if_pos ((lN_eq0 hn).mpr rfl), Nat.gcd_zero_right]
  | succ t ih =>
    intro f m n hf hm hn hg
    obtain ⟨f, rfl⟩ : ∃ f', f = f' + 1 := ⟨f - 1, by omega⟩
    by_cases h0 : n = 0
    · subst h0
      rw [l_X12_common_17, if_pos ((lN_eq0 hn).mpr rfl), Nat.gcd_zero_right]
    · have hne : ¬ lN n = (0 : Int64) := fun z => h0 ((lN_eq0 hn).mp z)
      have hg' : gcdS t n (m % n) = true := by
        unfold gcdS at hg
        rw [if_neg h0] at hg
        exact hg
      have hlt : m % n < n := Nat.mod_lt _ (by omega)
      rw [l_X12_common_17, if_neg hne, if_pos hne, i64_remN hm hn, ih f n (m % n) (by omega) hn (by omega) hg', Nat.gcd_comm n, ← Nat.gcd_rec, Nat.gcd_comm]
theorem L_xcommon : ∀ (t c f m n : Nat), c + t = 100 → t < f → m < 2 ^ 63 → n < 2 ^ 63 → gcdS t m n = true → l_X11_commonDivisor_9 f (lN m) (lN n) (nI c) = some (lN (Nat.gcd m n)) := by
  intro t
  induction t with
  | zero =>
    intro c f m n hc hf hm hn hg
    obtain ⟨f, rfl⟩ : ∃ f', f = f' + 1 := ⟨f - 1, by omega⟩
    have : n = 0 := by simpa [gcdS] using hg
    subst this
    have : c = 100 := by omega
    subst this
    rw [l_X11_commonDivisor_9, if_pos (by decide), Nat.gcd_zero_right]
  | succ t ih =>
    intro c f m n hc hf hm hn hg
    obtain ⟨f, rfl⟩ : ∃ f', f = f' + 1 := ⟨f - 1, by omega⟩
    have h100 : ¬ (100 : Int32) ≤ nI c := by rw [show (100 : Int32) = nI 100 from rfl]; exact nI_ge (by omega) (by decide)
    by_cases h0 : n = 0
    · subst h0
      rw [l_X11_commonDivisor_9, if_neg h100, if_pos ((lN_eq0 hn).mpr rfl), Nat.gcd_zero_right]
    · have hne : ¬ lN n = (0 : Int64) := fun z => h0 ((lN_eq0 hn).mp z)
      have hg' : gcdS t n (m % n) = true := by
        unfold gcdS at hg
        rw [if_neg h0] at hg
        exact hg
      have hlt : m % n < n := Nat.mod_lt _ (by omega)
      rw [l_X11_commonDivisor_9, if_neg h100, if_neg hne, if_pos hne, i64_remN hm hn, nI_1, ih (c + 1) f n (m % n) (by omega) (by omega) hn (by omega) hg', Nat.gcd_comm n, ← Nat.gcd_rec, Nat.gcd_comm]
def a_low (a b : Int64) (p : Int32) : Int64 := (if p = 0 then a else b) / lN (Nat.gcd a.toInt.natAbs b.toInt.toNat)
theorem i64_negZ {x : Int64} (h1 : -9223372036854775808 < x.toInt) : (-x).toInt = -x.toInt := by
  have := x.toInt_lt
  rw [Int64.toInt_neg]; exact Int.bmod_eq_of_le (by omega) (by omega)
theorem M_lowest {a b : Int64} (ha : -9223372036854775808 < a.toInt) (hb : 0 < b.toInt ∧ b.toInt < 122) (p : Int32) : f_X12_lowest a b p = some (a_low a b p) := by
  have hal := i64_lo a
  have eb : b = lN b.toInt.toNat := by rw [i64_eq0, lN_Z (by omega)]; omega
  have ea : (if (0 : Int64) ≤ a then some a else some (-a)) = some (lN a.toInt.natAbs) := by
    by_cases c : (0 : Int64) ≤ a
    · rw [if_pos c]
      rw [i64_le0, show (0 : Int64).toInt = 0 from rfl] at c
      congr 1
      rw [i64_eq0, lN_Z (by omega)]; omega
    · rw [if_neg c]
      rw [i64_le0, show (0 : Int64).toInt = 0 from rfl] at c
      congr 1
      rw [i64_eq0, i64_negZ ha, lN_Z (by omega)]; omega
  have hl := L_mcommon 100 1000 a.toInt.natAbs b.toInt.toNat (by omega) (by omega) (by omega) (gcdS_100 (by omega) (by omega))
  rw [← eb] at hl
  have hgp := Nat.gcd_pos_of_pos_right a.toInt.natAbs (show 0 < b.toInt.toNat by omega)
  have hgl := Nat.gcd_le_right a.toInt.natAbs (show 0 < b.toInt.toNat by omega)
  have hne : ¬ lN (Nat.gcd a.toInt.natAbs b.toInt.toNat) = 0 := fun z => by have := (lN_eq0 (by omega)).mp z; omega
  unfold f_X12_lowest f_X12_common a_low
  rw [ea, Option.bind_some, hl]
  by_cases hp : p = 0
  · simp only [hp, if_true, Option.bind_some, if_pos hne]
  · simp only [if_neg hp, Option.bind_some, if_pos hne]
theorem X_lowest {a b : Int64} (ha : -9223372036854775808 < a.toInt) (hb : 0 < b.toInt ∧ b.toInt < 122) (p : Int32) : f_X11_lowest a b p = some (a_low a b p) := by
  have hal := i64_lo a
  have eb : b = lN b.toInt.toNat := by rw [i64_eq0, lN_Z (by omega)]; omega
  have ea : (if 0 < a then a else -a) = lN a.toInt.natAbs := by
    by_cases c : 0 < a
    · rw [if_pos c]
      rw [i64_lt0, show (0 : Int64).toInt = 0 from rfl] at c
      rw [i64_eq0, lN_Z (by omega)]; omega
    · rw [if_neg c]
      rw [i64_lt0, show (0 : Int64).toInt = 0 from rfl] at c
      rw [i64_eq0, i64_negZ ha, lN_Z (by omega)]; omega
  have hl := L_xcommon 100 0 1000 a.toInt.natAbs b.toInt.toNat (by omega) (by omega) (by omega) (by omega) (gcdS_100 (by omega) (by omega))
  rw [← eb] at hl
  have hl' : l_X11_commonDivisor_9 1000 (lN a.toInt.natAbs) b (0 : Int32) = some (lN (Nat.gcd a.toInt.natAbs b.toInt.toNat)) := hl
  have hgp := Nat.gcd_pos_of_pos_right a.toInt.natAbs (show 0 < b.toInt.toNat by omega)
  have hgl := Nat.gcd_le_right a.toInt.natAbs (show 0 < b.toInt.toNat by omega)
  have hne : ¬ lN (Nat.gcd a.toInt.natAbs b.toInt.toNat) = 0 := fun z => by have := (lN_eq0 (by omega)).mp z; omega
  unfold f_X11_lowest f_X11_commonDivisor f_X11_quotient a_low
  rw [ea, hl']
  by_cases hp : p = 0
  · simp only [hp, if_true, Option.bind_some, if_neg hne, if_pos hne]
  · simp only [if_neg hp, Option.bind_some, if_neg hne, if_pos hne]
