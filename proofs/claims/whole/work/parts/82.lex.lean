/-! ===== texts: bytes to tokens ===== -/
def isBl (c : Int32) : Bool := decide (c = 32) || decide (c = 10)
def isDg (c : Int32) : Bool := inZ c.toInt 48 57
def isLt (c : Int32) : Bool := inZ c.toInt 97 122
def isSg (c : Int32) : Bool := decide (c = 40) || decide (c = 41) || decide (c = 42) || decide (c = 43) || decide (c = 45) || decide (c = 59) || decide (c = 60) || decide (c = 61)
def runE (P : Int32 → Bool) (b : Nat → Int32) (n : Nat) : Nat → Nat → Nat
  | 0, p => p
  | d + 1, p => if p < n ∧ P (b p) = true then runE P b n d (p + 1) else p
/-- the end of a run of bytes of one sort -/
def rE (P : Int32 → Bool) (b : Nat → Int32) (n p : Nat) : Nat := runE P b n (n - p) p
theorem rE_y {P : Int32 → Bool} {b : Nat → Int32} {n p : Nat} (h : p < n) (q : P (b p) = true) : rE P b n p = rE P b n (p + 1) := by
  unfold rE
  rw [show n - p = (n - (p + 1)) + 1 by omega, runE, if_pos ⟨h, q⟩]
theorem rE_n {P : Int32 → Bool} {b : Nat → Int32} {n p : Nat} (h : ¬ (p < n ∧ P (b p) = true)) : rE P b n p = p := by
  unfold rE
  cases n - p with
  | zero => rfl
  | succ d => rw [runE, if_neg h]
theorem rE_spec {P : Int32 → Bool} {b : Nat → Int32} {n : Nat} : ∀ (d p : Nat), n - p = d → p ≤ rE P b n p ∧ (p ≤ n → rE P b n p ≤ n) ∧ ¬ (rE P b n p < n ∧ P (b (rE P b n p)) = true) ∧ (∀ r, p ≤ r → r < rE P b n p → P (b r) = true) ∧ ∀ r, p ≤ r → r ≤ rE P b n p → rE P b n r = rE P b n p := by
  intro d
  induction d with
  | zero =>
    intro p h
    have e : rE P b n p = p := rE_n (fun z => by omega)
    rw [e]
    refine ⟨Nat.le_refl _, fun z => z, fun z => by omega, fun r h1 h2 => by omega, fun r h1 h2 => ?_⟩
    have : r = p := by omega
    rw [this]; exact e
  | succ d ih =>
    intro p h
    by_cases c : p < n ∧ P (b p) = true
    · obtain ⟨i1, i2, i3, i4, i5⟩ := ih (p + 1) (by omega)
      rw [rE_y c.1 c.2]
      refine ⟨by omega, fun z => i2 (by omega), i3, fun r h1 h2 => ?_, fun r h1 h2 => ?_⟩
      · by_cases e : r = p
        · rw [e]; exact c.2
        · exact i4 r (by omega) h2
      · by_cases e : r = p
        · rw [e]; exact rE_y c.1 c.2
        · exact i5 r (by omega) h2
    · have e : rE P b n p = p := rE_n c
      rw [e]
      refine ⟨Nat.le_refl _, fun z => z, c, fun r h1 h2 => by omega, fun r h1 h2 => ?_⟩
      have : r = p := by omega
      rw [this]; exact e
def wdM (b : Nat → Int32) : Nat → Nat → Nat → Int64 → Int64
  | 0, _, _, a => a
  | d + 1, q, k, a => wdM b d (q + 1) (k + 1) (if k < 8 then (27 : Int64) * a + (b q).toInt64 - (96 : Int64) else -1)
def nmM (b : Nat → Int32) : Nat → Nat → Nat → Int64 → Int64
  | 0, _, _, a => a
  | d + 1, q, k, a => nmM b d (q + 1) (k + 1) (if k < 4 then (10 : Int64) * a + (b q).toInt64 - (48 : Int64) else a)
def nmX (b : Nat → Int32) : Nat → Nat → Int32 → Int32
  | 0, _, a => a
  | d + 1, q, a => nmX b d (q + 1) (a * (10 : Int32) + b q - (48 : Int32))
def wcode (w : Int64) : Int32 := if w = 298288 then 10200 else if w = 8863997 then 10201 else if w = 43056 then 10202 else if w = 10199809 then 10203 else if w = 17186 then 10204 else if w = 10989829 then 10205 else if w = 423 then 10210 else if w = 1111 then 10211 else if w = 10631 then 10212 else if w = 323728 then 10220 else if w = 10320789 then 10221 else if w = 6477035 then 10222 else 10301
theorem wc_odds (w : Int64) : wcode w = 10200 ↔ w = 298288 := by
  unfold wcode
  (repeat' split) <;> (constructor <;> intro h) <;> first | rfl | (exact absurd h (by decide)) | assumption | (subst_vars; first | rfl | contradiction | (exact absurd h (by decide)))
theorem wc_price (w : Int64) : wcode w = 10201 ↔ w = 8863997 := by
  unfold wcode
  (repeat' split) <;> (constructor <;> intro h) <;> first | rfl | (exact absurd h (by decide)) | assumption | (subst_vars; first | rfl | contradiction | (exact absurd h (by decide)))
theorem wc_bear (w : Int64) : wcode w = 10202 ↔ w = 43056 := by
  unfold wcode
  (repeat' split) <;> (constructor <;> intro h) <;> first | rfl | (exact absurd h (by decide)) | assumption | (subst_vars; first | rfl | contradiction | (exact absurd h (by decide)))
theorem wc_seems (w : Int64) : wcode w = 10203 ↔ w = 10199809 := by
  unfold wcode
  (repeat' split) <;> (constructor <;> intro h) <;> first | rfl | (exact absurd h (by decide)) | assumption | (subst_vars; first | rfl | contradiction | (exact absurd h (by decide)))
theorem wc_won (w : Int64) : wcode w = 10204 ↔ w = 17186 := by
  unfold wcode
  (repeat' split) <;> (constructor <;> intro h) <;> first | rfl | (exact absurd h (by decide)) | assumption | (subst_vars; first | rfl | contradiction | (exact absurd h (by decide)))
theorem wc_tries (w : Int64) : wcode w = 10205 ↔ w = 10989829 := by
  unfold wcode
  (repeat' split) <;> (constructor <;> intro h) <;> first | rfl | (exact absurd h (by decide)) | assumption | (subst_vars; first | rfl | contradiction | (exact absurd h (by decide)))
theorem wc_or (w : Int64) : wcode w = 10210 ↔ w = 423 := by
  unfold wcode
  (repeat' split) <;> (constructor <;> intro h) <;> first | rfl | (exact absurd h (by decide)) | assumption | (subst_vars; first | rfl | contradiction | (exact absurd h (by decide)))
theorem wc_and (w : Int64) : wcode w = 10211 ↔ w = 1111 := by
  unfold wcode
  (repeat' split) <;> (constructor <;> intro h) <;> first | rfl | (exact absurd h (by decide)) | assumption | (subst_vars; first | rfl | contradiction | (exact absurd h (by decide)))
theorem wc_not (w : Int64) : wcode w = 10212 ↔ w = 10631 := by
  unfold wcode
  (repeat' split) <;> (constructor <;> intro h) <;> first | rfl | (exact absurd h (by decide)) | assumption | (subst_vars; first | rfl | contradiction | (exact absurd h (by decide)))
theorem wc_play (w : Int64) : wcode w = 10220 ↔ w = 323728 := by
  unfold wcode
  (repeat' split) <;> (constructor <;> intro h) <;> first | rfl | (exact absurd h (by decide)) | assumption | (subst_vars; first | rfl | contradiction | (exact absurd h (by decide)))
theorem wc_skill (w : Int64) : wcode w = 10221 ↔ w = 10320789 := by
  unfold wcode
  (repeat' split) <;> (constructor <;> intro h) <;> first | rfl | (exact absurd h (by decide)) | assumption | (subst_vars; first | rfl | contradiction | (exact absurd h (by decide)))
theorem wc_leave (w : Int64) : wcode w = 10222 ↔ w = 6477035 := by
  unfold wcode
  (repeat' split) <;> (constructor <;> intro h) <;> first | rfl | (exact absurd h (by decide)) | assumption | (subst_vars; first | rfl | contradiction | (exact absurd h (by decide)))
theorem wc_in (w : Int64) : wcode w = 10301 ∨ (10200 ≤ (wcode w).toInt ∧ (wcode w).toInt ≤ 10222) := by
  unfold wcode
  (repeat' split) <;> first | exact Or.inl rfl | exact Or.inr (by decide)
/-- the token that begins where no blank stands, its place, its end -/
def lq (b : Nat → Int32) (n q : Nat) : Int32 × Nat × Nat := if q < n then (if isLt (b q) = true then (wcode (wdM b (rE isLt b n q - q) q 0 0), q, rE isLt b n q) else if isDg (b q) = true then ((if rE isDg b n q - q ≤ 4 then nmX b (rE isDg b n q - q) q 0 else 10301), q, rE isDg b n q) else if isSg (b q) = true then (10000 + b q, q, q + 1) else (10301, q, q + 1)) else (10300, n, n)
def lx (b : Nat → Int32) (n p : Nat) : Int32 × Nat × Nat := lq b n (rE isBl b n p)
/-- where the i-th token's reading begins -/
def psI (b : Nat → Int32) (n : Nat) : Nat → Nat
  | 0 => 0
  | i + 1 => (lx b n (psI b n i)).2.2
def tkc (b : Nat → Int32) (n i : Nat) : Int32 := (lx b n (psI b n i)).1
def tkp (b : Nat → Int32) (n i : Nat) : Nat := (lx b n (psI b n i)).2.1
theorem psI_s (b : Nat → Int32) (n i : Nat) : psI b n (i + 1) = (lx b n (psI b n i)).2.2 := by rw [psI]
theorem lq_le {b : Nat → Int32} {n q : Nat} (h : q ≤ n) : q ≤ (lq b n q).2.2 ∧ (lq b n q).2.2 ≤ n ∧ (lq b n q).2.1 ≤ n ∧ (q < n → q < (lq b n q).2.2) := by
  unfold lq
  by_cases c : q < n
  · rw [if_pos c]
    by_cases c1 : isLt (b q) = true
    · rw [if_pos c1]
      obtain ⟨a1, a2, a3, a4, a5⟩ := rE_spec (P := isLt) (b := b) (n := n) (n - (q + 1)) (q + 1) rfl
      have e := rE_y (P := isLt) (b := b) c c1
      show q ≤ rE isLt b n q ∧ rE isLt b n q ≤ n ∧ q ≤ n ∧ (q < n → q < rE isLt b n q)
      rw [e]
      have := a2 (by omega)
      omega
    · rw [if_neg c1]
      by_cases c2 : isDg (b q) = true
      · rw [if_pos c2]
        obtain ⟨a1, a2, a3, a4, a5⟩ := rE_spec (P := isDg) (b := b) (n := n) (n - (q + 1)) (q + 1) rfl
        have e := rE_y (P := isDg) (b := b) c c2
        show q ≤ rE isDg b n q ∧ rE isDg b n q ≤ n ∧ q ≤ n ∧ (q < n → q < rE isDg b n q)
        rw [e]
        have := a2 (by omega)
        omega
      · rw [if_neg c2]
        split
        · show q ≤ q + 1 ∧ q + 1 ≤ n ∧ q ≤ n ∧ (q < n → q < q + 1)
          omega
        · show q ≤ q + 1 ∧ q + 1 ≤ n ∧ q ≤ n ∧ (q < n → q < q + 1)
          omega
  · rw [if_neg c]
    show q ≤ n ∧ n ≤ n ∧ n ≤ n ∧ (q < n → q < n)
    omega
theorem psI_le (b : Nat → Int32) (n : Nat) : ∀ i, psI b n i ≤ n := by
  intro i
  induction i with
  | zero => exact Nat.zero_le _
  | succ i ih =>
    rw [psI_s]
    exact (lq_le ((rE_spec (P := isBl) (b := b) (n := n) _ (psI b n i) rfl).2.1 ih)).2.1
theorem tkp_le (b : Nat → Int32) (n i : Nat) : tkp b n i ≤ n := (lq_le ((rE_spec (P := isBl) (b := b) (n := n) _ (psI b n i) rfl).2.1 (psI_le b n i))).2.2.1
theorem tkc_s {b : Nat → Int32} {n i : Nat} : tkc b n i = (lq b n (rE isBl b n (psI b n i))).1 ∧ tkp b n i = (lq b n (rE isBl b n (psI b n i))).2.1 ∧ psI b n (i + 1) = (lq b n (rE isBl b n (psI b n i))).2.2 := ⟨rfl, rfl, psI_s b n i⟩
/-- numbers of at most four digits -/
theorem nm_eq {b : Nat → Int32} : ∀ (d q k : Nat) (a : Int64) (c : Int32), k + d ≤ 4 → a.toInt = c.toInt → 0 ≤ c.toInt → c.toInt < 10 ^ k → (∀ r, q ≤ r → r < q + d → isDg (b r) = true) → (nmM b d q k a).toInt = (nmX b d q c).toInt ∧ 0 ≤ (nmX b d q c).toInt ∧ (nmX b d q c).toInt < 10 ^ (k + d) := by
  intro d
  induction d with
  | zero => intro q k a c _ h1 h2 h3 _; exact ⟨h1, h2, h3⟩
  | succ d ih =>
    intro q k a c h0 h1 h2 h3 h4
    obtain ⟨g1, g2⟩ := inZ_t.mp (h4 q (Nat.le_refl _) (by omega))
    have hk : (10 : Int) ^ (k + 1) = 10 * 10 ^ k := by rw [Int.pow_succ]; omega
    have hk3 : (10 : Int) ^ k ≤ 1000 := by
      have : k = 0 ∨ k = 1 ∨ k = 2 ∨ k = 3 := by omega
      rcases this with e | e | e | e <;> subst e <;> decide
    have e10 : (10 : Int32).toInt = 10 := rfl
    have e48 : (48 : Int32).toInt = 48 := rfl
    have f10 : (10 : Int64).toInt = 10 := rfl
    have f48 : (48 : Int64).toInt = 48 := rfl
    have x1 : (c * (10 : Int32)).toInt = c.toInt * 10 := by rw [i32_mulZ (by rw [e10]; omega) (by rw [e10]; omega), e10]
    have x2 : (c * (10 : Int32) + b q).toInt = c.toInt * 10 + (b q).toInt := by rw [i32_addZ (by omega) (by omega), x1]
    have x3 : (c * (10 : Int32) + b q - (48 : Int32)).toInt = c.toInt * 10 + (b q).toInt - 48 := by rw [i32_subZ (by rw [e48]; omega) (by rw [e48]; omega), x2, e48]
    have m1 : ((10 : Int64) * a).toInt = 10 * c.toInt := by
      rw [Int64.toInt_mul, f10, h1]; exact Int.bmod_eq_of_le (by omega) (by omega)
    have m2 : ((10 : Int64) * a + (b q).toInt64).toInt = 10 * c.toInt + (b q).toInt := by
      rw [Int64.toInt_add, m1, Int32.toInt_toInt64]; exact Int.bmod_eq_of_le (by omega) (by omega)
    have m3 : ((10 : Int64) * a + (b q).toInt64 - (48 : Int64)).toInt = 10 * c.toInt + (b q).toInt - 48 := by
      rw [Int64.toInt_sub, m2, f48]; exact Int.bmod_eq_of_le (by omega) (by omega)
    rw [nmM, nmX, if_pos (by omega)]
    rw [show k + (d + 1) = k + 1 + d by omega]
    exact ih (q + 1) (k + 1) _ _ (by omega) (by rw [m3, x3]; omega) (by rw [x3]; omega) (by rw [x3, hk]; omega) (fun r r1 r2 => h4 r (by omega) (by omega))
theorem nm_0 {b : Nat → Int32} {d q : Nat} (h : d ≤ 4) (hd : ∀ r, q ≤ r → r < q + d → isDg (b r) = true) : (nmM b d q 0 0).toInt = (nmX b d q 0).toInt ∧ 0 ≤ (nmX b d q 0).toInt ∧ (nmX b d q 0).toInt ≤ 9999 := by
  obtain ⟨a1, a2, a3⟩ := nm_eq (b := b) d q 0 0 0 (by omega) rfl (by decide) (by decide) hd
  refine ⟨a1, a2, ?_⟩
  have : (10 : Int) ^ (0 + d) ≤ 10000 := by
    have : d = 0 ∨ d = 1 ∨ d = 2 ∨ d = 3 ∨ d = 4 := by omega
    rcases this with e | e | e | e | e <;> subst e <;> decide
  omega
