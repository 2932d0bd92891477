/-! ===== counting the throws that win ===== -/
def cntF (f : Int → Bool) : Nat → Int → Nat
  | 0, _ => 0
  | t + 1, j => (if f j = true then 1 else 0) + cntF f t (j + 1)
def cnt2F (f : Int → Int → Bool) (w : Nat) (b0 : Int) : Nat → Int → Nat
  | 0, _ => 0
  | t + 1, i => cntF (f i) w b0 + cnt2F f w b0 t (i + 1)
theorem cntF_le (f : Int → Bool) : ∀ (t : Nat) (j : Int), cntF f t j ≤ t
  | 0, _ => Nat.le_refl 0
  | t + 1, j => by
    have := cntF_le f t (j + 1)
    show (if f j = true then 1 else 0) + _ ≤ _
    split <;> omega
theorem cnt2F_le (f : Int → Int → Bool) (w : Nat) (b0 : Int) : ∀ (t : Nat) (j : Int), cnt2F f w b0 t j ≤ t * w
  | 0, _ => by simp [cnt2F]
  | t + 1, j => by
    have h1 := cnt2F_le f w b0 t (j + 1)
    have h2 := cntF_le (f j) w b0
    show cntF (f j) w b0 + _ ≤ _
    rw [Nat.add_mul]; omega
theorem cntF_add (f : Int → Bool) : ∀ (s t : Nat) (j : Int), cntF f (s + t) j = cntF f s j + cntF f t (j + s)
  | 0, t, j => by simp [cntF]
  | s + 1, t, j => by
    rw [show s + 1 + t = (s + t) + 1 by omega, cntF, cntF, cntF_add f s t (j + 1), show j + 1 + (s : Int) = j + ((s + 1 : Nat) : Int) by omega]
    omega
theorem cntF_0 (f : Int → Bool) : ∀ (t : Nat) (j : Int), (∀ x, j ≤ x → x < j + t → f x = false) → cntF f t j = 0
  | 0, _, _ => rfl
  | t + 1, j, h => by
    rw [cntF, h j (by omega) (by omega), cntF_0 f t (j + 1) (fun x h1 h2 => h x (by omega) (by omega))]
    rfl
theorem cnt2F_add (f : Int → Int → Bool) (w : Nat) (b0 : Int) : ∀ (s t : Nat) (j : Int), cnt2F f w b0 (s + t) j = cnt2F f w b0 s j + cnt2F f w b0 t (j + s)
  | 0, t, j => by simp [cnt2F]
  | s + 1, t, j => by
    rw [show s + 1 + t = (s + t) + 1 by omega, cnt2F, cnt2F, cnt2F_add f w b0 s t (j + 1), show j + 1 + (s : Int) = j + ((s + 1 : Nat) : Int) by omega]
    omega
theorem cnt2F_w (f : Int → Int → Bool) (w u : Nat) (b0 : Int) : ∀ (t : Nat) (j : Int), cnt2F f (w + u) b0 t j = cnt2F f w b0 t j + cnt2F f u (b0 + w) t j
  | 0, j => rfl
  | t + 1, j => by
    rw [cnt2F, cnt2F, cnt2F, cntF_add, cnt2F_w f w u b0 t (j + 1)]
    omega
theorem cnt2F_0 (f : Int → Int → Bool) (w : Nat) (b0 : Int) : ∀ (t : Nat) (j : Int), (∀ x y, j ≤ x → x < j + t → b0 ≤ y → y < b0 + w → f x y = false) → cnt2F f w b0 t j = 0
  | 0, _, _ => rfl
  | t + 1, j, h => by
    rw [cnt2F, cntF_0 (f j) w b0 (fun y h1 h2 => h j y (by omega) (by omega) h1 h2), cnt2F_0 f w b0 t (j + 1) (fun x y h1 h2 h3 h4 => h x y (by omega) (by omega) h3 h4)]
def cntW (k z e a b : Int) (v : Nat) : Nat := cnt2F (fun i j => wonZ k z e (a + i) (b + j)) (2 * v + 1) (-v) (2 * v + 1) (-v)
theorem cntW_le (k z e a b : Int) (v : Nat) : cntW k z e a b v ≤ (2 * v + 1) * (2 * v + 1) := cnt2F_le _ _ _ _ _
