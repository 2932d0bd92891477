/-! ===== the best aim ===== -/
/-- place by place, y outside, x inside; a place counts when it wins more than all before -/
def bstX (g : Nat → Int32) (y : Nat) : Nat → Nat → Int32 × Int32 → Int32 × Int32
  | 0, _, q => q
  | d + 1, x, q => bstX g y d (x + 1) (if g (100 * x + y) ≤ q.1 then q else (g (100 * x + y), nI (100 * x + y)))
def bstY (g : Nat → Int32) : Nat → Nat → Int32 × Int32 → Int32 × Int32
  | 0, _, q => q
  | d + 1, y, q => bstY g d (y + 1) (bstX g y 20 0 q)
theorem ex20 : ∃ n : Nat, n = 20 := ⟨20, rfl⟩
/-- 20, so that no kernel unrolls what is repeated so often -/
noncomputable def n20 : Nat := Classical.choose ex20
theorem n20_eq : n20 = 20 := Classical.choose_spec ex20
noncomputable def bst (g : Nat → Int32) : Int32 × Int32 := bstY g n20 0 (-1, 0)
theorem bst_def (g : Nat → Int32) : bst g = bstY g 20 0 (-1, 0) := by
  unfold bst
  rw [n20_eq]
theorem plB_xy {x y : Nat} (hx : x < 20) (hy : y < 20) : plB (nI (100 * x + y)) = true := by
  unfold plB
  rw [nI_Z (by omega)]
  simp only [Bool.and_eq_true, decide_eq_true_eq]
  omega
theorem aim_eq (x y : Nat) : (100 : Int32) * nI x + nI y = nI (100 * x + y) := by
  rw [show (100 : Int32) = nI 100 from rfl, pk_mul, nI_add]
theorem L_mbX {g : Nat → Int32} {y1 y2 y3 y4 y5 : Int32} {tch : HS → Prop} (ht : ∀ h v, tch h → tch (sI h 60 19 v)) (hg : ∀ h n, tch h → (∃ x y, x < 20 ∧ y < 20 ∧ n = 100 * x + y) → f_X12_winsOf y1 y2 y3 y4 y5 (nI n) h = some (g n)) {y : Nat} (hy : y < 20) : ∀ (d x f : Nat) (q : Int32 × Int32) (h : HS), x + d = 20 → d < f → tch h → hI h 60 19 = q.2 ∨ q = (-1, 0) → ∃ h', l_X12_bestOf_16 y1 y2 y3 y4 y5 (nI y) f q.1 (nI x) h = some ((bstX g y d x q).1, h') ∧ tch h' ∧ (hI h' 60 19 = (bstX g y d x q).2 ∨ bstX g y d x q = (-1, 0)) ∧ Fr 0 h h' := by
  intro d
  induction d with
  | zero =>
    intro x f q h hx hf hh hq
    obtain ⟨f, rfl⟩ : ∃ f', f = f' + 1 := ⟨f - 1, by omega⟩
    have : x = 20 := by omega
    subst this
    refine ⟨h, ?_, hh, hq, Fr.rf⟩
    rw [l_X12_bestOf_16, if_pos (by decide)]
    rfl
  | succ d ih =>
    intro x f q h hx hf hh hq
    obtain ⟨f, rfl⟩ : ∃ f', f = f' + 1 := ⟨f - 1, by omega⟩
    have h20 : ¬ (20 : Int32) ≤ nI x := by rw [show (20 : Int32) = nI 20 from rfl]; exact nI_ge (by omega) (by decide)
    have hw := hg h (100 * x + y) hh ⟨x, y, by omega, hy, rfl⟩
    rw [l_X12_bestOf_16, if_neg h20, aim_eq, hw, Option.bind_some, nI_1, bstX]
    by_cases c : g (100 * x + y) ≤ q.1
    · rw [if_neg (fun z => by rw [i32_lt0] at z; rw [i32_le0] at c; omega), if_pos c]
      exact ih (x + 1) f q h (by omega) (by omega) hh hq
    · rw [if_pos (by rw [i32_lt0]; rw [i32_le0] at c; omega), if_neg c]
      obtain ⟨h', s1, s2, s3, s4⟩ := ih (x + 1) f (g (100 * x + y), nI (100 * x + y)) (sI h 60 19 (nI (100 * x + y))) (by omega) (by omega) (ht h _ hh) (Or.inl (by rw [hI_sI, if_pos rfl, if_pos rfl]))
      exact ⟨h', s1, s2, s3, (Fr.sI Fr.rf (Or.inl rfl)).tr s4⟩
theorem L_mbY {g : Nat → Int32} {y1 y2 y3 y4 y5 : Int32} {tch : HS → Prop} (ht : ∀ h v, tch h → tch (sI h 60 19 v)) (hg : ∀ h n, tch h → (∃ x y, x < 20 ∧ y < 20 ∧ n = 100 * x + y) → f_X12_winsOf y1 y2 y3 y4 y5 (nI n) h = some (g n)) : ∀ (d y f : Nat) (q : Int32 × Int32) (h : HS), y + d = 20 → d < f → tch h → hI h 60 19 = q.2 ∨ q = (-1, 0) → ∃ h', l_X12_bestOf_6 y1 y2 y3 y4 y5 f q.1 (nI y) h = some ((bstY g d y q).1, h') ∧ tch h' ∧ (hI h' 60 19 = (bstY g d y q).2 ∨ bstY g d y q = (-1, 0)) ∧ Fr 0 h h' := by
  intro d
  induction d with
  | zero =>
    intro y f q h hx hf hh hq
    obtain ⟨f, rfl⟩ : ∃ f', f = f' + 1 := ⟨f - 1, by omega⟩
    have : y = 20 := by omega
    subst this
    refine ⟨h, ?_, hh, hq, Fr.rf⟩
    rw [l_X12_bestOf_6, if_pos (by decide)]
    rfl
  | succ d ih =>
    intro y f q h hx hf hh hq
    obtain ⟨f, rfl⟩ : ∃ f', f = f' + 1 := ⟨f - 1, by omega⟩
    have h20 : ¬ (20 : Int32) ≤ nI y := by rw [show (20 : Int32) = nI 20 from rfl]; exact nI_ge (by omega) (by decide)
    obtain ⟨h1, s1, s2, s3, s4⟩ := L_mbX ht hg (y := y) (by omega) 20 0 1000 q h (by omega) (by omega) hh hq
    have s1' : l_X12_bestOf_16 y1 y2 y3 y4 y5 (nI y) 1000 q.1 (0 : Int32) h = some ((bstX g y 20 0 q).1, h1) := s1
    obtain ⟨h', r1, r2, r3, r4⟩ := ih (y + 1) f (bstX g y 20 0 q) h1 (by omega) (by omega) s2 s3
    have eb : bstY g (d + 1) y q = bstY g d (y + 1) (bstX g y 20 0 q) := by rw [bstY]
    rw [eb]
    refine ⟨h', ?_, r2, r3, s4.tr r4⟩
    rw [l_X12_bestOf_6, if_neg h20, s1', Option.bind_some, nI_1, r1]
theorem bstX_ge {g : Nat → Int32} {y : Nat} : ∀ (d x : Nat) (q : Int32 × Int32), q.1.toInt ≤ (bstX g y d x q).1.toInt := by
  intro d
  induction d with
  | zero => intro x q; exact Int.le_refl _
  | succ d ih =>
    intro x q
    rw [bstX]
    split
    · exact ih _ _
    · rename_i c
      rw [i32_le0] at c
      have h2 : (g (100 * x + y)).toInt ≤ _ := ih (x + 1) (g (100 * x + y), nI (100 * x + y))
      exact Int.le_trans (by omega) h2
theorem bstY_ge {g : Nat → Int32} : ∀ (d y : Nat) (q : Int32 × Int32), q.1.toInt ≤ (bstY g d y q).1.toInt := by
  intro d
  induction d with
  | zero => intro y q; exact Int.le_refl _
  | succ d ih =>
    intro y q
    rw [bstY]
    have h1 := bstX_ge (g := g) (y := y) 20 0 q
    have h2 := ih (y + 1) (bstX g y 20 0 q)
    omega
/-- the best aim is a place and what it wins is told by it -/
theorem bstX_in {g : Nat → Int32} {y : Nat} (hy : y < 20) : ∀ (d x : Nat) (q : Int32 × Int32), x + d = 20 → (q = (-1, 0) ∨ ∃ x y, x < 20 ∧ y < 20 ∧ q = (g (100 * x + y), nI (100 * x + y))) → (bstX g y d x q = (-1, 0) ∨ ∃ x' y', x' < 20 ∧ y' < 20 ∧ bstX g y d x q = (g (100 * x' + y'), nI (100 * x' + y'))) := by
  intro d
  induction d with
  | zero => intro x q _ h; exact h
  | succ d ih =>
    intro x q hx h
    rw [bstX]
    split
    · exact ih _ _ (by omega) h
    · exact ih _ _ (by omega) (Or.inr ⟨x, y, by omega, hy, rfl⟩)
theorem bstY_in {g : Nat → Int32} : ∀ (d y : Nat) (q : Int32 × Int32), y + d = 20 → (q = (-1, 0) ∨ ∃ x y, x < 20 ∧ y < 20 ∧ q = (g (100 * x + y), nI (100 * x + y))) → (bstY g d y q = (-1, 0) ∨ ∃ x' y', x' < 20 ∧ y' < 20 ∧ bstY g d y q = (g (100 * x' + y'), nI (100 * x' + y'))) := by
  intro d
  induction d with
  | zero => intro y q _ h; exact h
  | succ d ih =>
    intro y q hx h
    rw [bstY]
    exact ih _ _ (by omega) (bstX_in (by omega) 20 0 q (by omega) h)
theorem bst_in {g : Nat → Int32} (hg : 0 ≤ (g 0).toInt) : ∃ x y, x < 20 ∧ y < 20 ∧ bst g = (g (100 * x + y), nI (100 * x + y)) := by
  rcases bstY_in (g := g) 20 0 (-1, 0) (by omega) (Or.inl rfl) with h | h
  · exfalso
    have h1 : 0 ≤ (bst g).1.toInt := by
      rw [bst_def, bstY, bstX]
      have c : ¬ g (100 * 0 + 0) ≤ ((-1 : Int32), (0 : Int32)).1 := by
        rw [i32_le0]
        show ¬ (g 0).toInt ≤ (-1 : Int32).toInt
        rw [show (-1 : Int32).toInt = -1 from rfl]; omega
      rw [if_neg c]
      have a1 := bstX_ge (g := g) (y := 0) 19 1 (g (100 * 0 + 0), nI (100 * 0 + 0))
      have a2 := bstY_ge (g := g) 19 1 (bstX g 0 19 1 (g (100 * 0 + 0), nI (100 * 0 + 0)))
      have a4 : (g 0).toInt ≤ (bstX g 0 19 1 (g (100 * 0 + 0), nI (100 * 0 + 0))).1.toInt := a1
      exact Int.le_trans hg (Int.le_trans a4 a2)
    rw [bst_def] at h1
    rw [h] at h1
    exact absurd h1 (by decide)
  · rw [bst_def]
    exact h
