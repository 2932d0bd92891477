/-! ===== the law's loop ===== -/
abbrev LR : Type := Option ((Bool × HS) ⊕ HS)
theorem cl2 {α : Type} [DecidableEq α] {h : HS} {F : Option (α × HS)} {G : HS → Option (α × HS)} (K : HS → LR) (s : ST2 h F G) : ∃ h2, INV h2 ∧ GB h h2 ∧ Option.bind F (fun q => if lyB TM q.2 = true then Option.bind (G q.2) (fun q2 => if q.1 = q2.1 then K q2.2 else some (Sum.inl (false, q2.2))) else none) = K h2 := by
  obtain ⟨a, h1, h2, e1, e2, e3, e4, e5⟩ := s
  exact ⟨h2, e4, e5, by rw [e1, Option.bind_some, if_pos e2, e3, Option.bind_some, if_pos rfl]⟩
theorem cl1 {α : Type} [DecidableEq α] {h : HS} {F : Option (α × HS)} {G : HS → Option α} (K : HS → LR) (s : ST1 h F G) : ∃ h2, INV h2 ∧ GB h h2 ∧ Option.bind F (fun q => if lyB TM q.2 = true then Option.bind (G q.2) (fun q2 => if q.1 = q2 then K q.2 else some (Sum.inl (false, q.2))) else none) = K h2 := by
  obtain ⟨a, h1, e1, e2, e3, e4, e5⟩ := s
  exact ⟨h1, e4, e5, by rw [e1, Option.bind_some, if_pos e2, e3, Option.bind_some, if_pos rfl]⟩
theorem cl0 {α : Type} [DecidableEq α] {h : HS} {F G : Option α} (K : HS → LR) (i : INV h) (s : ST0 F G) : ∃ h2, INV h2 ∧ GB h h2 ∧ Option.bind F (fun q => Option.bind G (fun q2 => if q = q2 then K h else some (Sum.inl (false, h)))) = K h2 := by
  obtain ⟨a, e1, e2⟩ := s
  exact ⟨h, i, GB.rf, by rw [e1, Option.bind_some, e2, Option.bind_some, if_pos rfl]⟩
set_option maxRecDepth 100000 in
set_option maxHeartbeats 40000000 in
theorem L_loop {scr : Nat → Int32} {L : Nat} (hL : L ≤ 384) : ∀ (d i f : Nat) (h : HS), L < i + 6 * d + 6 → d < f → i ≤ 400 → INV h → ∃ h', l_L_law_18 scr L 32 60 f (nI i) h = some (Sum.inr h') ∧ hN h' ≤ hN h + 1000 * d ∧ hS h' ≤ hS h + 8000 * d := by
  intro d
  induction d with
  | zero =>
    intro i f h h1 hf hi hI
    obtain ⟨f, rfl⟩ : ∃ f', f = f' + 1 := ⟨f - 1, by omega⟩
    have e6 : (6 : Int32).toInt = 6 := rfl
    refine ⟨h, ?_, Nat.le_refl _, Nat.le_refl _⟩
    rw [l_L_law_18, if_pos]
    rw [i32_lt0, i32_subZ (by rw [nI_Z (by omega), e6]; omega) (by rw [nI_Z (by omega), e6]; omega), nI_Z (by omega), nI_Z (by omega), e6]
    omega
  | succ d ih =>
    intro i f h h1 hf hi hI
    obtain ⟨f, rfl⟩ : ∃ f', f = f' + 1 := ⟨f - 1, by omega⟩
    have e6 : (6 : Int32).toInt = 6 := rfl
    have es : (nI L - (6 : Int32)).toInt = (L : Int) - 6 := by rw [i32_subZ (by rw [nI_Z (by omega), e6]; omega) (by rw [nI_Z (by omega), e6]; omega), nI_Z (by omega), e6]
    by_cases hlt : nI L - (6 : Int32) < nI i
    · refine ⟨h, ?_, Nat.le_add_right _ _, Nat.le_add_right _ _⟩
      rw [l_L_law_18, if_pos hlt]
    · have hlt' := hlt
      rw [i32_lt0, es, nI_Z (by omega)] at hlt'
      have hx0 := ixb_n (i := i) (n := L) (by omega) (by omega)
      have hx1 : ixb (nI i + 1) L = true := by rw [nI_1]; exact ixb_n (by omega) (by omega)
      have hx2 : ixb (nI i + 2) L = true := by rw [show nI i + (2 : Int32) = nI (i + 2) from nI_add i 2]; exact ixb_n (by omega) (by omega)
      have hx3 : ixb (nI i + 3) L = true := by rw [show nI i + (3 : Int32) = nI (i + 3) from nI_add i 3]; exact ixb_n (by omega) (by omega)
      have hx4 : ixb (nI i + 4) L = true := by rw [show nI i + (4 : Int32) = nI (i + 4) from nI_add i 4]; exact ixb_n (by omega) (by omega)
      have hx5 : ixb (nI i + 5) L = true := by rw [show nI i + (5 : Int32) = nI (i + 5) from nI_add i 5]; exact ixb_n (by omega) (by omega)
      have e12 : nI i + (6 : Int32) = nI (i + 6) := nI_add i 6
      have hI0 := hI
      obtain ⟨S, H, T, D, B, X, I, Z, r, tg, W, M, P⟩ := hI
      have lx : lyB TX h = true := P.1
      have lm : lyB TM h = true := M.1
      have fin : ∀ E : LR, (∃ h2, INV h2 ∧ GB h h2 ∧ E = l_L_law_18 scr L 32 60 f (nI i + 6) h2) → ∃ h', E = some (Sum.inr h') ∧ hN h' ≤ hN h + 1000 * (d + 1) ∧ hS h' ≤ hS h + 8000 * (d + 1) := by
        rintro E ⟨h2, i2, g2, rfl⟩
        obtain ⟨h', u1, u2, u3⟩ := ih (i + 6) f h2 (by omega) (by omega) (by omega) i2
        rw [e12]
        exact ⟨h', u1, by have := g2.1; omega, by have := g2.2; omega⟩
      rw [l_L_law_18, if_neg hlt, if_pos hx0]
      generalize (scr (nI i).toNatClampNeg &&& (31 : Int32)) = v
      by_cases c0 : v = 0
      · rw [if_pos c0]
        clear ih
        simp only [hx1, hx2, hx3, hx4, hx5, lx, lm, if_true]
        exact fin _ (cl2 (fun k => l_L_law_18 scr L 32 60 f (nI i + 6) k) (C_stall W M P _ _ _ _))
      rw [if_neg c0]
      by_cases c1 : v = 1
      · rw [if_pos c1]
        clear ih
        simp only [hx1, hx2, hx3, hx4, hx5, lx, lm, if_true]
        exact fin _ (cl2 (fun k => l_L_law_18 scr L 32 60 f (nI i + 6) k) (C_set W M P _ _ _))
      rw [if_neg c1]
      by_cases c2 : v = 2
      · rw [if_pos c2]
        clear ih
        simp only [hx1, hx2, hx3, hx4, hx5, lx, lm, if_true]
        exact fin _ (cl2 (fun k => l_L_law_18 scr L 32 60 f (nI i + 6) k) (C_told W M P _ _))
      rw [if_neg c2]
      by_cases c3 : v = 3
      · rw [if_pos c3]
        clear ih
        simp only [hx1, hx2, hx3, hx4, hx5, lx, lm, if_true]
        exact fin _ (cl0 (fun k => l_L_law_18 scr L 32 60 f (nI i + 6) k) hI0 (C_wins W M P _ _ _))
      rw [if_neg c3]
      by_cases c4 : v = 4
      · rw [if_pos c4]
        clear ih
        simp only [hx1, hx2, hx3, hx4, hx5, lx, lm, if_true]
        exact fin _ (cl2 (fun k => l_L_law_18 scr L 32 60 f (nI i + 6) k) (C_hand W M P _ _ _))
      rw [if_neg c4]
      by_cases c5 : v = 5
      · rw [if_pos c5]
        clear ih
        simp only [hx1, hx2, hx3, hx4, hx5, lx, lm, if_true]
        exact fin _ (cl1 (fun k => l_L_law_18 scr L 32 60 f (nI i + 6) k) (C_odds W M P _ _ _ _))
      rw [if_neg c5]
      by_cases c6 : v = 6
      · rw [if_pos c6]
        clear ih
        simp only [hx1, hx2, hx3, hx4, hx5, lx, lm, if_true]
        exact fin _ (cl2 (fun k => l_L_law_18 scr L 32 60 f (nI i + 6) k) (C_best W M P _ _ _))
      rw [if_neg c6]
      by_cases c7 : v = 7
      · rw [if_pos c7]
        clear ih
        simp only [hx1, hx2, hx3, hx4, hx5, lx, lm, if_true]
        exact fin _ (cl2 (fun k => l_L_law_18 scr L 32 60 f (nI i + 6) k) (C_tried W M P _ _ _ _))
      rw [if_neg c7]
      by_cases c8 : v = 8
      · rw [if_pos c8]
        clear ih
        simp only [hx1, hx2, hx3, hx4, hx5, lx, lm, if_true]
        exact fin _ (cl2 (fun k => l_L_law_18 scr L 32 60 f (nI i + 6) k) (C_shown W M P _ _ _ _))
      rw [if_neg c8]
      by_cases c9 : v = 9
      · rw [if_pos c9]
        clear ih
        simp only [hx1, hx2, hx3, hx4, hx5, lx, lm, if_true]
        exact fin _ (cl0 (fun k => l_L_law_18 scr L 32 60 f (nI i + 6) k) hI0 (C_tryTold W M P _ _))
      rw [if_neg c9]
      by_cases c10 : v = 10
      · rw [if_pos c10]
        clear ih
        simp only [hx1, hx2, hx3, hx4, hx5, lx, lm, if_true]
        exact fin _ (cl1 (fun k => l_L_law_18 scr L 32 60 f (nI i + 6) k) (C_setAll W M P _ _ _))
      rw [if_neg c10]
      by_cases c11 : v = 11
      · rw [if_pos c11]
        clear ih
        simp only [hx1, hx2, hx3, hx4, hx5, lx, lm, if_true]
        exact fin _ (cl1 (fun k => l_L_law_18 scr L 32 60 f (nI i + 6) k) (C_worth W M P _ _ _ _ _))
      rw [if_neg c11]
      by_cases c12 : v = 12
      · rw [if_pos c12]
        clear ih
        simp only [hx1, hx2, hx3, hx4, hx5, lx, lm, if_true]
        exact fin _ (cl2 (fun k => l_L_law_18 scr L 32 60 f (nI i + 6) k) (C_leaves W M P _ _))
      rw [if_neg c12]
      by_cases c13 : v = 13
      · rw [if_pos c13]
        clear ih
        simp only [hx1, hx2, hx3, hx4, hx5, lx, lm, if_true]
        exact fin _ (cl2 (fun k => l_L_law_18 scr L 32 60 f (nI i + 6) k) (C_feed W M P _ _))
      rw [if_neg c13]
      by_cases c14 : v = 14
      · rw [if_pos c14]
        clear ih
        simp only [hx1, hx2, hx3, hx4, hx5, lx, lm, if_true]
        exact fin _ (cl2 (fun k => l_L_law_18 scr L 32 60 f (nI i + 6) k) (C_text W M P ))
      rw [if_neg c14]
      by_cases c15 : v = 15
      · rw [if_pos c15]
        clear ih
        simp only [hx1, hx2, hx3, hx4, hx5, lx, lm, if_true]
        exact fin _ (cl2 (fun k => l_L_law_18 scr L 32 60 f (nI i + 6) k) (C_force W M P _))
      rw [if_neg c15]
      by_cases c16 : v = 16
      · rw [if_pos c16]
        clear ih
        simp only [hx1, hx2, hx3, hx4, hx5, lx, lm, if_true]
        exact fin _ (cl2 (fun k => l_L_law_18 scr L 32 60 f (nI i + 6) k) (C_says W M P _ _ _ _ _))
      rw [if_neg c16]
      by_cases c17 : v = 17
      · rw [if_pos c17]
        clear ih
        simp only [hx1, hx2, hx3, hx4, hx5, lx, lm, if_true]
        exact fin _ (cl2 (fun k => l_L_law_18 scr L 32 60 f (nI i + 6) k) (C_player W M P _ _ _ _ _))
      rw [if_neg c17]
      by_cases c18 : v = 18
      · rw [if_pos c18]
        clear ih
        simp only [hx1, hx2, hx3, hx4, hx5, lx, lm, if_true]
        exact fin _ (cl2 (fun k => l_L_law_18 scr L 32 60 f (nI i + 6) k) (C_most W M P _ _ _ _ _))
      rw [if_neg c18]
      by_cases c19 : v = 19
      · rw [if_pos c19]
        clear ih
        simp only [hx1, hx2, hx3, hx4, hx5, lx, lm, if_true]
        exact fin _ (cl2 (fun k => l_L_law_18 scr L 32 60 f (nI i + 6) k) (C_test W M P _ _))
      rw [if_neg c19]
      by_cases c20 : v = 20
      · rw [if_pos c20]
        clear ih
        simp only [hx1, hx2, hx3, hx4, hx5, lx, lm, if_true]
        exact fin _ (cl0 (fun k => l_L_law_18 scr L 32 60 f (nI i + 6) k) hI0 (C_find W M P _ _))
      rw [if_neg c20]
      by_cases c21 : v = 21
      · rw [if_pos c21]
        clear ih
        simp only [hx1, hx2, hx3, hx4, hx5, lx, lm, if_true]
        exact fin _ (cl2 (fun k => l_L_law_18 scr L 32 60 f (nI i + 6) k) (C_year W M P _ _))
      rw [if_neg c21]
      by_cases c22 : v = 22
      · rw [if_pos c22]
        clear ih
        simp only [hx1, hx2, hx3, hx4, hx5, lx, lm, if_true]
        exact fin _ (cl2 (fun k => l_L_law_18 scr L 32 60 f (nI i + 6) k) (C_make W M P _ _ _ _ _))
      rw [if_neg c22]
      by_cases c23 : v = 23
      · rw [if_pos c23]
        clear ih
        simp only [hx1, hx2, hx3, hx4, hx5, lx, lm, if_true]
        exact fin _ (cl2 (fun k => l_L_law_18 scr L 32 60 f (nI i + 6) k) (C_walk W M P _ _ _))
      rw [if_neg c23]
      by_cases c24 : v = 24
      · rw [if_pos c24]
        clear ih
        simp only [hx1, hx2, hx3, hx4, hx5, lx, lm, if_true]
        exact fin _ (cl2 (fun k => l_L_law_18 scr L 32 60 f (nI i + 6) k) (C_image W M P ))
      rw [if_neg c24]
      by_cases c25 : v = 25
      · rw [if_pos c25]
        clear ih
        simp only [hx1, hx2, hx3, hx4, hx5, lx, lm, if_true]
        exact fin _ (cl2 (fun k => l_L_law_18 scr L 32 60 f (nI i + 6) k) (C_back W M P ))
      rw [if_neg c25]
      by_cases c26 : v = 26
      · rw [if_pos c26]
        clear ih
        simp only [hx1, hx2, hx3, hx4, hx5, lx, lm, if_true]
        exact fin _ (cl0 (fun k => l_L_law_18 scr L 32 60 f (nI i + 6) k) hI0 (C_count W M P _))
      rw [if_neg c26]
      by_cases c27 : v = 27
      · rw [if_pos c27]
        clear ih
        simp only [hx1, hx2, hx3, hx4, hx5, lx, lm, if_true]
        exact fin _ (cl2 (fun k => l_L_law_18 scr L 32 60 f (nI i + 6) k) (C_sheet W M P _ _ _))
      rw [if_neg c27]
      by_cases c28 : v = 28
      · rw [if_pos c28]
        clear ih
        simp only [hx1, hx2, hx3, hx4, hx5, lx, lm, if_true]
        exact fin _ (cl2 (fun k => l_L_law_18 scr L 32 60 f (nI i + 6) k) (C_cell W M P _ _ _))
      rw [if_neg c28]
      by_cases c29 : v = 29
      · rw [if_pos c29]
        clear ih
        simp only [hx1, hx2, hx3, hx4, hx5, lx, lm, if_true]
        exact fin _ (cl2 (fun k => l_L_law_18 scr L 32 60 f (nI i + 6) k) (C_copy W M P _ _ _ _ _))
      rw [if_neg c29]
      by_cases c30 : v = 30
      · rw [if_pos c30]
        clear ih
        simp only [hx1, hx2, hx3, hx4, hx5, lx, lm, if_true]
        exact fin _ (cl2 (fun k => l_L_law_18 scr L 32 60 f (nI i + 6) k) (C_tries W M P _ _ _ _))
      rw [if_neg c30]
      by_cases c31 : v = 31
      · rw [if_pos c31]
        clear ih
        simp only [hx1, hx2, hx3, hx4, hx5, lx, lm, if_true]
        exact fin _ (cl0 (fun k => l_L_law_18 scr L 32 60 f (nI i + 6) k) hI0 (C_taken W M P _ _))
      rw [if_neg c31]
      exact fin _ ⟨h, hI0, GB.rf, rfl⟩
