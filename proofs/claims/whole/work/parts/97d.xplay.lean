/-! ===== players: the class ===== -/
theorem L_xfill0 {a : Nat} : ∀ (d k f : Nat) (h : HS), k + d = 40 → d < f → hT h a = 16 → hLn h a = 40 → (∀ j, j < k → hL h a j = 0) → ∃ h', l_J7_fill_d0a16_6 a 0 (nI 40) f (nI k) h = some h' ∧ (∀ j, j < 40 → hL h' a j = 0) ∧ hN h' = hN h ∧ hT h' = hT h ∧ Fx (fun b => b = a) h h' := by
  intro d
  induction d with
  | zero =>
    intro k f h hk hf hT0 hn hz
    obtain ⟨f, rfl⟩ : ∃ f', f = f' + 1 := ⟨f - 1, by omega⟩
    have : k = 40 := by omega
    subst this
    refine ⟨h, ?_, hz, rfl, rfl, Fx.rf⟩
    rw [l_J7_fill_d0a16_6, if_pos (by decide)]
  | succ d ih =>
    intro k f h hk hf hT0 hn hz
    obtain ⟨f, rfl⟩ : ∃ f', f = f' + 1 := ⟨f - 1, by omega⟩
    have hx := ixb_n (i := k) (n := 40) (by omega) (by decide)
    have hc : (nI k).toNatClampNeg = k := nI_clamp (by omega)
    obtain ⟨h', s1, s2, s3, s4, s5⟩ := ih (k + 1) f (sL h a k 0) (by omega) (by omega) hT0 hn (fun j hj => by
      rw [hL_sL, if_pos rfl]
      split
      · rfl
      · exact hz j (by omega))
    have F1 : Fx (fun b => b = a) h (sL h a k 0) := Fx.sL Fx.rf (Or.inl rfl)
    refine ⟨h', ?_, s2, s3, s4, F1.tr s5⟩
    rw [l_J7_fill_d0a16_6, if_neg (nI_ge (by omega) (by decide)), if_pos hT0, hn, if_pos hx, hc, nI_1]
    exact s1
theorem X_fill0 {a : Nat} {h : HS} (hT0 : hT h a = 16) (hn : hLn h a = 40) : ∃ h', f_J7_fill_d0a16 a 0 h = some h' ∧ (∀ j, j < 40 → hL h' a j = 0) ∧ hN h' = hN h ∧ hT h' = hT h ∧ Fx (fun b => b = a) h h' := by
  obtain ⟨h', s1, s2, s3, s4, s5⟩ := L_xfill0 (a := a) 40 0 1000 h (by omega) (by omega) hT0 hn (fun j hj => by omega)
  refine ⟨h', ?_, s2, s3, s4, s5⟩
  unfold f_J7_fill_d0a16
  rw [if_pos hT0, hn, show l_J7_fill_d0a16_6 a 0 (nI 40) 1000 (0 : Int32) h = some h' from s1, Option.bind_some]
theorem L_xwin {S H : TB} {tg : Nat → Nat} {h : HS} {i j a b : Nat} (oa : Ost S tg h i a) (ob : Oha H tg h j b) (hW : Wst S) (hWH : Wha H) (hi : i < S.1) (hj : j < H.1) {m : Int32} (hm : plB m = true) {s : Nat} (hs : s ≤ 99999) : ∀ (d t f : Nat) (x : Int64), t + d = 40 → d < f → (∀ v, v < 41 → bt x v = (decide (v < t) && wonL S H i j m (lotP s (v + 1)))) → ∃ y, l_X11_winningThrows_12 a b m h f x (lN (lotP s (t + 1))) (nI t) = some y ∧ ∀ v, v < 41 → bt y v = (decide (v < 40) && wonL S H i j m (lotP s (v + 1))) := by
  intro d
  induction d with
  | zero =>
    intro t f x ht hf hx
    obtain ⟨f, rfl⟩ : ∃ f', f = f' + 1 := ⟨f - 1, by omega⟩
    have : t = 40 := by omega
    subst this
    exact ⟨x, by rw [l_X11_winningThrows_12, if_pos (by decide)], hx⟩
  | succ d ih =>
    intro t f x ht hf hx
    obtain ⟨f, rfl⟩ : ∃ f', f = f' + 1 := ⟨f - 1, by omega⟩
    have hlt := lotP_lt hs (t + 1)
    have hL := X_lands oa ob hW hWH hi hj hm (lt := lotP s (t + 1)) (by omega)
    have hnext : f_X11_nextLot (lN (lotP s (t + 1))) = some (lN (lotP s (t + 1 + 1))) := nextLot_eq hlt
    rw [l_X11_winningThrows_12, if_neg (by rw [show (40 : Int32) = nI 40 from rfl]; exact nI_ge (by omega) (by decide)), hL, Option.bind_some, mk_eq t (by omega), nI_1]
    cases hw : wonL S H i j m (lotP s (t + 1))
    · rw [if_neg Bool.false_ne_true, Option.bind_some, hnext, Option.bind_some]
      refine ih (t + 1) f x (by omega) (by omega) (fun v hv => ?_)
      rw [hx v hv]
      by_cases e : v = t
      · subst e; rw [hw, Bool.and_false, Bool.and_false]
      · rw [show decide (v < t + 1) = decide (v < t) from decide_eq_decide.mpr (by omega)]
    · rw [if_pos rfl, Option.bind_some, hnext, Option.bind_some]
      refine ih (t + 1) f _ (by omega) (by omega) (fun v hv => ?_)
      rw [bt_or, bt_mk (by omega), hx v hv]
      by_cases e : t = v
      · subst e; rw [hw, decide_eq_true rfl, Bool.or_true, decide_eq_true (show t < t + 1 by omega)]; rfl
      · rw [decide_eq_false e, Bool.or_false, show decide (v < t + 1) = decide (v < t) from decide_eq_decide.mpr (by omega)]
theorem X_win {S H : TB} {tg : Nat → Nat} {h : HS} {i j a b : Nat} (oa : Ost S tg h i a) (ob : Oha H tg h j b) (hW : Wst S) (hWH : Wha H) (hi : i < S.1) (hj : j < H.1) {m : Int32} (hm : plB m = true) {s : Nat} (hs : s ≤ 99999) : ∃ y, f_X11_winningThrows a b m (nI s) h = some y ∧ ∀ v, v < 40 → bt y v = wonL S H i j m (lotP s (v + 1)) := by
  obtain ⟨y, s1, s2⟩ := L_xwin oa ob hW hWH hi hj hm hs 40 0 1000 0 (by omega) (by omega) (fun v hv => by rw [bt_0, decide_eq_false (by omega), Bool.false_and])
  refine ⟨y, ?_, fun v hv => by rw [s2 v (by omega), decide_eq_true hv, Bool.true_and]⟩
  unfold f_X11_winningThrows
  rw [firstLot_eq (by omega), Option.bind_some, show l_X11_winningThrows_12 a b m h 1000 (0 : Int64) (lN (lot1 s)) (0 : Int32) = some y from s1, Option.bind_some]
