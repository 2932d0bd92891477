/-! ===== find: the class ===== -/
theorem okP_sym {S : TB} {D : DT} {w set : Int32} {i j : Nat} (h : okP S D w set i j) : okP S D w set j i := fun a b => by rw [prI_sym]; exact h b a
theorem L_xparts1 {S : TB} {D : DT} {tg : Nat → Nat} {h : HS} {el : Nat → Nat} (hl : XL tg h 33 1 S.1 el) (ho : ∀ i, i < S.1 → Ost S tg h i (el i)) (hW : Wst S) (hD : Xte D h) (hWD : Wte D) (w set : Int32) {i : Nat} (hi : i < S.1) : ∀ (d k f : Nat), k + d = S.1 → d < f → ∃ r, l_X11_areParted_18 w set (nI i) h f (nI k) = some r ∧ (r = Sum.inr () ∧ (∀ j, k ≤ j → j < S.1 → okP S D w set i j) ∨ r = Sum.inl false ∧ ∃ j, k ≤ j ∧ j < S.1 ∧ ¬ okP S D w set i j) := by
  have h8 := hl.2.2.1
  intro d
  induction d with
  | zero =>
    intro k f hk hf
    obtain ⟨f, rfl⟩ : ∃ f', f = f' + 1 := ⟨f - 1, by omega⟩
    refine ⟨_, ?_, Or.inl ⟨rfl, fun j h1 h2 => absurd h2 (by omega)⟩⟩
    rw [l_X11_areParted_18, if_pos hl.1, hl.size, Option.bind_some, if_pos (nI_le (by omega) (by omega))]
  | succ d ih =>
    intro k f hk hf
    obtain ⟨f, rfl⟩ : ∃ f', f = f' + 1 := ⟨f - 1, by omega⟩
    obtain ⟨r, r1, r2⟩ := ih (k + 1) f (by omega) (by omega)
    have hk' : k < S.1 := by omega
    have si : isSt (hT h (el i)) = true := by rw [(ho i hi).2.1]; exact kcl_st _
    have sk : isSt (hT h (el k)) = true := by rw [(ho k hk').2.1]; exact kcl_st _
    have ki : hI h (el i) 0 = S.2 0 i := (ho i hi).2.2.1
    have kk : hI h (el k) 0 = S.2 0 k := (ho k hk').2.2.1
    have go : okP S D w set i k → l_X11_areParted_18 w set (nI i) h (f + 1) (nI k) = l_X11_areParted_18 w set (nI i) h f (nI (k + 1)) → ∃ r, l_X11_areParted_18 w set (nI i) h (f + 1) (nI k) = some r ∧ (r = Sum.inr () ∧ (∀ j, k ≤ j → j < S.1 → okP S D w set i j) ∨ r = Sum.inl false ∧ ∃ j, k ≤ j ∧ j < S.1 ∧ ¬ okP S D w set i j) := by
      intro ok e
      refine ⟨r, by rw [e, r1], ?_⟩
      rcases r2 with ⟨q1, q2⟩ | ⟨q1, j, q2, q3, q4⟩
      · refine Or.inl ⟨q1, fun j j1 j2 => ?_⟩
        by_cases e : j = k
        · subst e; exact ok
        · exact q2 j (by omega) j2
      · exact Or.inr ⟨q1, j, by omega, q3, q4⟩
    have hd : l_X11_areParted_18 w set (nI i) h (f + 1) (nI k) = Option.bind (f_X11_isOf w (nI i)) (fun q117 => (if q117 = true then (Option.bind (f_X11_isOf w (nI k)) (fun q121 => (if q121 = true then (Option.bind (if S.2 0 i = S.2 0 k then (some (0 : Int32)) else (some (1 : Int32))) (fun q126 => (if q126 = 0 then (l_X11_areParted_18 w set (nI i) h f (nI (k + 1))) else (Option.bind (f_X11_arePartedKinds (S.2 0 i) (S.2 0 k) set h) (fun q130 => (if q130 = true then (l_X11_areParted_18 w set (nI i) h f (nI (k + 1))) else (some (Sum.inl false)))))))) else (l_X11_areParted_18 w set (nI i) h f (nI (k + 1)))))) else (l_X11_areParted_18 w set (nI i) h f (nI (k + 1))))) := by
      rw [l_X11_areParted_18, if_pos hl.1, hl.size, Option.bind_some, if_neg (nI_ge (by omega) (by omega)), hl.get hi, Option.bind_some, om_some, if_pos si, hl.get hk', Option.bind_some, om_some, if_pos sk, ki, kk, nI_1]
    cases b1 : bitB w i
    · refine go (fun z => absurd (b1.symm.trans z) (by decide)) ?_
      rw [hd, isOf_eq, b1]
      rfl
    cases b2 : bitB w k
    · refine go (fun _ z => absurd (b2.symm.trans z) (by decide)) ?_
      rw [hd, isOf_eq, isOf_eq, b1, b2]
      rfl
    by_cases e : S.2 0 i = S.2 0 k
    · refine go (fun _ _ => by unfold prI; rw [decide_eq_true e]; rfl) ?_
      rw [hd, isOf_eq, isOf_eq, b1, b2, if_pos e]
      rfl
    obtain ⟨a, ha, ea, ca⟩ := kindN hW hi
    obtain ⟨b, hb, eb, cb⟩ := kindN hW hk'
    have hp : f_X11_arePartedKinds (S.2 0 i) (S.2 0 k) set h = some (prI S D set i k) := by
      have := X_parK hD hWD set ha hb
      rw [← ea, ← eb] at this
      rw [this]
      unfold prI
      rw [decide_eq_false e, ca, cb, Bool.false_or]
    have h10 : ¬ (1 : Int32) = 0 := by decide
    cases b3 : prI S D set i k
    · refine ⟨Sum.inl false, ?_, Or.inr ⟨rfl, k, by omega, by omega, fun z => absurd (b3.symm.trans (z b1 b2)) (by decide)⟩⟩
      rw [hd, isOf_eq, isOf_eq, b1, b2, if_neg e, hp, b3]
      simp only [Option.bind_some, if_true, if_neg h10]
      rfl
    · refine go (fun _ _ => b3) ?_
      rw [hd, isOf_eq, isOf_eq, b1, b2, if_neg e, hp, b3]
      simp only [Option.bind_some, if_true, if_neg h10]
theorem L_xparts {S : TB} {D : DT} {tg : Nat → Nat} {h : HS} {el : Nat → Nat} (hl : XL tg h 33 1 S.1 el) (ho : ∀ i, i < S.1 → Ost S tg h i (el i)) (hW : Wst S) (hD : Xte D h) (hWD : Wte D) (w set : Int32) : ∀ (d k f : Nat), k + d = S.1 → d < f → ∃ r, l_X11_areParted_2 w set h f (nI k) = some r ∧ (r = Sum.inr () ∧ (∀ i j, k ≤ i → i < j → j < S.1 → okP S D w set i j) ∨ r = Sum.inl false ∧ ∃ i j, i < j ∧ j < S.1 ∧ ¬ okP S D w set i j) := by
  have h8 := hl.2.2.1
  intro d
  induction d with
  | zero =>
    intro k f hk hf
    obtain ⟨f, rfl⟩ : ∃ f', f = f' + 1 := ⟨f - 1, by omega⟩
    refine ⟨_, ?_, Or.inl ⟨rfl, fun i j h1 h2 h3 => by omega⟩⟩
    rw [l_X11_areParted_2, if_pos hl.1, hl.size, Option.bind_some, if_pos (nI_le (by omega) (by omega))]
  | succ d ih =>
    intro k f hk hf
    obtain ⟨f, rfl⟩ : ∃ f', f = f' + 1 := ⟨f - 1, by omega⟩
    obtain ⟨r0, s1, s2⟩ := L_xparts1 hl ho hW hD hWD w set (i := k) (by omega) (S.1 - (k + 1)) (k + 1) 1000 (by omega) (by omega)
    rcases s2 with ⟨rfl, q2⟩ | ⟨rfl, j, q1, q3, q4⟩
    · obtain ⟨r, r1, r2⟩ := ih (k + 1) f (by omega) (by omega)
      refine ⟨r, ?_, ?_⟩
      · rw [l_X11_areParted_2, if_pos hl.1, hl.size, Option.bind_some, if_neg (nI_ge (by omega) (by omega)), nI_1, s1, Option.bind_some, Sum.elim_inr, r1]
      · rcases r2 with ⟨u1, u2⟩ | u
        · refine Or.inl ⟨u1, fun i j i1 i2 i3 => ?_⟩
          by_cases e : i = k
          · subst e; exact q2 j (by omega) i3
          · exact u2 i j (by omega) i2 i3
        · exact Or.inr u
    · refine ⟨Sum.inl false, ?_, Or.inr ⟨rfl, k, j, by omega, q3, q4⟩⟩
      rw [l_X11_areParted_2, if_pos hl.1, hl.size, Option.bind_some, if_neg (nI_ge (by omega) (by omega)), nI_1, s1, Option.bind_some, Sum.elim_inl]
theorem X_parts {S : TB} {D : DT} {tg : Nat → Nat} {h : HS} (hS : Xst S tg h) (hW : Wst S) (hD : Xte D h) (hWD : Wte D) (w set : Int32) : ∃ v, f_X11_areParted w set h = some v ∧ (v = true ↔ allP S D w set) := by
  obtain ⟨el, hl, ho⟩ := hS
  have h8 := hl.2.2.1
  obtain ⟨r, s1, s2⟩ := L_xparts hl ho hW hD hWD w set S.1 0 1000 (by omega) (by omega)
  have s1' : l_X11_areParted_2 w set h 1000 (0 : Int32) = some r := s1
  rcases s2 with ⟨rfl, q⟩ | ⟨rfl, i, j, q1, q2, q3⟩
  · refine ⟨true, ?_, ⟨fun _ i j i1 i2 => okP_sym (q j i (by omega) i2 i1), fun _ => rfl⟩⟩
    unfold f_X11_areParted
    rw [s1']
    rfl
  · refine ⟨false, ?_, ⟨fun z => absurd z (by decide), fun z => absurd (okP_sym (z j i q2 q1)) q3⟩⟩
    unfold f_X11_areParted
    rw [s1']
    rfl
def findG (hf : Nat → Int32) (pt : Nat → Bool) : Nat → Nat → Int32 → Int32 → Int32 × Int32
  | 0, _, x, y => (x, y)
  | d + 1, k, x, y => if x = (-1 : Int32) then (if pt k = true then findG hf pt d (k + 1) (nI k) (hf k) else findG hf pt d (k + 1) x y) else (if y ≤ hf k then findG hf pt d (k + 1) x y else (if pt k = true then findG hf pt d (k + 1) (nI k) (hf k) else findG hf pt d (k + 1) x y))
theorem nI_m1 {k : Nat} (h : k < 2 ^ 31) : ¬ nI k = (-1 : Int32) := by
  rw [i32_eqZ, nI_Z h, show (-1 : Int32).toInt = -1 from rfl]; omega
theorem findG_ne {hf : Nat → Int32} {pt : Nat → Bool} : ∀ (d k : Nat) (x y : Int32), k + d ≤ 1000 → ¬ x = (-1 : Int32) → ¬ (findG hf pt d k x y).1 = (-1 : Int32) := by
  intro d
  induction d with
  | zero => intro k x y _ hx; exact hx
  | succ d ih =>
    intro k x y hk hx
    rw [findG, if_neg hx]
    split
    · exact ih _ _ _ (by omega) hx
    · split
      · exact ih _ _ _ (by omega) (nI_m1 (by omega))
      · exact ih _ _ _ (by omega) hx
theorem findG_eq {hf : Nat → Int32} {pt : Nat → Bool} (a b : Int32) : ∀ (d k : Nat), k + d ≤ 1000 → (findG hf pt d k (-1) a = (-1, a) ∧ findG hf pt d k (-1) b = (-1, b)) ∨ (findG hf pt d k (-1) a = findG hf pt d k (-1) b ∧ ¬ (findG hf pt d k (-1) b).1 = (-1 : Int32)) := by
  intro d
  induction d with
  | zero => intro k _; exact Or.inl ⟨rfl, rfl⟩
  | succ d ih =>
    intro k hk
    rw [findG, findG, if_pos rfl, if_pos rfl]
    cases pt k
    · exact ih (k + 1) (by omega)
    · exact Or.inr ⟨rfl, findG_ne _ _ _ _ (by omega) (nI_m1 (by omega))⟩
theorem shl6 {n : Nat} (h : n ≤ 8) : ((1 : Int32) <<< (nI n &&& 31)) = nI (2 ^ n) := by
  rcases (show n = 0 ∨ n = 1 ∨ n = 2 ∨ n = 3 ∨ n = 4 ∨ n = 5 ∨ n = 6 ∨ n = 7 ∨ n = 8 by omega) with e | e | e | e | e | e | e | e | e <;> subst e <;> decide
theorem pow8 {n : Nat} (h : n ≤ 8) : 1 ≤ 2 ^ n ∧ 2 ^ n ≤ 256 := ⟨Nat.one_le_two_pow, Nat.pow_le_pow_right (by decide) h⟩

/-- what both find -/
noncomputable def a_find (S : TB) (D : DT) (w p : Int32) : Int32 := if inZ w.toInt 0 ((2 ^ S.1 : Nat) - 1) = true then (if inZ p.toInt 0 1 = true then (let q := findG (fun k => hrsG D (nI k) D.1 0 0) (fun k => @decide (allP S D w (nI k)) (Classical.propDecidable _)) (2 ^ D.1) 0 (-1) (-1); if p = 0 then q.1 else q.2) else -2) else -2
