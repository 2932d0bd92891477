/-! ===== find: the class ===== -/
theorem okP_sym {S : TB} {D : DT} {w set : Int32} {i j : Nat} (h : okP S D w set i j) : okP S D w set j i := fun a b => by rw [prI_sym]; exact h b a
theorem L_xparts1 {S : TB} {D : DT} {tg : Nat → Nat} {h : HS} {el : Nat → Nat} (hl : XL tg h 33 1 S.1 el) (ho : ∀ i, i < S.1 → Ost S tg h i (el i)) (hW : Wst S) (hD : Xte D h) (hWD : Wte D) (w set : Int32) {i : Nat} (hi : i < S.1) : ∀ (d k f : Nat), k + d = S.1 → d < f → ∃ r, l_X11_areParted_18 w set (nI i) h f (nI k) = some r ∧ (r = Sum.inr () ∧ (∀ j, k ≤ j → j < S.1 → okP S D w set i j) ∨ r = Sum.inl false ∧ ∃ j, k ≤ j ∧ j < S.1 ∧ ¬ okP S D w set i j) := by
  have h8 := hl.2.2.1
  intro d
  induction d with
  | zero =>
    intro k f hk hf
    obtain ⟨f, rfl⟩ : ∃ f', f = f' + 1 := ⟨f - 1, by omega⟩
    refine ⟨_, ?_, Or.inl ⟨rfl, fun j h1 h2 => absurd h2 (by omega)⟩⟩
    rw [l_X11_areParted_18, if_pos hl.1, hl.size, Option.bind_some, if_pos (nI_le (by omega) (by omega))]
  | succ d ih =>
    intro k f hk hf
    obtain ⟨f, rfl⟩ : ∃ f', f = f' + 1 := ⟨f - 1, by omega⟩
    obtain ⟨r, r1, r2⟩ := ih (k + 1) f (by omega) (by omega)
    have hk' : k < S.1 := by omega
    have si : isSt (hT h (el i)) = true := by rw [(ho i hi).2.1]; exact kcl_st _
    have sk : isSt (hT h (el k)) = true := by rw [(ho k hk').2.1]; exact kcl_st _
    have ki : hI h (el i) 0 = S.2 0 i := (ho i hi).2.2.1
    have kk : hI h (el k) 0 = S.2 0 k := (ho k hk').2.2.1
    have go : okP S D w set i k → l_X11_areParted_18 w set (nI i) h (f + 1) (nI k) = l_X11_areParted_18 w set (nI i) h f (nI (k + 1)) → ∃ r, l_X11_areParted_18 w set (nI i) h (f + 1) (nI k) = some r ∧ (r = Sum.inr () ∧ (∀ j, k ≤ j → j < S.1 → okP S D w set i j) ∨ r = Sum.inl false ∧ ∃ j, k ≤ j ∧ j < S.1 ∧ ¬ okP S D w set i j) := by
      intro ok e
      refine ⟨r, by rw [e, r1], ?_⟩
      rcases r2 with ⟨q1, q2⟩ | ⟨q1, j, q2, q3, q4⟩
      · refine Or.inl ⟨q1, fun j j1 j2 => ?_⟩
        by_cases e : j = k
        · subst e; exact ok
        · exact q2 j (by omega) j2
      · exact Or.inr ⟨q1, j, by omega, q3, q4⟩
    have hd : l_X11_areParted_18 w set (nI i) h (f + 1) (nI k) = Option.bind (f_X11_isOf w (nI i)) (fun q117 => (if q117 = true then (Option.bind (f_X11_isOf w (nI k)) (fun q121 => (if q121 = true then (Option.bind (if S.2 0 i = S.2 0 k then (some (0 : Int32)) else (some (1 : Int32))) (fun q126 => (if q126 = 0 then (l_X11_areParted_18 w set (nI i) h f (nI (k + 1))) else (Option.bind (f_X11_arePartedKinds (S.2 0 i) (S.2 0 k) set h) (fun q130 => (if q130 = true then (l_X11_areParted_18 w set (nI i) h f (nI (k + 1))) else (some (Sum.inl false)))))))) else (l_X11_areParted_18 w set (nI i) h f (nI (k + 1)))))) else (l_X11_areParted_18 w set (nI i) h f (nI (k + 1))))) := by
      rw [l_X11_areParted_18, if_pos hl.1, hl.size, Option.bind_some, if_neg (nI_ge (by omega) (by omega)), hl.get hi, Option.bind_some, om_some, if_pos si, hl.get hk', Option.bind_some, om_some, if_pos sk, ki, kk, nI_1]
    cases b1 : bitB w i
    · refine go (fun z => absurd (b1.symm.trans z) (by decide)) ?_
      rw [hd, isOf_eq, b1]
      rfl
    cases b2 : bitB w k
    · refine go (fun _ z => absurd (b2.symm.trans z) (by decide)) ?_
      rw [hd, isOf_eq, isOf_eq, b1, b2]
      rfl
    by_cases e : S.2 0 i = S.2 0 k
    · refine go (fun _ _ => by unfold prI; rw [decide_eq_true e]; rfl) ?_
      rw [hd, isOf_eq, isOf_eq, b1, b2, if_pos e]
      rfl
    obtain ⟨a, ha, ea, ca⟩ := kindN hW hi
    obtain ⟨b, hb, eb, cb⟩ := kindN hW hk'
    have hp : f_X11_arePartedKinds (S.2 0 i) (S.2 0 k) set h = some (prI S D set i k) := by
      have := X_parK hD hWD set ha hb
      rw [← ea, ← eb] at this
      rw [this]
      unfold prI
      rw [decide_eq_false e, ca, cb, Bool.false_or]
    have h10 : ¬ (1 : Int32) = 0 := by decide
    cases b3 : prI S D set i k
    · refine ⟨Sum.inl false, ?_, Or.inr ⟨rfl, k, by omega, by omega, fun z => absurd (b3.symm.trans (z b1 b2)) (by decide)⟩⟩
      rw [hd, isOf_eq, isOf_eq, b1, b2, if_neg e, hp, b3]
      simp only [Option.bind_some, if_true, if_neg h10]
      rfl
    · refine go (fun _ _ => b3) ?_
      rw [hd, isOf_eq, isOf_eq, b1, b2, if_neg e, hp, b3]
      simp only [Option.bind_some, if_true, if_neg h10]
theorem L_xparts {S : TB} {D : DT} {tg : Nat → Nat} {h : HS} {el : Nat → Nat} (hl : XL tg h 33 1 S.1 el) (ho : ∀ i, i < S.1 → Ost S tg h i (el i)) (hW : Wst S) (hD : Xte D h) (hWD : Wte D) (w set : Int32) : ∀ (d k f : Nat), k + d = S.1 → d < f → ∃ r, l_X11_areParted_2 w set h f (nI k) = some r ∧ (r = Sum.inr () ∧ (∀ i j, k ≤ i → i < j → j < S.1 → okP S D w set i j) ∨ r = Sum.inl false ∧ ∃ i j, i < j ∧ j < S.1 ∧ ¬ okP S D w set i j) := by
  have h8 := hl.2.2.1
  intro d
  induction d with
  | zero =>
    intro k f hk hf
    obtain ⟨f, rfl⟩ : ∃ f', f = f' + 1 := ⟨f - 1, by omega⟩
    refine ⟨_, ?_, Or.inl ⟨rfl, fun i j h1 h2 h3 => by omega⟩⟩
    rw [l_X11_areParted_2, if_pos hl.1, hl.size, Option.bind_some, if_pos (nI_le (by omega) (by omega))]
  | succ d ih =>
    intro k f hk hf
    obtain ⟨f, rfl⟩ : ∃ f', f = f' + 1 := ⟨f - 1, by omega⟩
    obtain ⟨r0, s1, s2⟩ := L_xparts1 hl ho hW hD hWD w set (i := k) (by omega) (S.1 - (k + 1)) (k + 1) 1000 (by omega) (by omega)
    rcases s2 with ⟨rfl, q2⟩ | ⟨rfl, j, q1, q3, q4⟩
    · obtain ⟨r, r1, r2⟩ := ih (k + 1) f (by omega) (by omega)
      refine ⟨r, ?_, ?_⟩
      · rw [l_X11_areParted_2, if_pos hl.1, hl.size, Option.bind_some, if_neg (nI_ge (by omega) (by omega)), nI_1, s1, Option.bind_some, Sum.elim_inr, r1]
      · rcases r2 with ⟨u1, u2⟩ | u
        · refine Or.inl ⟨u1, fun i j i1 i2 i3 => ?_⟩
          by_cases e : i = k
          · subst e; exact q2 j (by omega) i3
          · exact u2 i j (by omega) i2 i3
        · exact Or.inr u
    · refine ⟨Sum.inl false, ?_, Or.inr ⟨rfl, k, j, by omega, q3, q4⟩⟩
      rw [l_X11_areParted_2, if_pos hl.1, hl.size, Option.bind_some, if_neg (nI_ge (by omega) (by omega)), nI_1, s1, Option.bind_some, Sum.elim_inl]
theorem X_parts {S : TB} {D : DT} {tg : Nat → Nat} {h : HS} (hS : Xst S tg h) (hW : Wst S) (hD : Xte D h) (hWD : Wte D) (w set : Int32) : ∃ v, f_X11_areParted w set h = some v ∧ (v = true ↔ allP S D w set) := by
  obtain ⟨el, hl, ho⟩ := hS
  have h8 := hl.2.2.1
  obtain ⟨r, s1, s2⟩ := L_xparts hl ho hW hD hWD w set S.1 0 1000 (by omega) (by omega)
  have s1' : l_X11_areParted_2 w set h 1000 (0 : Int32) = some r := s1
  rcases s2 with ⟨rfl, q⟩ | ⟨rfl, i, j, q1, q2, q3⟩
  · refine ⟨true, ?_, ⟨fun _ i j i1 i2 => okP_sym (q j i (by omega) i2 i1), fun _ => rfl⟩⟩
    unfold f_X11_areParted
    rw [s1']
    rfl
  · refine ⟨false, ?_, ⟨fun z => absurd z (by decide), fun z => absurd (okP_sym (z j i q2 q1)) q3⟩⟩
    unfold f_X11_areParted
    rw [s1']
    rfl
def findG (hf : Nat → Int32) (pt : Nat → Bool) : Nat → Nat → Int32 → Int32 → Int32 × Int32
  | 0, _, x, y => (x, y)
  | d + 1, k, x, y => if x = (-1 : Int32) then (if pt k = true then findG hf pt d (k + 1) (nI k) (hf k) else findG hf pt d (k + 1) x y) else (if y ≤ hf k then findG hf pt d (k + 1) x y else (if pt k = true then findG hf pt d (k + 1) (nI k) (hf k) else findG hf pt d (k + 1) x y))
theorem nI_m1 {k : Nat} (h : k < 2 ^ 31) : ¬ nI k = (-1 : Int32) := by
  rw [i32_eqZ, nI_Z h, show (-1 : Int32).toInt = -1 from rfl]; omega
theorem findG_ne {hf : Nat → Int32} {pt : Nat → Bool} : ∀ (d k : Nat) (x y : Int32), k + d ≤ 1000 → ¬ x = (-1 : Int32) → ¬ (findG hf pt d k x y).1 = (-1 : Int32) := by
  intro d
  induction d with
  | zero => intro k x y _ hx; exact hx
  | succ d ih =>
    intro k x y hk hx
    rw [findG, if_neg hx]
    split
    · exact ih _ _ _ (by omega) hx
    · split
      · exact ih _ _ _ (by omega) (nI_m1 (by omega))
      · exact ih _ _ _ (by omega) hx
theorem findG_eq {hf : Nat → Int32} {pt : Nat → Bool} (a b : Int32) : ∀ (d k : Nat), k + d ≤ 1000 → (findG hf pt d k (-1) a = (-1, a) ∧ findG hf pt d k (-1) b = (-1, b)) ∨ (findG hf pt d k (-1) a = findG hf pt d k (-1) b ∧ ¬ (findG hf pt d k (-1) b).1 = (-1 : Int32)) := by
  intro d
  induction d with
  | zero => intro k _; exact Or.inl ⟨rfl, rfl⟩
  | succ d ih =>
    intro k hk
    rw [findG, findG, if_pos rfl, if_pos rfl]
    cases pt k
    · exact ih (k + 1) (by omega)
    · exact Or.inr ⟨rfl, findG_ne _ _ _ _ (by omega) (nI_m1 (by omega))⟩
theorem shl6 {n : Nat} (h : n ≤ 8) : ((1 : Int32) <<< (nI n &&& 31)) = nI (2 ^ n) := by
  rcases (show n = 0 ∨ n = 1 ∨ n = 2 ∨ n = 3 ∨ n = 4 ∨ n = 5 ∨ n = 6 ∨ n = 7 ∨ n = 8 by omega) with e | e | e | e | e | e | e | e | e <;> subst e <;> decide
theorem pow8 {n : Nat} (h : n ≤ 8) : 1 ≤ 2 ^ n ∧ 2 ^ n ≤ 256 := ⟨Nat.one_le_two_pow, Nat.pow_le_pow_right (by decide) h⟩

/-- what both find -/
def allB (S : TB) (D : DT) (w set : Int32) : Bool := (List.range S.1).all (fun i => (List.range i).all (fun j => !(bitB w i) || !(bitB w j) || prI S D set i j))
theorem allB_iff {S : TB} {D : DT} {w set : Int32} : allB S D w set = true ↔ allP S D w set := by
  unfold allB allP okP
  simp only [List.all_eq_true, List.mem_range, Bool.or_eq_true, Bool.not_eq_true']
  constructor
  · intro q i j i1 i2 b1 b2
    rcases q i i1 j i2 with (e | e) | e
    · exact absurd (b1.symm.trans e) (by decide)
    · exact absurd (b2.symm.trans e) (by decide)
    · exact e
  · intro q i i1 j i2
    cases b1 : bitB w i
    · exact Or.inl (Or.inl rfl)
    cases b2 : bitB w j
    · exact Or.inl (Or.inr rfl)
    exact Or.inr (q i j i1 i2 b1 b2)
theorem b_iff {a b : Bool} {p : Prop} (h1 : a = true ↔ p) (h2 : b = true ↔ p) : a = b := by
  rw [Bool.eq_iff_iff, h1, h2]
theorem M_parts2 {S : TB} {D : DT} {h : HS} (hS : Mst S h) (hW : Wst S) (hD : Mte D h) (w set : Int32) : f_X12_parts w set h = some (allB S D w set) := by
  obtain ⟨v, s1, s2⟩ := M_parts hS hW hD w set
  rw [s1, b_iff s2 allB_iff]
theorem X_parts2 {S : TB} {D : DT} {tg : Nat → Nat} {h : HS} (hS : Xst S tg h) (hW : Wst S) (hD : Xte D h) (hWD : Wte D) (w set : Int32) : f_X11_areParted w set h = some (allB S D w set) := by
  obtain ⟨v, s1, s2⟩ := X_parts hS hW hD hWD w set
  rw [s1, b_iff s2 allB_iff]
def fG (S : TB) (D : DT) (w : Int32) (d k : Nat) (x y : Int32) : Int32 × Int32 := findG (fun k => hrsG D (nI k) D.1 0 0) (fun k => allB S D w (nI k)) d k x y
def a_find (S : TB) (D : DT) (w p : Int32) : Int32 := if inZ w.toInt 0 ((2 ^ S.1 : Nat) - 1) = true then (if inZ p.toInt 0 1 = true then (if p = 0 then (fG S D w (2 ^ D.1) 0 (-1) (-1)).1 else (fG S D w (2 ^ D.1) 0 (-1) (-1)).2) else -2) else -2
theorem L_mfind {S : TB} {D : DT} {h : HS} (hS : Mst S h) (hW : Wst S) (hD : Mte D h) (w y2 : Int32) : ∀ (d k f : Nat) (x y : Int32), k + d = 2 ^ D.1 → d < f → l_X12_find_36 w y2 h f x y (nI k) = some (fG S D w d k x y) := by
  have t1 := hD.1
  have t2 := hD.2.1
  have p8 := pow8 (n := D.1) (by omega)
  intro d
  induction d with
  | zero =>
    intro k f x y hk hf
    obtain ⟨f, rfl⟩ : ∃ f', f = f' + 1 := ⟨f - 1, by omega⟩
    rw [l_X12_find_36, t1, shl6 (by omega), if_pos (nI_le (by omega) (by omega))]
    rfl
  | succ d ih =>
    intro k f x y hk hf
    obtain ⟨f, rfl⟩ : ∃ f', f = f' + 1 := ⟨f - 1, by omega⟩
    have hh := L_mhrs hD w y2 x y (nI k) D.1 0 1000 0 (by omega) (by omega)
    have hh' : l_X12_find_53 w y2 x y (nI k) h 1000 (0 : Int32) (0 : Int32) = some (hrsG D (nI k) D.1 0 0) := hh
    rw [l_X12_find_36, t1, shl6 (by omega), if_neg (nI_ge (by omega) (by omega)), hh', Option.bind_some, M_parts2 hS hW hD, Option.bind_some, nI_1, ih (k + 1) f _ _ (by omega) (by omega), ih (k + 1) f _ _ (by omega) (by omega)]
    unfold fG
    rw [findG]
    split
    · split <;> rfl
    · split
      · rfl
      · split <;> rfl
theorem L_xfind {S : TB} {D : DT} {tg : Nat → Nat} {h : HS} (hS : Xst S tg h) (hW : Wst S) (hD : Xte D h) (hWD : Wte D) (w y2 : Int32) : ∀ (d k f : Nat) (x y : Int32), k + d = 2 ^ D.1 → d < f → l_X11_find_30 w y2 h f x y (nI k) = some (fG S D w d k x y) := by
  have t1 := hD.1
  have t2 := hD.2.1
  have p8 := pow8 (n := D.1) (by omega)
  intro d
  induction d with
  | zero =>
    intro k f x y hk hf
    obtain ⟨f, rfl⟩ : ∃ f', f = f' + 1 := ⟨f - 1, by omega⟩
    rw [l_X11_find_30, t1, shl6 (by omega), if_pos (nI_le (by omega) (by omega))]
    rfl
  | succ d ih =>
    intro k f x y hk hf
    obtain ⟨f, rfl⟩ : ∃ f', f = f' + 1 := ⟨f - 1, by omega⟩
    have hh : f_X11_hoursOfTests (nI k) h = some (hrsG D (nI k) D.1 0 0) := by
      have := L_xhrs hD (nI k) D.1 0 1000 0 (by omega) (by omega)
      unfold f_X11_hoursOfTests
      rw [show l_X11_hoursOfTests_4 (nI k) h 1000 (0 : Int32) (0 : Int32) = _ from this]
      rfl
    rw [l_X11_find_30, t1, shl6 (by omega), if_neg (nI_ge (by omega) (by omega)), hh, Option.bind_some, X_parts2 hS hW hD hWD, Option.bind_some, nI_1, ih (k + 1) f _ _ (by omega) (by omega), ih (k + 1) f _ _ (by omega) (by omega)]
    unfold fG
    rw [findG]
    split
    · split <;> rfl
    · split
      · rfl
      · split <;> rfl
theorem all_Z {n : Nat} (h : n ≤ 8) : (nI (2 ^ n) - (1 : Int32)).toInt = ((2 ^ n : Nat) : Int) - 1 := by
  have := pow8 h
  rw [i32_subZ (by rw [nI_Z (by omega), show (1 : Int32).toInt = 1 from rfl]; omega) (by rw [nI_Z (by omega), show (1 : Int32).toInt = 1 from rfl]; omega), nI_Z (by omega)]
  rfl
theorem isBit_inZ (p : Int32) : f_X11_isBit p = some (inZ p.toInt 0 1) := by
  unfold f_X11_isBit
  have e0 : (0 : Int32).toInt = 0 := rfl
  have e1 : (1 : Int32).toInt = 1 := rfl
  simp only [i32_eqZ, e0, e1]
  by_cases c : p.toInt = 0
  · simp [c, inZ]
  · by_cases c2 : p.toInt = 1
    · simp [c2, inZ]
    · simp [c, c2, inZ]; omega
theorem M_find {S : TB} {D : DT} {h : HS} (hS : Mst S h) (hW : Wst S) (hD : Mte D h) (w p : Int32) : f_X12_find w p h = some (a_find S D w p) := by
  have h8 := hS.2.1
  have t2 := hD.2.1
  have p8 := pow8 (n := D.1) (by omega)
  have hl := L_mfind hS hW hD w p (2 ^ D.1) 0 1000 (-1) 0 (by omega) (by omega)
  have hl' : l_X12_find_36 w p h 1000 (-1 : Int32) (0 : Int32) (0 : Int32) = some (fG S D w (2 ^ D.1) 0 (-1) 0) := hl
  unfold f_X12_find a_find
  rw [f_in_eq, hS.1, shl6 h8, Int32.toInt_toInt64, Int32.toInt_toInt64, all_Z h8, show (0 : Int64).toInt = 0 from rfl, Option.bind_some, M_isPart, Option.bind_some, hl', Option.bind_some]
  cases inZ w.toInt 0 ((2 ^ S.1 : Nat) - 1)
  · rfl
  cases inZ p.toInt 0 1
  · rfl
  simp only [if_true]
  rcases findG_eq (hf := fun k => hrsG D (nI k) D.1 0 0) (pt := fun k => allB S D w (nI k)) (-1) 0 (2 ^ D.1) 0 (by omega) with ⟨q1, q2⟩ | ⟨q1, q2⟩
  · unfold fG
    rw [q1, q2]
    simp
  · unfold fG
    rw [q1, if_neg q2]
    split <;> rfl
theorem X_find {S : TB} {D : DT} {tg : Nat → Nat} {h : HS} (hS : Xst S tg h) (hW : Wst S) (hD : Xte D h) (hWD : Wte D) (w p : Int32) : f_X11_find w p h = some (a_find S D w p) := by
  have h8 : S.1 ≤ 8 := by obtain ⟨el, hl, -⟩ := hS; exact hl.2.2.1
  have t2 := hD.2.1
  have p8 := pow8 (n := D.1) (by omega)
  have hl := L_xfind hS hW hD hWD w p (2 ^ D.1) 0 1000 (-1) (-1) (by omega) (by omega)
  have hl' : l_X11_find_30 w p h 1000 (-1 : Int32) (-1 : Int32) (0 : Int32) = some (fG S D w (2 ^ D.1) 0 (-1) (-1)) := hl
  have ha : f_X11_allStalls h = some (nI (2 ^ S.1) - 1) := by
    obtain ⟨el, hl, -⟩ := hS
    unfold f_X11_allStalls
    rw [if_pos hl.1, hl.size, Option.bind_some, shl6 h8]
  unfold f_X11_find a_find
  rw [ha, Option.bind_some, f_isIn_eq, all_Z h8, z_0, Option.bind_some, isBit_inZ, Option.bind_some, hl', Option.bind_some]
  cases inZ w.toInt 0 ((2 ^ S.1 : Nat) - 1)
  · rfl
  cases inZ p.toInt 0 1
  · rfl
  simp only [if_true]
  split <;> rfl
