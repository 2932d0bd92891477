/-! ===== texts: the grammar, over tokens ===== -/
def jn (c v w : Int32) : Int32 := if c = 10042 then v * w else if c = 10043 then v + w else if c = 10045 then v - w else if c = 10060 then (if w ≤ v then 0 else 1) else if c = 10061 then (if v = w then 1 else 0) else if c = 10210 then (if v = 0 then (if w = 0 then 0 else 1) else 1) else if c = 10211 then (if v = 0 then 0 else (if w = 0 then 0 else 1)) else 0
def isVl (c : Int32) : Bool := if c < 10000 then true else if c < 10200 then false else if 10206 ≤ c then false else true
def pv (ev : Nat → Int32) (c : Int32) : Int32 := if c < 10000 then c else ev (c - 10200).toNatClampNeg
def skA (g : Int32 → Int32) (st : List Int32) : List Int32 := match st with
  | [] => []
  | a :: r => g a :: r
def skB (g : Int32 → Int32 → Int32) (st : List Int32) : List Int32 := match st with
  | w :: v :: r => g v w :: r
  | s => s
def stp (ev : Nat → Int32) (c : Int32) (st : List Int32) : List Int32 := if isVl c = true then pv ev c :: st else if c = 10001 then skA (fun a => -a) st else if c = 10212 then skA (fun a => if a = 0 then 1 else 0) st else skB (jn c) st
/-- what a text's tokens, each behind what it works on, come to -/
def runC (ev : Nat → Int32) (c : List Int32) (st : List Int32) : List Int32 := c.foldl (fun s t => stp ev t s) st
theorem runC_app (ev : Nat → Int32) (c d st : List Int32) : runC ev (c ++ d) st = runC ev d (runC ev c st) := List.foldl_append
theorem runC_1 (ev : Nat → Int32) (t : Int32) (st : List Int32) : runC ev [t] st = stp ev t st := rfl
abbrev PR : Type := Nat ⊕ (Nat × List Int32)
def pbn (r : PR) (k : Nat → List Int32 → PR) : PR := match r with
  | .inl j => .inl j
  | .inr q => k q.1 q.2
theorem pbn_l {j : Nat} {k : Nat → List Int32 → PR} : pbn (.inl j) k = .inl j := rfl
theorem pbn_r {i : Nat} {c : List Int32} {k : Nat → List Int32 → PR} : pbn (.inr (i, c)) k = k i c := rfl
def lpC (P : Nat → PR) (op : Int32 → Bool) (tk : Nat → Int32) : Nat → Nat → List Int32 → PR
  | 0, i, c => .inr (i, c)
  | d + 1, i, c => if op (tk i) = true then pbn (P (i + 1)) (fun i' c' => lpC P op tk d i' (c ++ c' ++ [tk i])) else .inr (i, c)
def opOr (t : Int32) : Bool := decide (t = 10210)
def opAnd (t : Int32) : Bool := decide (t = 10211)
def opSum (t : Int32) : Bool := decide (t = 10043) || decide (t = 10045)
def opMul (t : Int32) : Bool := decide (t = 10042)
def opCmp (t : Int32) : Bool := decide (t = 10060) || decide (t = 10061)
/-- how a text is read: 0 or, 1 and, 2 not and compare, 3 plus and minus, 4 times, 5 one -/
def apC (tk : Nat → Int32) : Nat → Nat → Nat → Nat → PR
  | 0, _, _, i => .inl i
  | f + 1, m, o, i =>
    if m = 0 then pbn (apC tk f 1 o i) (lpC (apC tk f 1 o) opOr tk 160)
    else if m = 1 then pbn (apC tk f 2 o i) (lpC (apC tk f 2 o) opAnd tk 160)
    else if m = 2 then (if o < 5 ∧ tk i = 10212 then pbn (apC tk f 2 (o + 1) (i + 1)) (fun i' c => .inr (i', c ++ [10212])) else pbn (apC tk f 3 o i) (fun i' c => if opCmp (tk i') = true then pbn (apC tk f 3 o (i' + 1)) (fun i2 c2 => .inr (i2, c ++ c2 ++ [tk i'])) else .inr (i', c)))
    else if m = 3 then pbn (apC tk f 4 o i) (lpC (apC tk f 4 o) opSum tk 160)
    else if m = 4 then pbn (apC tk f 5 o i) (lpC (apC tk f 5 o) opMul tk 160)
    else if m = 5 then (if isVl (tk i) = true then .inr (i + 1, [tk i]) else if o < 5 ∧ tk i = 10045 then pbn (apC tk f 5 (o + 1) (i + 1)) (fun i' c => .inr (i', c ++ [10001])) else if o < 5 ∧ tk i = 10040 then pbn (apC tk f 0 (o + 1) (i + 1)) (fun i' c => if tk i' = 10041 then .inr (i' + 1, c) else .inl i') else .inl i)
    else .inl i
theorem apC_0 (tk : Nat → Int32) (f o i : Nat) : apC tk (f + 1) 0 o i = pbn (apC tk f 1 o i) (lpC (apC tk f 1 o) opOr tk 160) := by rw [apC, if_pos rfl]
theorem apC_1 (tk : Nat → Int32) (f o i : Nat) : apC tk (f + 1) 1 o i = pbn (apC tk f 2 o i) (lpC (apC tk f 2 o) opAnd tk 160) := by rw [apC, if_neg (by decide), if_pos rfl]
theorem apC_2 (tk : Nat → Int32) (f o i : Nat) : apC tk (f + 1) 2 o i = (if o < 5 ∧ tk i = 10212 then pbn (apC tk f 2 (o + 1) (i + 1)) (fun i' c => .inr (i', c ++ [10212])) else pbn (apC tk f 3 o i) (fun i' c => if opCmp (tk i') = true then pbn (apC tk f 3 o (i' + 1)) (fun i2 c2 => .inr (i2, c ++ c2 ++ [tk i'])) else .inr (i', c))) := by rw [apC, if_neg (by decide), if_neg (by decide), if_pos rfl]
theorem apC_3 (tk : Nat → Int32) (f o i : Nat) : apC tk (f + 1) 3 o i = pbn (apC tk f 4 o i) (lpC (apC tk f 4 o) opSum tk 160) := by rw [apC, if_neg (by decide), if_neg (by decide), if_neg (by decide), if_pos rfl]
theorem apC_4 (tk : Nat → Int32) (f o i : Nat) : apC tk (f + 1) 4 o i = pbn (apC tk f 5 o i) (lpC (apC tk f 5 o) opMul tk 160) := by rw [apC, if_neg (by decide), if_neg (by decide), if_neg (by decide), if_neg (by decide), if_pos rfl]
theorem apC_5 (tk : Nat → Int32) (f o i : Nat) : apC tk (f + 1) 5 o i = (if isVl (tk i) = true then .inr (i + 1, [tk i]) else if o < 5 ∧ tk i = 10045 then pbn (apC tk f 5 (o + 1) (i + 1)) (fun i' c => .inr (i', c ++ [10001])) else if o < 5 ∧ tk i = 10040 then pbn (apC tk f 0 (o + 1) (i + 1)) (fun i' c => if tk i' = 10041 then .inr (i' + 1, c) else .inl i') else .inl i) := by rw [apC, if_neg (by decide), if_neg (by decide), if_neg (by decide), if_neg (by decide), if_neg (by decide), if_pos rfl]
/-- what is read is not longer than what it is read from -/
def PL (e : Nat) (P : Nat → PR) : Prop := ∀ i i' c, P i = .inr (i', c) → i ≤ e → i + c.length ≤ i' ∧ 1 ≤ c.length ∧ i' ≤ e
theorem lt_e {tk : Nat → Int32} {e i : Nat} (he : tk e = 10300) (hi : i ≤ e) (h : tk i ≠ 10300) : i < e := by
  by_cases c : i = e
  · rw [c] at h; exact absurd he h
  · omega
theorem lpC_len {P : Nat → PR} {op : Int32 → Bool} {tk : Nat → Int32} {e : Nat} (he : tk e = 10300) (hop : op 10300 = false) (hP : PL e P) (i0 : Nat) : ∀ (d i : Nat) (c : List Int32) (i' : Nat) (c' : List Int32), lpC P op tk d i c = .inr (i', c') → i ≤ e → i0 + c.length ≤ i → 1 ≤ c.length → i0 + c'.length ≤ i' ∧ 1 ≤ c'.length ∧ i' ≤ e := by
  intro d
  induction d with
  | zero =>
    intro i c i' c' h h1 h2 h3
    rw [lpC] at h
    cases h
    exact ⟨h2, h3, h1⟩
  | succ d ih =>
    intro i c i' c' h h1 h2 h3
    rw [lpC] at h
    by_cases ho : op (tk i) = true
    · rw [if_pos ho] at h
      have hlt := lt_e he h1 (fun z => by rw [z, hop] at ho; cases ho)
      cases hq : P (i + 1) with
      | inl j => rw [hq, pbn_l] at h; cases h
      | inr q =>
        obtain ⟨i1, c1⟩ := q
        obtain ⟨q1, q2, q3⟩ := hP _ _ _ hq (by omega)
        rw [hq, pbn_r] at h
        exact ih _ _ _ _ h q3 (by simp only [List.length_append, List.length_cons, List.length_nil]; omega) (by simp only [List.length_append, List.length_cons, List.length_nil]; omega)
    · rw [if_neg ho] at h
      cases h
      exact ⟨h2, h3, h1⟩
theorem apC_len {tk : Nat → Int32} {e : Nat} (he : tk e = 10300) : ∀ (f m o : Nat), m ≤ 5 → PL e (apC tk f m o) := by
  intro f
  induction f with
  | zero => intro m o _ i i' c h; rw [apC] at h; cases h
  | succ f ih =>
    intro m o hm i i' c h hi
    have lpq : ∀ {P : Nat → PR} {op : Int32 → Bool}, op 10300 = false → PL e P → pbn (P i) (lpC P op tk 160) = .inr (i', c) → i + c.length ≤ i' ∧ 1 ≤ c.length ∧ i' ≤ e := by
      intro P op ho hP h
      cases hq : P i with
      | inl j => rw [hq, pbn_l] at h; cases h
      | inr q =>
        obtain ⟨i1, c1⟩ := q
        obtain ⟨q1, q2, q3⟩ := hP _ _ _ hq hi
        rw [hq, pbn_r] at h
        exact lpC_len he ho hP i 160 i1 c1 i' c h q3 q1 q2
    have hm6 : m = 0 ∨ m = 1 ∨ m = 2 ∨ m = 3 ∨ m = 4 ∨ m = 5 := by omega
    rcases hm6 with e0 | e0 | e0 | e0 | e0 | e0 <;> subst e0
    · rw [apC_0] at h; exact lpq rfl (ih 1 o (by omega)) h
    · rw [apC_1] at h; exact lpq rfl (ih 2 o (by omega)) h
    · rw [apC_2] at h
      by_cases c0 : o < 5 ∧ tk i = 10212
      · rw [if_pos c0] at h
        have hlt := lt_e he hi (fun z => by rw [z] at c0; exact absurd c0.2 (by decide))
        cases hq : apC tk f 2 (o + 1) (i + 1) with
        | inl j => rw [hq, pbn_l] at h; cases h
        | inr q =>
          obtain ⟨i1, c1⟩ := q
          obtain ⟨q1, q2, q3⟩ := ih 2 (o + 1) (by omega) _ _ _ hq (by omega)
          rw [hq, pbn_r] at h
          cases h
          simp only [List.length_append, List.length_cons, List.length_nil]
          omega
      · rw [if_neg c0] at h
        cases hq : apC tk f 3 o i with
        | inl j => rw [hq, pbn_l] at h; cases h
        | inr q =>
          obtain ⟨i1, c1⟩ := q
          obtain ⟨q1, q2, q3⟩ := ih 3 o (by omega) _ _ _ hq hi
          rw [hq, pbn_r] at h
          by_cases c2 : opCmp (tk i1) = true
          · rw [if_pos c2] at h
            have hlt := lt_e he q3 (fun z => by rw [z] at c2; exact absurd c2 (by decide))
            cases hq2 : apC tk f 3 o (i1 + 1) with
            | inl j => rw [hq2, pbn_l] at h; cases h
            | inr q =>
              obtain ⟨i2, c3⟩ := q
              obtain ⟨r1, r2, r3⟩ := ih 3 o (by omega) _ _ _ hq2 (by omega)
              rw [hq2, pbn_r] at h
              cases h
              simp only [List.length_append, List.length_cons, List.length_nil]
              omega
          · rw [if_neg c2] at h
            cases h
            exact ⟨q1, q2, q3⟩
    · rw [apC_3] at h; exact lpq rfl (ih 4 o (by omega)) h
    · rw [apC_4] at h; exact lpq rfl (ih 5 o (by omega)) h
    · rw [apC_5] at h
      by_cases cv : isVl (tk i) = true
      · rw [if_pos cv] at h
        have hlt := lt_e he hi (fun z => by rw [z] at cv; exact absurd cv (by decide))
        cases h
        simp only [List.length_cons, List.length_nil]
        omega
      · rw [if_neg cv] at h
        by_cases c0 : o < 5 ∧ tk i = 10045
        · rw [if_pos c0] at h
          have hlt := lt_e he hi (fun z => by rw [z] at c0; exact absurd c0.2 (by decide))
          cases hq : apC tk f 5 (o + 1) (i + 1) with
          | inl j => rw [hq, pbn_l] at h; cases h
          | inr q =>
            obtain ⟨i1, c1⟩ := q
            obtain ⟨q1, q2, q3⟩ := ih 5 (o + 1) (by omega) _ _ _ hq (by omega)
            rw [hq, pbn_r] at h
            cases h
            simp only [List.length_append, List.length_cons, List.length_nil]
            omega
        · rw [if_neg c0] at h
          by_cases c1 : o < 5 ∧ tk i = 10040
          · rw [if_pos c1] at h
            have hlt := lt_e he hi (fun z => by rw [z] at c1; exact absurd c1.2 (by decide))
            cases hq : apC tk f 0 (o + 1) (i + 1) with
            | inl j => rw [hq, pbn_l] at h; cases h
            | inr q =>
              obtain ⟨i1, c1⟩ := q
              obtain ⟨q1, q2, q3⟩ := ih 0 (o + 1) (by omega) _ _ _ hq (by omega)
              rw [hq, pbn_r] at h
              by_cases c2 : tk i1 = 10041
              · rw [if_pos c2] at h
                have hlt2 := lt_e he q3 (fun z => by rw [z] at c2; exact absurd c2 (by decide))
                cases h
                omega
              · rw [if_neg c2] at h; cases h
          · rw [if_neg c1] at h; cases h
/-- a part: its word, what it says, its end -/
def apP (tk : Nat → Int32) (key : Int32) (i : Nat) : PR := if tk i = key then pbn (apC tk 60 0 0 (i + 1)) (fun i' c => if tk i' = 10059 then .inr (i' + 1, c) else .inl i') else .inl i
/-- the three parts of a text, or where it fails -/
def apT (tk : Nat → Int32) : Nat ⊕ (List Int32 × List Int32 × List Int32) := match apP tk 10220 0 with
  | .inl j => .inl j
  | .inr q => match apP tk 10221 q.1 with
    | .inl j => .inl j
    | .inr r => match apP tk 10222 r.1 with
      | .inl j => .inl j
      | .inr s => if tk s.1 = 10300 then .inr (q.2, r.2, s.2) else .inl s.1
theorem apP_len {tk : Nat → Int32} {e : Nat} (he : tk e = 10300) {key : Int32} (hk : key ≠ 10300) {i i' : Nat} {c : List Int32} (h : apP tk key i = .inr (i', c)) (hi : i ≤ e) : i + 1 + c.length < i' ∧ 1 ≤ c.length ∧ i' ≤ e := by
  unfold apP at h
  by_cases c0 : tk i = key
  · rw [if_pos c0] at h
    have hlt := lt_e he hi (fun z => hk (c0.symm.trans z))
    cases hq : apC tk 60 0 0 (i + 1) with
    | inl j => rw [hq, pbn_l] at h; cases h
    | inr q =>
      obtain ⟨i1, c1⟩ := q
      obtain ⟨q1, q2, q3⟩ := apC_len he 60 0 0 (by omega) _ _ _ hq (by omega)
      rw [hq, pbn_r] at h
      by_cases c2 : tk i1 = 10059
      · rw [if_pos c2] at h
        have hlt2 := lt_e he q3 (fun z => by rw [z] at c2; exact absurd c2 (by decide))
        cases h
        omega
      · rw [if_neg c2] at h; cases h
  · rw [if_neg c0] at h; cases h
